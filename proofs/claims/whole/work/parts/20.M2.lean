theorem d_M_set_0 : decode prog_10_method_7_code 0 = .ok (.aload_n 0, 1) := by decide +kernel
theorem d_M_set_1 : decode prog_10_method_7_code 1 = .ok (.iload_n 1, 1) := by decide +kernel
theorem d_M_set_2 : decode prog_10_method_7_code 2 = .ok (.iconst 0, 1) := by decide +kernel
theorem d_M_set_3 : decode prog_10_method_7_code 3 = .ok (.iconst 2, 1) := by decide +kernel
theorem d_M_set_4 : decode prog_10_method_7_code 4 = .ok (.invokestatic 125, 3) := by decide +kernel
theorem d_M_set_7 : decode prog_10_method_7_code 7 = .ok (.ifCond .eq 46, 3) := by decide +kernel
theorem d_M_set_10 : decode prog_10_method_7_code 10 = .ok (.dload 4, 2) := by decide +kernel
theorem d_M_set_12 : decode prog_10_method_7_code 12 = .ok (.ldc2_w 132, 3) := by decide +kernel
theorem d_M_set_15 : decode prog_10_method_7_code 15 = .ok (.dcmp .g, 1) := by decide +kernel
theorem d_M_set_16 : decode prog_10_method_7_code 16 = .ok (.ifCond .gt 37, 3) := by decide +kernel
theorem d_M_set_19 : decode prog_10_method_7_code 19 = .ok (.dload 4, 2) := by decide +kernel
theorem d_M_set_21 : decode prog_10_method_7_code 21 = .ok (.ldc2_w 134, 3) := by decide +kernel
theorem d_M_set_24 : decode prog_10_method_7_code 24 = .ok (.dcmp .l, 1) := by decide +kernel
theorem d_M_set_25 : decode prog_10_method_7_code 25 = .ok (.ifCond .lt 28, 3) := by decide +kernel
theorem d_M_set_28 : decode prog_10_method_7_code 28 = .ok (.dload 4, 2) := by decide +kernel
theorem d_M_set_30 : decode prog_10_method_7_code 30 = .ok (.dconst 0, 1) := by decide +kernel
theorem d_M_set_31 : decode prog_10_method_7_code 31 = .ok (.dcmp .l, 1) := by decide +kernel
theorem d_M_set_32 : decode prog_10_method_7_code 32 = .ok (.ifCond .eq 25, 3) := by decide +kernel
theorem d_M_set_35 : decode prog_10_method_7_code 35 = .ok (.dload 4, 2) := by decide +kernel
theorem d_M_set_37 : decode prog_10_method_7_code 37 = .ok (.ldc2_w 136, 3) := by decide +kernel
theorem d_M_set_40 : decode prog_10_method_7_code 40 = .ok (.dcmp .g, 1) := by decide +kernel
theorem d_M_set_41 : decode prog_10_method_7_code 41 = .ok (.ifCond .ge 16, 3) := by decide +kernel
theorem d_M_set_44 : decode prog_10_method_7_code 44 = .ok (.dload 4, 2) := by decide +kernel
theorem d_M_set_46 : decode prog_10_method_7_code 46 = .ok (.ldc2_w 138, 3) := by decide +kernel
theorem d_M_set_49 : decode prog_10_method_7_code 49 = .ok (.dcmp .l, 1) := by decide +kernel
theorem d_M_set_50 : decode prog_10_method_7_code 50 = .ok (.ifCond .le 7, 3) := by decide +kernel
theorem d_M_set_53 : decode prog_10_method_7_code 53 = .ok (.iconst 1, 1) := by decide +kernel
theorem d_M_set_54 : decode prog_10_method_7_code 54 = .ok (.goto 46, 3) := by decide +kernel
theorem d_M_set_57 : decode prog_10_method_7_code 57 = .ok (.iload_n 1, 1) := by decide +kernel
theorem d_M_set_58 : decode prog_10_method_7_code 58 = .ok (.iconst 2, 1) := by decide +kernel
theorem d_M_set_59 : decode prog_10_method_7_code 59 = .ok (.if_icmp .ge 17, 3) := by decide +kernel
theorem d_M_set_62 : decode prog_10_method_7_code 62 = .ok (.iload_n 2, 1) := by decide +kernel
theorem d_M_set_63 : decode prog_10_method_7_code 63 = .ok (.iconst 0, 1) := by decide +kernel
theorem d_M_set_64 : decode prog_10_method_7_code 64 = .ok (.aload_n 0, 1) := by decide +kernel
theorem d_M_set_65 : decode prog_10_method_7_code 65 = .ok (.getfield 99, 3) := by decide +kernel
theorem d_M_set_68 : decode prog_10_method_7_code 68 = .ok (.iconst 1, 1) := by decide +kernel
theorem d_M_set_69 : decode prog_10_method_7_code 69 = .ok (.isub, 1) := by decide +kernel
theorem d_M_set_70 : decode prog_10_method_7_code 70 = .ok (.invokestatic 125, 3) := by decide +kernel
theorem d_M_set_73 : decode prog_10_method_7_code 73 = .ok (.ifCond .eq 22, 3) := by decide +kernel
theorem d_M_set_76 : decode prog_10_method_7_code 76 = .ok (.iload_n 1, 1) := by decide +kernel
theorem d_M_set_77 : decode prog_10_method_7_code 77 = .ok (.iconst 1, 1) := by decide +kernel
theorem d_M_set_78 : decode prog_10_method_7_code 78 = .ok (.if_icmp .eq 21, 3) := by decide +kernel
theorem d_M_set_81 : decode prog_10_method_7_code 81 = .ok (.iload_n 3, 1) := by decide +kernel
theorem d_M_set_82 : decode prog_10_method_7_code 82 = .ok (.iconst 0, 1) := by decide +kernel
theorem d_M_set_83 : decode prog_10_method_7_code 83 = .ok (.aload_n 0, 1) := by decide +kernel
theorem d_M_set_84 : decode prog_10_method_7_code 84 = .ok (.getfield 103, 3) := by decide +kernel
theorem d_M_set_87 : decode prog_10_method_7_code 87 = .ok (.iconst 1, 1) := by decide +kernel
theorem d_M_set_88 : decode prog_10_method_7_code 88 = .ok (.isub, 1) := by decide +kernel
theorem d_M_set_89 : decode prog_10_method_7_code 89 = .ok (.invokestatic 125, 3) := by decide +kernel
theorem d_M_set_92 : decode prog_10_method_7_code 92 = .ok (.ifCond .ne 7, 3) := by decide +kernel
theorem d_M_set_95 : decode prog_10_method_7_code 95 = .ok (.iconst 2, 1) := by decide +kernel
theorem d_M_set_96 : decode prog_10_method_7_code 96 = .ok (.goto 4, 3) := by decide +kernel
theorem d_M_set_99 : decode prog_10_method_7_code 99 = .ok (.iconst 0, 1) := by decide +kernel
theorem d_M_set_100 : decode prog_10_method_7_code 100 = .ok (.putfield 122, 3) := by decide +kernel
theorem d_M_set_103 : decode prog_10_method_7_code 103 = .ok (.aload_n 0, 1) := by decide +kernel
theorem d_M_set_104 : decode prog_10_method_7_code 104 = .ok (.getfield 122, 3) := by decide +kernel
theorem d_M_set_107 : decode prog_10_method_7_code 107 = .ok (.ifCond .le 5, 3) := by decide +kernel
theorem d_M_set_110 : decode prog_10_method_7_code 110 = .ok (.dconst 0, 1) := by decide +kernel
theorem d_M_set_111 : decode prog_10_method_7_code 111 = .ok (.dreturn, 1) := by decide +kernel
theorem d_M_set_112 : decode prog_10_method_7_code 112 = .ok (.aload_n 0, 1) := by decide +kernel
theorem d_M_set_113 : decode prog_10_method_7_code 113 = .ok (.iconst 0, 1) := by decide +kernel
theorem d_M_set_114 : decode prog_10_method_7_code 114 = .ok (.putfield 129, 3) := by decide +kernel
theorem d_M_set_117 : decode prog_10_method_7_code 117 = .ok (.iload_n 1, 1) := by decide +kernel
theorem d_M_set_118 : decode prog_10_method_7_code 118 = .ok (.ifCond .ne 17, 3) := by decide +kernel
theorem d_M_set_121 : decode prog_10_method_7_code 121 = .ok (.aload_n 0, 1) := by decide +kernel
theorem d_M_set_122 : decode prog_10_method_7_code 122 = .ok (.getfield 7, 3) := by decide +kernel
theorem d_M_set_125 : decode prog_10_method_7_code 125 = .ok (.bipush 8, 2) := by decide +kernel
theorem d_M_set_127 : decode prog_10_method_7_code 127 = .ok (.iload_n 2, 1) := by decide +kernel
theorem d_M_set_128 : decode prog_10_method_7_code 128 = .ok (.imul, 1) := by decide +kernel
theorem d_M_set_129 : decode prog_10_method_7_code 129 = .ok (.iload_n 3, 1) := by decide +kernel
theorem d_M_set_130 : decode prog_10_method_7_code 130 = .ok (.iadd, 1) := by decide +kernel
theorem d_M_set_131 : decode prog_10_method_7_code 131 = .ok (.daload, 1) := by decide +kernel
theorem d_M_set_132 : decode prog_10_method_7_code 132 = .ok (.goto 23, 3) := by decide +kernel
theorem d_M_set_135 : decode prog_10_method_7_code 135 = .ok (.iload_n 1, 1) := by decide +kernel
theorem d_M_set_136 : decode prog_10_method_7_code 136 = .ok (.iconst 1, 1) := by decide +kernel
theorem d_M_set_137 : decode prog_10_method_7_code 137 = .ok (.if_icmp .ne 12, 3) := by decide +kernel
theorem d_M_set_140 : decode prog_10_method_7_code 140 = .ok (.aload_n 0, 1) := by decide +kernel
theorem d_M_set_141 : decode prog_10_method_7_code 141 = .ok (.getfield 13, 3) := by decide +kernel
theorem d_M_set_144 : decode prog_10_method_7_code 144 = .ok (.iload_n 2, 1) := by decide +kernel
theorem d_M_set_145 : decode prog_10_method_7_code 145 = .ok (.daload, 1) := by decide +kernel
theorem d_M_set_146 : decode prog_10_method_7_code 146 = .ok (.goto 9, 3) := by decide +kernel
theorem d_M_set_149 : decode prog_10_method_7_code 149 = .ok (.aload_n 0, 1) := by decide +kernel
theorem d_M_set_150 : decode prog_10_method_7_code 150 = .ok (.getfield 16, 3) := by decide +kernel
theorem d_M_set_153 : decode prog_10_method_7_code 153 = .ok (.iload_n 3, 1) := by decide +kernel
theorem d_M_set_154 : decode prog_10_method_7_code 154 = .ok (.daload, 1) := by decide +kernel
theorem d_M_set_155 : decode prog_10_method_7_code 155 = .ok (.dstore 6, 2) := by decide +kernel
theorem d_M_set_157 : decode prog_10_method_7_code 157 = .ok (.iload_n 1, 1) := by decide +kernel
theorem d_M_set_158 : decode prog_10_method_7_code 158 = .ok (.ifCond .ne 19, 3) := by decide +kernel
theorem d_M_set_161 : decode prog_10_method_7_code 161 = .ok (.aload_n 0, 1) := by decide +kernel
theorem d_M_set_162 : decode prog_10_method_7_code 162 = .ok (.getfield 7, 3) := by decide +kernel
theorem d_M_set_165 : decode prog_10_method_7_code 165 = .ok (.bipush 8, 2) := by decide +kernel
theorem d_M_set_167 : decode prog_10_method_7_code 167 = .ok (.iload_n 2, 1) := by decide +kernel
theorem d_M_set_168 : decode prog_10_method_7_code 168 = .ok (.imul, 1) := by decide +kernel
theorem d_M_set_169 : decode prog_10_method_7_code 169 = .ok (.iload_n 3, 1) := by decide +kernel
theorem d_M_set_170 : decode prog_10_method_7_code 170 = .ok (.iadd, 1) := by decide +kernel
theorem d_M_set_171 : decode prog_10_method_7_code 171 = .ok (.dload 4, 2) := by decide +kernel
theorem d_M_set_173 : decode prog_10_method_7_code 173 = .ok (.dastore, 1) := by decide +kernel
theorem d_M_set_174 : decode prog_10_method_7_code 174 = .ok (.goto 27, 3) := by decide +kernel
theorem d_M_set_177 : decode prog_10_method_7_code 177 = .ok (.iload_n 1, 1) := by decide +kernel
theorem d_M_set_178 : decode prog_10_method_7_code 178 = .ok (.iconst 1, 1) := by decide +kernel
theorem d_M_set_179 : decode prog_10_method_7_code 179 = .ok (.if_icmp .ne 14, 3) := by decide +kernel
theorem d_M_set_182 : decode prog_10_method_7_code 182 = .ok (.aload_n 0, 1) := by decide +kernel
theorem d_M_set_183 : decode prog_10_method_7_code 183 = .ok (.getfield 13, 3) := by decide +kernel
theorem d_M_set_186 : decode prog_10_method_7_code 186 = .ok (.iload_n 2, 1) := by decide +kernel
theorem d_M_set_187 : decode prog_10_method_7_code 187 = .ok (.dload 4, 2) := by decide +kernel
theorem d_M_set_189 : decode prog_10_method_7_code 189 = .ok (.dastore, 1) := by decide +kernel
theorem d_M_set_190 : decode prog_10_method_7_code 190 = .ok (.goto 11, 3) := by decide +kernel
theorem d_M_set_193 : decode prog_10_method_7_code 193 = .ok (.aload_n 0, 1) := by decide +kernel
theorem d_M_set_194 : decode prog_10_method_7_code 194 = .ok (.getfield 16, 3) := by decide +kernel
theorem d_M_set_197 : decode prog_10_method_7_code 197 = .ok (.iload_n 3, 1) := by decide +kernel
theorem d_M_set_198 : decode prog_10_method_7_code 198 = .ok (.dload 4, 2) := by decide +kernel
theorem d_M_set_200 : decode prog_10_method_7_code 200 = .ok (.dastore, 1) := by decide +kernel
theorem d_M_set_201 : decode prog_10_method_7_code 201 = .ok (.dload 6, 2) := by decide +kernel
theorem d_M_set_203 : decode prog_10_method_7_code 203 = .ok (.dreturn, 1) := by decide +kernel
abbrev w_M_set (T : Nat → ClassId) (q0 : Nat) (q0_a : Nat) (q0_b : Nat) (q0_c : Nat) (q0_rowScale : Nat) (q0_columnScale : Nat) (q0_sa : Nat) (q0_sb : Nat) (q0_sc : Nat) (q0_x : Nat) (q0_s : Nat) (q0_y : Nat) (q0_p : Nat) (q0_d : Nat) (q0_h : Nat) (q0_f : Nat) (q0_mm : Nat) (q0_low : Nat) (q0_dd : Nat) (q0_r : Nat) (q0_big : Nat) (q0_dt : Nat) (q0_dx : Nat) (q0_t : Nat) (q0_cost : Nat) (q0_rowScaleNow : Nat) (q0_columnScaleNow : Nat) (q0_basic : Nat) (q0_text : Nat) (q0_turned : Nat) (q0_na : Nat) (q0_nb : Nat) (q0_nc : Nat) (vq0_m : Int32) (vq0_n : Int32) (vq0_length : Int32) (vq0_where : Int32) (vq0_effort : Int32) (vq0_thrown : Int32) (vq0_at : Int32) (vq0_scaled : Int32) (vq0_solved : Int32) (vq0_second : Int32) (vq0_nm : Int32) (vq0_nn : Int32) (vq0_number : UInt64) (vq0_bad : Int32) (vq0_a : Nat → UInt64) (vq0_b : Nat → UInt64) (vq0_c : Nat → UInt64) : va_W := [(q0, .inr (8, [.ref q0_a, .ref q0_b, .ref q0_c, .ref q0_rowScale, .ref q0_columnScale, .ref q0_sa, .ref q0_sb, .ref q0_sc, .ref q0_x, .ref q0_s, .ref q0_y, .ref q0_p, .ref q0_d, .ref q0_h, .ref q0_f, .ref q0_mm, .ref q0_low, .ref q0_dd, .ref q0_r, .ref q0_big, .ref q0_dt, .ref q0_dx, .ref q0_t, .ref q0_cost, .ref q0_rowScaleNow, .ref q0_columnScaleNow, .ref q0_basic, .ref q0_text, .ref q0_turned, .int vq0_m, .int vq0_n, .int vq0_length, .int vq0_where, .int vq0_effort, .int vq0_thrown, .int vq0_at, .int vq0_scaled, .int vq0_solved, .int vq0_second, .ref q0_na, .ref q0_nb, .ref q0_nc, .int vq0_nm, .int vq0_nn, .double vq0_number, .int vq0_bad])), (q0_a, .inl (T 0, 40, .inr (.inr (.inr (.inl vq0_a))))), (q0_b, .inl (T 0, 5, .inr (.inr (.inr (.inl vq0_b))))), (q0_c, .inl (T 0, 8, .inr (.inr (.inr (.inl vq0_c)))))]
def s_M_set_J155 (vq0_m : Int32) (vq0_n : Int32) (vq0_length : Int32) (vq0_where : Int32) (vq0_effort : Int32) (vq0_thrown : Int32) (vq0_at : Int32) (vq0_scaled : Int32) (vq0_solved : Int32) (vq0_second : Int32) (vq0_nm : Int32) (vq0_nn : Int32) (vq0_number : UInt64) (vq0_bad : Int32) (vq0_a : Nat → UInt64) (vq0_b : Nat → UInt64) (vq0_c : Nat → UInt64) (x1 : Int32) (x2 : Int32) (x3 : Int32) (x4 : UInt64) (y0 : UInt64) : Option (UInt64 × Int32 × Int32 × (Nat → UInt64) × (Nat → UInt64) × (Nat → UInt64)) :=
  if x1 = 0 then (gd (inb ((8 * x2) + x3) 40) <| some (y0, vq0_thrown, vq0_solved, vf_upd vq0_a ((8 * x2) + x3).toNatClampNeg x4, vq0_b, vq0_c)) else (if x1 = 1 then (gd (inb x2 5) <| some (y0, vq0_thrown, vq0_solved, vq0_a, vf_upd vq0_b x2.toNatClampNeg x4, vq0_c)) else (gd (inb x3 8) <| some (y0, vq0_thrown, vq0_solved, vq0_a, vq0_b, vf_upd vq0_c x3.toNatClampNeg x4)))
def s_M_set (vq0_m : Int32) (vq0_n : Int32) (vq0_length : Int32) (vq0_where : Int32) (vq0_effort : Int32) (vq0_thrown : Int32) (vq0_at : Int32) (vq0_scaled : Int32) (vq0_solved : Int32) (vq0_second : Int32) (vq0_nm : Int32) (vq0_nn : Int32) (vq0_number : UInt64) (vq0_bad : Int32) (vq0_a : Nat → UInt64) (vq0_b : Nat → UInt64) (vq0_c : Nat → UInt64) (x1 : Int32) (x2 : Int32) (x3 : Int32) (x4 : UInt64) : Option (UInt64 × Int32 × Int32 × (Nat → UInt64) × (Nat → UInt64) × (Nat → UInt64)) :=
  (s_M_in x1 0 2).bind fun u6 => if u6 = 0 then (if 1 ≤ 0 then (gd (isb 0) <| if x1 = 0 then (gd (inb ((8 * x2) + x3) 40) <| s_M_set_J155 vq0_m vq0_n vq0_length vq0_where vq0_effort 1 vq0_at vq0_scaled 0 vq0_second vq0_nm vq0_nn vq0_number vq0_bad vq0_a vq0_b vq0_c x1 x2 x3 x4 (vq0_a ((8 * x2) + x3).toNatClampNeg)) else (if x1 = 1 then (gd (inb x2 5) <| s_M_set_J155 vq0_m vq0_n vq0_length vq0_where vq0_effort 1 vq0_at vq0_scaled 0 vq0_second vq0_nm vq0_nn vq0_number vq0_bad vq0_a vq0_b vq0_c x1 x2 x3 x4 (vq0_b x2.toNatClampNeg)) else (gd (inb x3 8) <| s_M_set_J155 vq0_m vq0_n vq0_length vq0_where vq0_effort 1 vq0_at vq0_scaled 0 vq0_second vq0_nm vq0_nn vq0_number vq0_bad vq0_a vq0_b vq0_c x1 x2 x3 x4 (vq0_c x3.toNatClampNeg)))) else (some (FP.dconst0, 1, vq0_solved, vq0_a, vq0_b, vq0_c))) else (if 0 < (Op.cmpValue (FP.dcmp x4 4652007308841189376) .g) then (if 1 ≤ 0 then (gd (isb 0) <| if x1 = 0 then (gd (inb ((8 * x2) + x3) 40) <| s_M_set_J155 vq0_m vq0_n vq0_length vq0_where vq0_effort 1 vq0_at vq0_scaled 0 vq0_second vq0_nm vq0_nn vq0_number vq0_bad vq0_a vq0_b vq0_c x1 x2 x3 x4 (vq0_a ((8 * x2) + x3).toNatClampNeg)) else (if x1 = 1 then (gd (inb x2 5) <| s_M_set_J155 vq0_m vq0_n vq0_length vq0_where vq0_effort 1 vq0_at vq0_scaled 0 vq0_second vq0_nm vq0_nn vq0_number vq0_bad vq0_a vq0_b vq0_c x1 x2 x3 x4 (vq0_b x2.toNatClampNeg)) else (gd (inb x3 8) <| s_M_set_J155 vq0_m vq0_n vq0_length vq0_where vq0_effort 1 vq0_at vq0_scaled 0 vq0_second vq0_nm vq0_nn vq0_number vq0_bad vq0_a vq0_b vq0_c x1 x2 x3 x4 (vq0_c x3.toNatClampNeg)))) else (some (FP.dconst0, 1, vq0_solved, vq0_a, vq0_b, vq0_c))) else (if (Op.cmpValue (FP.dcmp x4 13875379345695965184) .l) < 0 then (if 1 ≤ 0 then (gd (isb 0) <| if x1 = 0 then (gd (inb ((8 * x2) + x3) 40) <| s_M_set_J155 vq0_m vq0_n vq0_length vq0_where vq0_effort 1 vq0_at vq0_scaled 0 vq0_second vq0_nm vq0_nn vq0_number vq0_bad vq0_a vq0_b vq0_c x1 x2 x3 x4 (vq0_a ((8 * x2) + x3).toNatClampNeg)) else (if x1 = 1 then (gd (inb x2 5) <| s_M_set_J155 vq0_m vq0_n vq0_length vq0_where vq0_effort 1 vq0_at vq0_scaled 0 vq0_second vq0_nm vq0_nn vq0_number vq0_bad vq0_a vq0_b vq0_c x1 x2 x3 x4 (vq0_b x2.toNatClampNeg)) else (gd (inb x3 8) <| s_M_set_J155 vq0_m vq0_n vq0_length vq0_where vq0_effort 1 vq0_at vq0_scaled 0 vq0_second vq0_nm vq0_nn vq0_number vq0_bad vq0_a vq0_b vq0_c x1 x2 x3 x4 (vq0_c x3.toNatClampNeg)))) else (some (FP.dconst0, 1, vq0_solved, vq0_a, vq0_b, vq0_c))) else (if (Op.cmpValue (FP.dcmp x4 FP.dconst0) .l) = 0 then (if 2 ≤ x1 then (if x1 = 1 then (if 0 ≤ 0 then (gd (isb 0) <| if x1 = 0 then (gd (inb ((8 * x2) + x3) 40) <| s_M_set_J155 vq0_m vq0_n vq0_length vq0_where vq0_effort 0 vq0_at vq0_scaled 0 vq0_second vq0_nm vq0_nn vq0_number vq0_bad vq0_a vq0_b vq0_c x1 x2 x3 x4 (vq0_a ((8 * x2) + x3).toNatClampNeg)) else (if x1 = 1 then (gd (inb x2 5) <| s_M_set_J155 vq0_m vq0_n vq0_length vq0_where vq0_effort 0 vq0_at vq0_scaled 0 vq0_second vq0_nm vq0_nn vq0_number vq0_bad vq0_a vq0_b vq0_c x1 x2 x3 x4 (vq0_b x2.toNatClampNeg)) else (gd (inb x3 8) <| s_M_set_J155 vq0_m vq0_n vq0_length vq0_where vq0_effort 0 vq0_at vq0_scaled 0 vq0_second vq0_nm vq0_nn vq0_number vq0_bad vq0_a vq0_b vq0_c x1 x2 x3 x4 (vq0_c x3.toNatClampNeg)))) else (some (FP.dconst0, 0, vq0_solved, vq0_a, vq0_b, vq0_c))) else ((s_M_in x3 0 (vq0_n - 1)).bind fun u42 => if u42 = 0 then (if 2 ≤ 0 then (gd (isb 0) <| if x1 = 0 then (gd (inb ((8 * x2) + x3) 40) <| s_M_set_J155 vq0_m vq0_n vq0_length vq0_where vq0_effort 2 vq0_at vq0_scaled 0 vq0_second vq0_nm vq0_nn vq0_number vq0_bad vq0_a vq0_b vq0_c x1 x2 x3 x4 (vq0_a ((8 * x2) + x3).toNatClampNeg)) else (if x1 = 1 then (gd (inb x2 5) <| s_M_set_J155 vq0_m vq0_n vq0_length vq0_where vq0_effort 2 vq0_at vq0_scaled 0 vq0_second vq0_nm vq0_nn vq0_number vq0_bad vq0_a vq0_b vq0_c x1 x2 x3 x4 (vq0_b x2.toNatClampNeg)) else (gd (inb x3 8) <| s_M_set_J155 vq0_m vq0_n vq0_length vq0_where vq0_effort 2 vq0_at vq0_scaled 0 vq0_second vq0_nm vq0_nn vq0_number vq0_bad vq0_a vq0_b vq0_c x1 x2 x3 x4 (vq0_c x3.toNatClampNeg)))) else (some (FP.dconst0, 2, vq0_solved, vq0_a, vq0_b, vq0_c))) else (if 0 ≤ 0 then (gd (isb 0) <| if x1 = 0 then (gd (inb ((8 * x2) + x3) 40) <| s_M_set_J155 vq0_m vq0_n vq0_length vq0_where vq0_effort 0 vq0_at vq0_scaled 0 vq0_second vq0_nm vq0_nn vq0_number vq0_bad vq0_a vq0_b vq0_c x1 x2 x3 x4 (vq0_a ((8 * x2) + x3).toNatClampNeg)) else (if x1 = 1 then (gd (inb x2 5) <| s_M_set_J155 vq0_m vq0_n vq0_length vq0_where vq0_effort 0 vq0_at vq0_scaled 0 vq0_second vq0_nm vq0_nn vq0_number vq0_bad vq0_a vq0_b vq0_c x1 x2 x3 x4 (vq0_b x2.toNatClampNeg)) else (gd (inb x3 8) <| s_M_set_J155 vq0_m vq0_n vq0_length vq0_where vq0_effort 0 vq0_at vq0_scaled 0 vq0_second vq0_nm vq0_nn vq0_number vq0_bad vq0_a vq0_b vq0_c x1 x2 x3 x4 (vq0_c x3.toNatClampNeg)))) else (some (FP.dconst0, 0, vq0_solved, vq0_a, vq0_b, vq0_c))))) else ((s_M_in x2 0 (vq0_m - 1)).bind fun u59 => if u59 = 0 then (if 2 ≤ 0 then (gd (isb 0) <| if x1 = 0 then (gd (inb ((8 * x2) + x3) 40) <| s_M_set_J155 vq0_m vq0_n vq0_length vq0_where vq0_effort 2 vq0_at vq0_scaled 0 vq0_second vq0_nm vq0_nn vq0_number vq0_bad vq0_a vq0_b vq0_c x1 x2 x3 x4 (vq0_a ((8 * x2) + x3).toNatClampNeg)) else (if x1 = 1 then (gd (inb x2 5) <| s_M_set_J155 vq0_m vq0_n vq0_length vq0_where vq0_effort 2 vq0_at vq0_scaled 0 vq0_second vq0_nm vq0_nn vq0_number vq0_bad vq0_a vq0_b vq0_c x1 x2 x3 x4 (vq0_b x2.toNatClampNeg)) else (gd (inb x3 8) <| s_M_set_J155 vq0_m vq0_n vq0_length vq0_where vq0_effort 2 vq0_at vq0_scaled 0 vq0_second vq0_nm vq0_nn vq0_number vq0_bad vq0_a vq0_b vq0_c x1 x2 x3 x4 (vq0_c x3.toNatClampNeg)))) else (some (FP.dconst0, 2, vq0_solved, vq0_a, vq0_b, vq0_c))) else (if x1 = 1 then (if 0 ≤ 0 then (gd (isb 0) <| if x1 = 0 then (gd (inb ((8 * x2) + x3) 40) <| s_M_set_J155 vq0_m vq0_n vq0_length vq0_where vq0_effort 0 vq0_at vq0_scaled 0 vq0_second vq0_nm vq0_nn vq0_number vq0_bad vq0_a vq0_b vq0_c x1 x2 x3 x4 (vq0_a ((8 * x2) + x3).toNatClampNeg)) else (if x1 = 1 then (gd (inb x2 5) <| s_M_set_J155 vq0_m vq0_n vq0_length vq0_where vq0_effort 0 vq0_at vq0_scaled 0 vq0_second vq0_nm vq0_nn vq0_number vq0_bad vq0_a vq0_b vq0_c x1 x2 x3 x4 (vq0_b x2.toNatClampNeg)) else (gd (inb x3 8) <| s_M_set_J155 vq0_m vq0_n vq0_length vq0_where vq0_effort 0 vq0_at vq0_scaled 0 vq0_second vq0_nm vq0_nn vq0_number vq0_bad vq0_a vq0_b vq0_c x1 x2 x3 x4 (vq0_c x3.toNatClampNeg)))) else (some (FP.dconst0, 0, vq0_solved, vq0_a, vq0_b, vq0_c))) else ((s_M_in x3 0 (vq0_n - 1)).bind fun u77 => if u77 = 0 then (if 2 ≤ 0 then (gd (isb 0) <| if x1 = 0 then (gd (inb ((8 * x2) + x3) 40) <| s_M_set_J155 vq0_m vq0_n vq0_length vq0_where vq0_effort 2 vq0_at vq0_scaled 0 vq0_second vq0_nm vq0_nn vq0_number vq0_bad vq0_a vq0_b vq0_c x1 x2 x3 x4 (vq0_a ((8 * x2) + x3).toNatClampNeg)) else (if x1 = 1 then (gd (inb x2 5) <| s_M_set_J155 vq0_m vq0_n vq0_length vq0_where vq0_effort 2 vq0_at vq0_scaled 0 vq0_second vq0_nm vq0_nn vq0_number vq0_bad vq0_a vq0_b vq0_c x1 x2 x3 x4 (vq0_b x2.toNatClampNeg)) else (gd (inb x3 8) <| s_M_set_J155 vq0_m vq0_n vq0_length vq0_where vq0_effort 2 vq0_at vq0_scaled 0 vq0_second vq0_nm vq0_nn vq0_number vq0_bad vq0_a vq0_b vq0_c x1 x2 x3 x4 (vq0_c x3.toNatClampNeg)))) else (some (FP.dconst0, 2, vq0_solved, vq0_a, vq0_b, vq0_c))) else (if 0 ≤ 0 then (gd (isb 0) <| if x1 = 0 then (gd (inb ((8 * x2) + x3) 40) <| s_M_set_J155 vq0_m vq0_n vq0_length vq0_where vq0_effort 0 vq0_at vq0_scaled 0 vq0_second vq0_nm vq0_nn vq0_number vq0_bad vq0_a vq0_b vq0_c x1 x2 x3 x4 (vq0_a ((8 * x2) + x3).toNatClampNeg)) else (if x1 = 1 then (gd (inb x2 5) <| s_M_set_J155 vq0_m vq0_n vq0_length vq0_where vq0_effort 0 vq0_at vq0_scaled 0 vq0_second vq0_nm vq0_nn vq0_number vq0_bad vq0_a vq0_b vq0_c x1 x2 x3 x4 (vq0_b x2.toNatClampNeg)) else (gd (inb x3 8) <| s_M_set_J155 vq0_m vq0_n vq0_length vq0_where vq0_effort 0 vq0_at vq0_scaled 0 vq0_second vq0_nm vq0_nn vq0_number vq0_bad vq0_a vq0_b vq0_c x1 x2 x3 x4 (vq0_c x3.toNatClampNeg)))) else (some (FP.dconst0, 0, vq0_solved, vq0_a, vq0_b, vq0_c))))))) else (if 0 ≤ (Op.cmpValue (FP.dcmp x4 4517329193108106637) .g) then (if 2 ≤ x1 then (if x1 = 1 then (if 0 ≤ 0 then (gd (isb 0) <| if x1 = 0 then (gd (inb ((8 * x2) + x3) 40) <| s_M_set_J155 vq0_m vq0_n vq0_length vq0_where vq0_effort 0 vq0_at vq0_scaled 0 vq0_second vq0_nm vq0_nn vq0_number vq0_bad vq0_a vq0_b vq0_c x1 x2 x3 x4 (vq0_a ((8 * x2) + x3).toNatClampNeg)) else (if x1 = 1 then (gd (inb x2 5) <| s_M_set_J155 vq0_m vq0_n vq0_length vq0_where vq0_effort 0 vq0_at vq0_scaled 0 vq0_second vq0_nm vq0_nn vq0_number vq0_bad vq0_a vq0_b vq0_c x1 x2 x3 x4 (vq0_b x2.toNatClampNeg)) else (gd (inb x3 8) <| s_M_set_J155 vq0_m vq0_n vq0_length vq0_where vq0_effort 0 vq0_at vq0_scaled 0 vq0_second vq0_nm vq0_nn vq0_number vq0_bad vq0_a vq0_b vq0_c x1 x2 x3 x4 (vq0_c x3.toNatClampNeg)))) else (some (FP.dconst0, 0, vq0_solved, vq0_a, vq0_b, vq0_c))) else ((s_M_in x3 0 (vq0_n - 1)).bind fun u104 => if u104 = 0 then (if 2 ≤ 0 then (gd (isb 0) <| if x1 = 0 then (gd (inb ((8 * x2) + x3) 40) <| s_M_set_J155 vq0_m vq0_n vq0_length vq0_where vq0_effort 2 vq0_at vq0_scaled 0 vq0_second vq0_nm vq0_nn vq0_number vq0_bad vq0_a vq0_b vq0_c x1 x2 x3 x4 (vq0_a ((8 * x2) + x3).toNatClampNeg)) else (if x1 = 1 then (gd (inb x2 5) <| s_M_set_J155 vq0_m vq0_n vq0_length vq0_where vq0_effort 2 vq0_at vq0_scaled 0 vq0_second vq0_nm vq0_nn vq0_number vq0_bad vq0_a vq0_b vq0_c x1 x2 x3 x4 (vq0_b x2.toNatClampNeg)) else (gd (inb x3 8) <| s_M_set_J155 vq0_m vq0_n vq0_length vq0_where vq0_effort 2 vq0_at vq0_scaled 0 vq0_second vq0_nm vq0_nn vq0_number vq0_bad vq0_a vq0_b vq0_c x1 x2 x3 x4 (vq0_c x3.toNatClampNeg)))) else (some (FP.dconst0, 2, vq0_solved, vq0_a, vq0_b, vq0_c))) else (if 0 ≤ 0 then (gd (isb 0) <| if x1 = 0 then (gd (inb ((8 * x2) + x3) 40) <| s_M_set_J155 vq0_m vq0_n vq0_length vq0_where vq0_effort 0 vq0_at vq0_scaled 0 vq0_second vq0_nm vq0_nn vq0_number vq0_bad vq0_a vq0_b vq0_c x1 x2 x3 x4 (vq0_a ((8 * x2) + x3).toNatClampNeg)) else (if x1 = 1 then (gd (inb x2 5) <| s_M_set_J155 vq0_m vq0_n vq0_length vq0_where vq0_effort 0 vq0_at vq0_scaled 0 vq0_second vq0_nm vq0_nn vq0_number vq0_bad vq0_a vq0_b vq0_c x1 x2 x3 x4 (vq0_b x2.toNatClampNeg)) else (gd (inb x3 8) <| s_M_set_J155 vq0_m vq0_n vq0_length vq0_where vq0_effort 0 vq0_at vq0_scaled 0 vq0_second vq0_nm vq0_nn vq0_number vq0_bad vq0_a vq0_b vq0_c x1 x2 x3 x4 (vq0_c x3.toNatClampNeg)))) else (some (FP.dconst0, 0, vq0_solved, vq0_a, vq0_b, vq0_c))))) else ((s_M_in x2 0 (vq0_m - 1)).bind fun u121 => if u121 = 0 then (if 2 ≤ 0 then (gd (isb 0) <| if x1 = 0 then (gd (inb ((8 * x2) + x3) 40) <| s_M_set_J155 vq0_m vq0_n vq0_length vq0_where vq0_effort 2 vq0_at vq0_scaled 0 vq0_second vq0_nm vq0_nn vq0_number vq0_bad vq0_a vq0_b vq0_c x1 x2 x3 x4 (vq0_a ((8 * x2) + x3).toNatClampNeg)) else (if x1 = 1 then (gd (inb x2 5) <| s_M_set_J155 vq0_m vq0_n vq0_length vq0_where vq0_effort 2 vq0_at vq0_scaled 0 vq0_second vq0_nm vq0_nn vq0_number vq0_bad vq0_a vq0_b vq0_c x1 x2 x3 x4 (vq0_b x2.toNatClampNeg)) else (gd (inb x3 8) <| s_M_set_J155 vq0_m vq0_n vq0_length vq0_where vq0_effort 2 vq0_at vq0_scaled 0 vq0_second vq0_nm vq0_nn vq0_number vq0_bad vq0_a vq0_b vq0_c x1 x2 x3 x4 (vq0_c x3.toNatClampNeg)))) else (some (FP.dconst0, 2, vq0_solved, vq0_a, vq0_b, vq0_c))) else (if x1 = 1 then (if 0 ≤ 0 then (gd (isb 0) <| if x1 = 0 then (gd (inb ((8 * x2) + x3) 40) <| s_M_set_J155 vq0_m vq0_n vq0_length vq0_where vq0_effort 0 vq0_at vq0_scaled 0 vq0_second vq0_nm vq0_nn vq0_number vq0_bad vq0_a vq0_b vq0_c x1 x2 x3 x4 (vq0_a ((8 * x2) + x3).toNatClampNeg)) else (if x1 = 1 then (gd (inb x2 5) <| s_M_set_J155 vq0_m vq0_n vq0_length vq0_where vq0_effort 0 vq0_at vq0_scaled 0 vq0_second vq0_nm vq0_nn vq0_number vq0_bad vq0_a vq0_b vq0_c x1 x2 x3 x4 (vq0_b x2.toNatClampNeg)) else (gd (inb x3 8) <| s_M_set_J155 vq0_m vq0_n vq0_length vq0_where vq0_effort 0 vq0_at vq0_scaled 0 vq0_second vq0_nm vq0_nn vq0_number vq0_bad vq0_a vq0_b vq0_c x1 x2 x3 x4 (vq0_c x3.toNatClampNeg)))) else (some (FP.dconst0, 0, vq0_solved, vq0_a, vq0_b, vq0_c))) else ((s_M_in x3 0 (vq0_n - 1)).bind fun u139 => if u139 = 0 then (if 2 ≤ 0 then (gd (isb 0) <| if x1 = 0 then (gd (inb ((8 * x2) + x3) 40) <| s_M_set_J155 vq0_m vq0_n vq0_length vq0_where vq0_effort 2 vq0_at vq0_scaled 0 vq0_second vq0_nm vq0_nn vq0_number vq0_bad vq0_a vq0_b vq0_c x1 x2 x3 x4 (vq0_a ((8 * x2) + x3).toNatClampNeg)) else (if x1 = 1 then (gd (inb x2 5) <| s_M_set_J155 vq0_m vq0_n vq0_length vq0_where vq0_effort 2 vq0_at vq0_scaled 0 vq0_second vq0_nm vq0_nn vq0_number vq0_bad vq0_a vq0_b vq0_c x1 x2 x3 x4 (vq0_b x2.toNatClampNeg)) else (gd (inb x3 8) <| s_M_set_J155 vq0_m vq0_n vq0_length vq0_where vq0_effort 2 vq0_at vq0_scaled 0 vq0_second vq0_nm vq0_nn vq0_number vq0_bad vq0_a vq0_b vq0_c x1 x2 x3 x4 (vq0_c x3.toNatClampNeg)))) else (some (FP.dconst0, 2, vq0_solved, vq0_a, vq0_b, vq0_c))) else (if 0 ≤ 0 then (gd (isb 0) <| if x1 = 0 then (gd (inb ((8 * x2) + x3) 40) <| s_M_set_J155 vq0_m vq0_n vq0_length vq0_where vq0_effort 0 vq0_at vq0_scaled 0 vq0_second vq0_nm vq0_nn vq0_number vq0_bad vq0_a vq0_b vq0_c x1 x2 x3 x4 (vq0_a ((8 * x2) + x3).toNatClampNeg)) else (if x1 = 1 then (gd (inb x2 5) <| s_M_set_J155 vq0_m vq0_n vq0_length vq0_where vq0_effort 0 vq0_at vq0_scaled 0 vq0_second vq0_nm vq0_nn vq0_number vq0_bad vq0_a vq0_b vq0_c x1 x2 x3 x4 (vq0_b x2.toNatClampNeg)) else (gd (inb x3 8) <| s_M_set_J155 vq0_m vq0_n vq0_length vq0_where vq0_effort 0 vq0_at vq0_scaled 0 vq0_second vq0_nm vq0_nn vq0_number vq0_bad vq0_a vq0_b vq0_c x1 x2 x3 x4 (vq0_c x3.toNatClampNeg)))) else (some (FP.dconst0, 0, vq0_solved, vq0_a, vq0_b, vq0_c))))))) else (if (Op.cmpValue (FP.dcmp x4 13740701229962882445) .l) ≤ 0 then (if 2 ≤ x1 then (if x1 = 1 then (if 0 ≤ 0 then (gd (isb 0) <| if x1 = 0 then (gd (inb ((8 * x2) + x3) 40) <| s_M_set_J155 vq0_m vq0_n vq0_length vq0_where vq0_effort 0 vq0_at vq0_scaled 0 vq0_second vq0_nm vq0_nn vq0_number vq0_bad vq0_a vq0_b vq0_c x1 x2 x3 x4 (vq0_a ((8 * x2) + x3).toNatClampNeg)) else (if x1 = 1 then (gd (inb x2 5) <| s_M_set_J155 vq0_m vq0_n vq0_length vq0_where vq0_effort 0 vq0_at vq0_scaled 0 vq0_second vq0_nm vq0_nn vq0_number vq0_bad vq0_a vq0_b vq0_c x1 x2 x3 x4 (vq0_b x2.toNatClampNeg)) else (gd (inb x3 8) <| s_M_set_J155 vq0_m vq0_n vq0_length vq0_where vq0_effort 0 vq0_at vq0_scaled 0 vq0_second vq0_nm vq0_nn vq0_number vq0_bad vq0_a vq0_b vq0_c x1 x2 x3 x4 (vq0_c x3.toNatClampNeg)))) else (some (FP.dconst0, 0, vq0_solved, vq0_a, vq0_b, vq0_c))) else ((s_M_in x3 0 (vq0_n - 1)).bind fun u166 => if u166 = 0 then (if 2 ≤ 0 then (gd (isb 0) <| if x1 = 0 then (gd (inb ((8 * x2) + x3) 40) <| s_M_set_J155 vq0_m vq0_n vq0_length vq0_where vq0_effort 2 vq0_at vq0_scaled 0 vq0_second vq0_nm vq0_nn vq0_number vq0_bad vq0_a vq0_b vq0_c x1 x2 x3 x4 (vq0_a ((8 * x2) + x3).toNatClampNeg)) else (if x1 = 1 then (gd (inb x2 5) <| s_M_set_J155 vq0_m vq0_n vq0_length vq0_where vq0_effort 2 vq0_at vq0_scaled 0 vq0_second vq0_nm vq0_nn vq0_number vq0_bad vq0_a vq0_b vq0_c x1 x2 x3 x4 (vq0_b x2.toNatClampNeg)) else (gd (inb x3 8) <| s_M_set_J155 vq0_m vq0_n vq0_length vq0_where vq0_effort 2 vq0_at vq0_scaled 0 vq0_second vq0_nm vq0_nn vq0_number vq0_bad vq0_a vq0_b vq0_c x1 x2 x3 x4 (vq0_c x3.toNatClampNeg)))) else (some (FP.dconst0, 2, vq0_solved, vq0_a, vq0_b, vq0_c))) else (if 0 ≤ 0 then (gd (isb 0) <| if x1 = 0 then (gd (inb ((8 * x2) + x3) 40) <| s_M_set_J155 vq0_m vq0_n vq0_length vq0_where vq0_effort 0 vq0_at vq0_scaled 0 vq0_second vq0_nm vq0_nn vq0_number vq0_bad vq0_a vq0_b vq0_c x1 x2 x3 x4 (vq0_a ((8 * x2) + x3).toNatClampNeg)) else (if x1 = 1 then (gd (inb x2 5) <| s_M_set_J155 vq0_m vq0_n vq0_length vq0_where vq0_effort 0 vq0_at vq0_scaled 0 vq0_second vq0_nm vq0_nn vq0_number vq0_bad vq0_a vq0_b vq0_c x1 x2 x3 x4 (vq0_b x2.toNatClampNeg)) else (gd (inb x3 8) <| s_M_set_J155 vq0_m vq0_n vq0_length vq0_where vq0_effort 0 vq0_at vq0_scaled 0 vq0_second vq0_nm vq0_nn vq0_number vq0_bad vq0_a vq0_b vq0_c x1 x2 x3 x4 (vq0_c x3.toNatClampNeg)))) else (some (FP.dconst0, 0, vq0_solved, vq0_a, vq0_b, vq0_c))))) else ((s_M_in x2 0 (vq0_m - 1)).bind fun u183 => if u183 = 0 then (if 2 ≤ 0 then (gd (isb 0) <| if x1 = 0 then (gd (inb ((8 * x2) + x3) 40) <| s_M_set_J155 vq0_m vq0_n vq0_length vq0_where vq0_effort 2 vq0_at vq0_scaled 0 vq0_second vq0_nm vq0_nn vq0_number vq0_bad vq0_a vq0_b vq0_c x1 x2 x3 x4 (vq0_a ((8 * x2) + x3).toNatClampNeg)) else (if x1 = 1 then (gd (inb x2 5) <| s_M_set_J155 vq0_m vq0_n vq0_length vq0_where vq0_effort 2 vq0_at vq0_scaled 0 vq0_second vq0_nm vq0_nn vq0_number vq0_bad vq0_a vq0_b vq0_c x1 x2 x3 x4 (vq0_b x2.toNatClampNeg)) else (gd (inb x3 8) <| s_M_set_J155 vq0_m vq0_n vq0_length vq0_where vq0_effort 2 vq0_at vq0_scaled 0 vq0_second vq0_nm vq0_nn vq0_number vq0_bad vq0_a vq0_b vq0_c x1 x2 x3 x4 (vq0_c x3.toNatClampNeg)))) else (some (FP.dconst0, 2, vq0_solved, vq0_a, vq0_b, vq0_c))) else (if x1 = 1 then (if 0 ≤ 0 then (gd (isb 0) <| if x1 = 0 then (gd (inb ((8 * x2) + x3) 40) <| s_M_set_J155 vq0_m vq0_n vq0_length vq0_where vq0_effort 0 vq0_at vq0_scaled 0 vq0_second vq0_nm vq0_nn vq0_number vq0_bad vq0_a vq0_b vq0_c x1 x2 x3 x4 (vq0_a ((8 * x2) + x3).toNatClampNeg)) else (if x1 = 1 then (gd (inb x2 5) <| s_M_set_J155 vq0_m vq0_n vq0_length vq0_where vq0_effort 0 vq0_at vq0_scaled 0 vq0_second vq0_nm vq0_nn vq0_number vq0_bad vq0_a vq0_b vq0_c x1 x2 x3 x4 (vq0_b x2.toNatClampNeg)) else (gd (inb x3 8) <| s_M_set_J155 vq0_m vq0_n vq0_length vq0_where vq0_effort 0 vq0_at vq0_scaled 0 vq0_second vq0_nm vq0_nn vq0_number vq0_bad vq0_a vq0_b vq0_c x1 x2 x3 x4 (vq0_c x3.toNatClampNeg)))) else (some (FP.dconst0, 0, vq0_solved, vq0_a, vq0_b, vq0_c))) else ((s_M_in x3 0 (vq0_n - 1)).bind fun u201 => if u201 = 0 then (if 2 ≤ 0 then (gd (isb 0) <| if x1 = 0 then (gd (inb ((8 * x2) + x3) 40) <| s_M_set_J155 vq0_m vq0_n vq0_length vq0_where vq0_effort 2 vq0_at vq0_scaled 0 vq0_second vq0_nm vq0_nn vq0_number vq0_bad vq0_a vq0_b vq0_c x1 x2 x3 x4 (vq0_a ((8 * x2) + x3).toNatClampNeg)) else (if x1 = 1 then (gd (inb x2 5) <| s_M_set_J155 vq0_m vq0_n vq0_length vq0_where vq0_effort 2 vq0_at vq0_scaled 0 vq0_second vq0_nm vq0_nn vq0_number vq0_bad vq0_a vq0_b vq0_c x1 x2 x3 x4 (vq0_b x2.toNatClampNeg)) else (gd (inb x3 8) <| s_M_set_J155 vq0_m vq0_n vq0_length vq0_where vq0_effort 2 vq0_at vq0_scaled 0 vq0_second vq0_nm vq0_nn vq0_number vq0_bad vq0_a vq0_b vq0_c x1 x2 x3 x4 (vq0_c x3.toNatClampNeg)))) else (some (FP.dconst0, 2, vq0_solved, vq0_a, vq0_b, vq0_c))) else (if 0 ≤ 0 then (gd (isb 0) <| if x1 = 0 then (gd (inb ((8 * x2) + x3) 40) <| s_M_set_J155 vq0_m vq0_n vq0_length vq0_where vq0_effort 0 vq0_at vq0_scaled 0 vq0_second vq0_nm vq0_nn vq0_number vq0_bad vq0_a vq0_b vq0_c x1 x2 x3 x4 (vq0_a ((8 * x2) + x3).toNatClampNeg)) else (if x1 = 1 then (gd (inb x2 5) <| s_M_set_J155 vq0_m vq0_n vq0_length vq0_where vq0_effort 0 vq0_at vq0_scaled 0 vq0_second vq0_nm vq0_nn vq0_number vq0_bad vq0_a vq0_b vq0_c x1 x2 x3 x4 (vq0_b x2.toNatClampNeg)) else (gd (inb x3 8) <| s_M_set_J155 vq0_m vq0_n vq0_length vq0_where vq0_effort 0 vq0_at vq0_scaled 0 vq0_second vq0_nm vq0_nn vq0_number vq0_bad vq0_a vq0_b vq0_c x1 x2 x3 x4 (vq0_c x3.toNatClampNeg)))) else (some (FP.dconst0, 0, vq0_solved, vq0_a, vq0_b, vq0_c))))))) else (if 1 ≤ 0 then (gd (isb 0) <| if x1 = 0 then (gd (inb ((8 * x2) + x3) 40) <| s_M_set_J155 vq0_m vq0_n vq0_length vq0_where vq0_effort 1 vq0_at vq0_scaled 0 vq0_second vq0_nm vq0_nn vq0_number vq0_bad vq0_a vq0_b vq0_c x1 x2 x3 x4 (vq0_a ((8 * x2) + x3).toNatClampNeg)) else (if x1 = 1 then (gd (inb x2 5) <| s_M_set_J155 vq0_m vq0_n vq0_length vq0_where vq0_effort 1 vq0_at vq0_scaled 0 vq0_second vq0_nm vq0_nn vq0_number vq0_bad vq0_a vq0_b vq0_c x1 x2 x3 x4 (vq0_b x2.toNatClampNeg)) else (gd (inb x3 8) <| s_M_set_J155 vq0_m vq0_n vq0_length vq0_where vq0_effort 1 vq0_at vq0_scaled 0 vq0_second vq0_nm vq0_nn vq0_number vq0_bad vq0_a vq0_b vq0_c x1 x2 x3 x4 (vq0_c x3.toNatClampNeg)))) else (some (FP.dconst0, 1, vq0_solved, vq0_a, vq0_b, vq0_c))))))))
set_option maxRecDepth 100000 in
theorem j_M_set_4 (T : Nat → ClassId) (q0 : Nat) (q0_a : Nat) (q0_b : Nat) (q0_c : Nat) (q0_rowScale : Nat) (q0_columnScale : Nat) (q0_sa : Nat) (q0_sb : Nat) (q0_sc : Nat) (q0_x : Nat) (q0_s : Nat) (q0_y : Nat) (q0_p : Nat) (q0_d : Nat) (q0_h : Nat) (q0_f : Nat) (q0_mm : Nat) (q0_low : Nat) (q0_dd : Nat) (q0_r : Nat) (q0_big : Nat) (q0_dt : Nat) (q0_dx : Nat) (q0_t : Nat) (q0_cost : Nat) (q0_rowScaleNow : Nat) (q0_columnScaleNow : Nat) (q0_basic : Nat) (q0_text : Nat) (q0_turned : Nat) (q0_na : Nat) (q0_nb : Nat) (q0_nc : Nat) (vq0_m : Int32) (vq0_n : Int32) (vq0_length : Int32) (vq0_where : Int32) (vq0_effort : Int32) (vq0_thrown : Int32) (vq0_at : Int32) (vq0_scaled : Int32) (vq0_solved : Int32) (vq0_second : Int32) (vq0_nm : Int32) (vq0_nn : Int32) (vq0_number : UInt64) (vq0_bad : Int32) (vq0_a : Nat → UInt64) (vq0_b : Nat → UInt64) (vq0_c : Nat → UInt64) : ([].map (fun (i : Nat) => (w_M_set T q0 q0_a q0_b q0_c q0_rowScale q0_columnScale q0_sa q0_sb q0_sc q0_x q0_s q0_y q0_p q0_d q0_h q0_f q0_mm q0_low q0_dd q0_r q0_big q0_dt q0_dx q0_t q0_cost q0_rowScaleNow q0_columnScaleNow q0_basic q0_text q0_turned q0_na q0_nb q0_nc vq0_m vq0_n vq0_length vq0_where vq0_effort vq0_thrown vq0_at vq0_scaled vq0_solved vq0_second vq0_nm vq0_nn vq0_number vq0_bad vq0_a vq0_b vq0_c)[i]?) = (w_M_in T  ).map some) ∧ ([].map (fun (i : Nat) => (w_M_set T q0 q0_a q0_b q0_c q0_rowScale q0_columnScale q0_sa q0_sb q0_sc q0_x q0_s q0_y q0_p q0_d q0_h q0_f q0_mm q0_low q0_dd q0_r q0_big q0_dt q0_dx q0_t q0_cost q0_rowScaleNow q0_columnScaleNow q0_basic q0_text q0_turned q0_na q0_nb q0_nc vq0_m vq0_n vq0_length vq0_where vq0_effort vq0_thrown vq0_at vq0_scaled vq0_solved vq0_second vq0_nm vq0_nn vq0_number vq0_bad vq0_a vq0_b vq0_c)[i]?) = (w_M_in T  ).map some) ∧ ([0, 1, 2, 3].map (fun (i : Nat) => (w_M_set T q0 q0_a q0_b q0_c q0_rowScale q0_columnScale q0_sa q0_sb q0_sc q0_x q0_s q0_y q0_p q0_d q0_h q0_f q0_mm q0_low q0_dd q0_r q0_big q0_dt q0_dx q0_t q0_cost q0_rowScaleNow q0_columnScaleNow q0_basic q0_text q0_turned q0_na q0_nb q0_nc vq0_m vq0_n vq0_length vq0_where vq0_effort vq0_thrown vq0_at vq0_scaled vq0_solved vq0_second vq0_nm vq0_nn vq0_number vq0_bad vq0_a vq0_b vq0_c)[i]?) = [0, 1, 2, 3].map (fun (i : Nat) => (w_M_set T q0 q0_a q0_b q0_c q0_rowScale q0_columnScale q0_sa q0_sb q0_sc q0_x q0_s q0_y q0_p q0_d q0_h q0_f q0_mm q0_low q0_dd q0_r q0_big q0_dt q0_dx q0_t q0_cost q0_rowScaleNow q0_columnScaleNow q0_basic q0_text q0_turned q0_na q0_nb q0_nc vq0_m vq0_n vq0_length vq0_where vq0_effort vq0_thrown vq0_at vq0_scaled vq0_solved vq0_second vq0_nm vq0_nn vq0_number vq0_bad vq0_a vq0_b vq0_c)[i]?)) ∧ (w_M_in T  ).map Prod.fst = (w_M_in T  ).map Prod.fst ∧ (w_M_set T q0 q0_a q0_b q0_c q0_rowScale q0_columnScale q0_sa q0_sb q0_sc q0_x q0_s q0_y q0_p q0_d q0_h q0_f q0_mm q0_low q0_dd q0_r q0_big q0_dt q0_dx q0_t q0_cost q0_rowScaleNow q0_columnScaleNow q0_basic q0_text q0_turned q0_na q0_nb q0_nc vq0_m vq0_n vq0_length vq0_where vq0_effort vq0_thrown vq0_at vq0_scaled vq0_solved vq0_second vq0_nm vq0_nn vq0_number vq0_bad vq0_a vq0_b vq0_c).length = 4 :=
  ⟨rfl, rfl, Eq.trans (b := ([some (q0, .inr (8, [.ref q0_a, .ref q0_b, .ref q0_c, .ref q0_rowScale, .ref q0_columnScale, .ref q0_sa, .ref q0_sb, .ref q0_sc, .ref q0_x, .ref q0_s, .ref q0_y, .ref q0_p, .ref q0_d, .ref q0_h, .ref q0_f, .ref q0_mm, .ref q0_low, .ref q0_dd, .ref q0_r, .ref q0_big, .ref q0_dt, .ref q0_dx, .ref q0_t, .ref q0_cost, .ref q0_rowScaleNow, .ref q0_columnScaleNow, .ref q0_basic, .ref q0_text, .ref q0_turned, .int vq0_m, .int vq0_n, .int vq0_length, .int vq0_where, .int vq0_effort, .int vq0_thrown, .int vq0_at, .int vq0_scaled, .int vq0_solved, .int vq0_second, .ref q0_na, .ref q0_nb, .ref q0_nc, .int vq0_nm, .int vq0_nn, .double vq0_number, .int vq0_bad])), some (q0_a, .inl (T 0, 40, .inr (.inr (.inr (.inl vq0_a))))), some (q0_b, .inl (T 0, 5, .inr (.inr (.inr (.inl vq0_b))))), some (q0_c, .inl (T 0, 8, .inr (.inr (.inr (.inl vq0_c)))))] : List (Option (Nat × va_E)))) rfl rfl, rfl, rfl⟩
set_option maxRecDepth 100000 in
theorem j_M_set_89 (T : Nat → ClassId) (q0 : Nat) (q0_a : Nat) (q0_b : Nat) (q0_c : Nat) (q0_rowScale : Nat) (q0_columnScale : Nat) (q0_sa : Nat) (q0_sb : Nat) (q0_sc : Nat) (q0_x : Nat) (q0_s : Nat) (q0_y : Nat) (q0_p : Nat) (q0_d : Nat) (q0_h : Nat) (q0_f : Nat) (q0_mm : Nat) (q0_low : Nat) (q0_dd : Nat) (q0_r : Nat) (q0_big : Nat) (q0_dt : Nat) (q0_dx : Nat) (q0_t : Nat) (q0_cost : Nat) (q0_rowScaleNow : Nat) (q0_columnScaleNow : Nat) (q0_basic : Nat) (q0_text : Nat) (q0_turned : Nat) (q0_na : Nat) (q0_nb : Nat) (q0_nc : Nat) (vq0_m : Int32) (vq0_n : Int32) (vq0_length : Int32) (vq0_where : Int32) (vq0_effort : Int32) (vq0_thrown : Int32) (vq0_at : Int32) (vq0_scaled : Int32) (vq0_solved : Int32) (vq0_second : Int32) (vq0_nm : Int32) (vq0_nn : Int32) (vq0_number : UInt64) (vq0_bad : Int32) (vq0_a : Nat → UInt64) (vq0_b : Nat → UInt64) (vq0_c : Nat → UInt64) : ([].map (fun (i : Nat) => (w_M_set T q0 q0_a q0_b q0_c q0_rowScale q0_columnScale q0_sa q0_sb q0_sc q0_x q0_s q0_y q0_p q0_d q0_h q0_f q0_mm q0_low q0_dd q0_r q0_big q0_dt q0_dx q0_t q0_cost q0_rowScaleNow q0_columnScaleNow q0_basic q0_text q0_turned q0_na q0_nb q0_nc vq0_m vq0_n vq0_length vq0_where vq0_effort vq0_thrown vq0_at vq0_scaled vq0_solved vq0_second vq0_nm vq0_nn vq0_number vq0_bad vq0_a vq0_b vq0_c)[i]?) = (w_M_in T  ).map some) ∧ ([].map (fun (i : Nat) => (w_M_set T q0 q0_a q0_b q0_c q0_rowScale q0_columnScale q0_sa q0_sb q0_sc q0_x q0_s q0_y q0_p q0_d q0_h q0_f q0_mm q0_low q0_dd q0_r q0_big q0_dt q0_dx q0_t q0_cost q0_rowScaleNow q0_columnScaleNow q0_basic q0_text q0_turned q0_na q0_nb q0_nc vq0_m vq0_n vq0_length vq0_where vq0_effort vq0_thrown vq0_at vq0_scaled vq0_solved vq0_second vq0_nm vq0_nn vq0_number vq0_bad vq0_a vq0_b vq0_c)[i]?) = (w_M_in T  ).map some) ∧ ([0, 1, 2, 3].map (fun (i : Nat) => (w_M_set T q0 q0_a q0_b q0_c q0_rowScale q0_columnScale q0_sa q0_sb q0_sc q0_x q0_s q0_y q0_p q0_d q0_h q0_f q0_mm q0_low q0_dd q0_r q0_big q0_dt q0_dx q0_t q0_cost q0_rowScaleNow q0_columnScaleNow q0_basic q0_text q0_turned q0_na q0_nb q0_nc vq0_m vq0_n vq0_length vq0_where vq0_effort vq0_thrown vq0_at vq0_scaled vq0_solved vq0_second vq0_nm vq0_nn vq0_number vq0_bad vq0_a vq0_b vq0_c)[i]?) = [0, 1, 2, 3].map (fun (i : Nat) => (w_M_set T q0 q0_a q0_b q0_c q0_rowScale q0_columnScale q0_sa q0_sb q0_sc q0_x q0_s q0_y q0_p q0_d q0_h q0_f q0_mm q0_low q0_dd q0_r q0_big q0_dt q0_dx q0_t q0_cost q0_rowScaleNow q0_columnScaleNow q0_basic q0_text q0_turned q0_na q0_nb q0_nc vq0_m vq0_n vq0_length vq0_where vq0_effort vq0_thrown vq0_at vq0_scaled vq0_solved vq0_second vq0_nm vq0_nn vq0_number vq0_bad vq0_a vq0_b vq0_c)[i]?)) ∧ (w_M_in T  ).map Prod.fst = (w_M_in T  ).map Prod.fst ∧ (w_M_set T q0 q0_a q0_b q0_c q0_rowScale q0_columnScale q0_sa q0_sb q0_sc q0_x q0_s q0_y q0_p q0_d q0_h q0_f q0_mm q0_low q0_dd q0_r q0_big q0_dt q0_dx q0_t q0_cost q0_rowScaleNow q0_columnScaleNow q0_basic q0_text q0_turned q0_na q0_nb q0_nc vq0_m vq0_n vq0_length vq0_where vq0_effort vq0_thrown vq0_at vq0_scaled vq0_solved vq0_second vq0_nm vq0_nn vq0_number vq0_bad vq0_a vq0_b vq0_c).length = 4 :=
  ⟨rfl, rfl, Eq.trans (b := ([some (q0, .inr (8, [.ref q0_a, .ref q0_b, .ref q0_c, .ref q0_rowScale, .ref q0_columnScale, .ref q0_sa, .ref q0_sb, .ref q0_sc, .ref q0_x, .ref q0_s, .ref q0_y, .ref q0_p, .ref q0_d, .ref q0_h, .ref q0_f, .ref q0_mm, .ref q0_low, .ref q0_dd, .ref q0_r, .ref q0_big, .ref q0_dt, .ref q0_dx, .ref q0_t, .ref q0_cost, .ref q0_rowScaleNow, .ref q0_columnScaleNow, .ref q0_basic, .ref q0_text, .ref q0_turned, .int vq0_m, .int vq0_n, .int vq0_length, .int vq0_where, .int vq0_effort, .int vq0_thrown, .int vq0_at, .int vq0_scaled, .int vq0_solved, .int vq0_second, .ref q0_na, .ref q0_nb, .ref q0_nc, .int vq0_nm, .int vq0_nn, .double vq0_number, .int vq0_bad])), some (q0_a, .inl (T 0, 40, .inr (.inr (.inr (.inl vq0_a))))), some (q0_b, .inl (T 0, 5, .inr (.inr (.inr (.inl vq0_b))))), some (q0_c, .inl (T 0, 8, .inr (.inr (.inr (.inl vq0_c)))))] : List (Option (Nat × va_E)))) rfl rfl, rfl, rfl⟩
set_option maxRecDepth 100000 in
theorem j_M_set_70 (T : Nat → ClassId) (q0 : Nat) (q0_a : Nat) (q0_b : Nat) (q0_c : Nat) (q0_rowScale : Nat) (q0_columnScale : Nat) (q0_sa : Nat) (q0_sb : Nat) (q0_sc : Nat) (q0_x : Nat) (q0_s : Nat) (q0_y : Nat) (q0_p : Nat) (q0_d : Nat) (q0_h : Nat) (q0_f : Nat) (q0_mm : Nat) (q0_low : Nat) (q0_dd : Nat) (q0_r : Nat) (q0_big : Nat) (q0_dt : Nat) (q0_dx : Nat) (q0_t : Nat) (q0_cost : Nat) (q0_rowScaleNow : Nat) (q0_columnScaleNow : Nat) (q0_basic : Nat) (q0_text : Nat) (q0_turned : Nat) (q0_na : Nat) (q0_nb : Nat) (q0_nc : Nat) (vq0_m : Int32) (vq0_n : Int32) (vq0_length : Int32) (vq0_where : Int32) (vq0_effort : Int32) (vq0_thrown : Int32) (vq0_at : Int32) (vq0_scaled : Int32) (vq0_solved : Int32) (vq0_second : Int32) (vq0_nm : Int32) (vq0_nn : Int32) (vq0_number : UInt64) (vq0_bad : Int32) (vq0_a : Nat → UInt64) (vq0_b : Nat → UInt64) (vq0_c : Nat → UInt64) : ([].map (fun (i : Nat) => (w_M_set T q0 q0_a q0_b q0_c q0_rowScale q0_columnScale q0_sa q0_sb q0_sc q0_x q0_s q0_y q0_p q0_d q0_h q0_f q0_mm q0_low q0_dd q0_r q0_big q0_dt q0_dx q0_t q0_cost q0_rowScaleNow q0_columnScaleNow q0_basic q0_text q0_turned q0_na q0_nb q0_nc vq0_m vq0_n vq0_length vq0_where vq0_effort vq0_thrown vq0_at vq0_scaled vq0_solved vq0_second vq0_nm vq0_nn vq0_number vq0_bad vq0_a vq0_b vq0_c)[i]?) = (w_M_in T  ).map some) ∧ ([].map (fun (i : Nat) => (w_M_set T q0 q0_a q0_b q0_c q0_rowScale q0_columnScale q0_sa q0_sb q0_sc q0_x q0_s q0_y q0_p q0_d q0_h q0_f q0_mm q0_low q0_dd q0_r q0_big q0_dt q0_dx q0_t q0_cost q0_rowScaleNow q0_columnScaleNow q0_basic q0_text q0_turned q0_na q0_nb q0_nc vq0_m vq0_n vq0_length vq0_where vq0_effort vq0_thrown vq0_at vq0_scaled vq0_solved vq0_second vq0_nm vq0_nn vq0_number vq0_bad vq0_a vq0_b vq0_c)[i]?) = (w_M_in T  ).map some) ∧ ([0, 1, 2, 3].map (fun (i : Nat) => (w_M_set T q0 q0_a q0_b q0_c q0_rowScale q0_columnScale q0_sa q0_sb q0_sc q0_x q0_s q0_y q0_p q0_d q0_h q0_f q0_mm q0_low q0_dd q0_r q0_big q0_dt q0_dx q0_t q0_cost q0_rowScaleNow q0_columnScaleNow q0_basic q0_text q0_turned q0_na q0_nb q0_nc vq0_m vq0_n vq0_length vq0_where vq0_effort vq0_thrown vq0_at vq0_scaled vq0_solved vq0_second vq0_nm vq0_nn vq0_number vq0_bad vq0_a vq0_b vq0_c)[i]?) = [0, 1, 2, 3].map (fun (i : Nat) => (w_M_set T q0 q0_a q0_b q0_c q0_rowScale q0_columnScale q0_sa q0_sb q0_sc q0_x q0_s q0_y q0_p q0_d q0_h q0_f q0_mm q0_low q0_dd q0_r q0_big q0_dt q0_dx q0_t q0_cost q0_rowScaleNow q0_columnScaleNow q0_basic q0_text q0_turned q0_na q0_nb q0_nc vq0_m vq0_n vq0_length vq0_where vq0_effort vq0_thrown vq0_at vq0_scaled vq0_solved vq0_second vq0_nm vq0_nn vq0_number vq0_bad vq0_a vq0_b vq0_c)[i]?)) ∧ (w_M_in T  ).map Prod.fst = (w_M_in T  ).map Prod.fst ∧ (w_M_set T q0 q0_a q0_b q0_c q0_rowScale q0_columnScale q0_sa q0_sb q0_sc q0_x q0_s q0_y q0_p q0_d q0_h q0_f q0_mm q0_low q0_dd q0_r q0_big q0_dt q0_dx q0_t q0_cost q0_rowScaleNow q0_columnScaleNow q0_basic q0_text q0_turned q0_na q0_nb q0_nc vq0_m vq0_n vq0_length vq0_where vq0_effort vq0_thrown vq0_at vq0_scaled vq0_solved vq0_second vq0_nm vq0_nn vq0_number vq0_bad vq0_a vq0_b vq0_c).length = 4 :=
  ⟨rfl, rfl, Eq.trans (b := ([some (q0, .inr (8, [.ref q0_a, .ref q0_b, .ref q0_c, .ref q0_rowScale, .ref q0_columnScale, .ref q0_sa, .ref q0_sb, .ref q0_sc, .ref q0_x, .ref q0_s, .ref q0_y, .ref q0_p, .ref q0_d, .ref q0_h, .ref q0_f, .ref q0_mm, .ref q0_low, .ref q0_dd, .ref q0_r, .ref q0_big, .ref q0_dt, .ref q0_dx, .ref q0_t, .ref q0_cost, .ref q0_rowScaleNow, .ref q0_columnScaleNow, .ref q0_basic, .ref q0_text, .ref q0_turned, .int vq0_m, .int vq0_n, .int vq0_length, .int vq0_where, .int vq0_effort, .int vq0_thrown, .int vq0_at, .int vq0_scaled, .int vq0_solved, .int vq0_second, .ref q0_na, .ref q0_nb, .ref q0_nc, .int vq0_nm, .int vq0_nn, .double vq0_number, .int vq0_bad])), some (q0_a, .inl (T 0, 40, .inr (.inr (.inr (.inl vq0_a))))), some (q0_b, .inl (T 0, 5, .inr (.inr (.inr (.inl vq0_b))))), some (q0_c, .inl (T 0, 8, .inr (.inr (.inr (.inl vq0_c)))))] : List (Option (Nat × va_E)))) rfl rfl, rfl, rfl⟩
set_option maxHeartbeats 4000000 in
set_option maxRecDepth 100000 in
theorem c_M_set (l : Launch) (D : va_G) (T : Nat → ClassId) (q0 : Nat) (q0_a : Nat) (q0_b : Nat) (q0_c : Nat) (q0_rowScale : Nat) (q0_columnScale : Nat) (q0_sa : Nat) (q0_sb : Nat) (q0_sc : Nat) (q0_x : Nat) (q0_s : Nat) (q0_y : Nat) (q0_p : Nat) (q0_d : Nat) (q0_h : Nat) (q0_f : Nat) (q0_mm : Nat) (q0_low : Nat) (q0_dd : Nat) (q0_r : Nat) (q0_big : Nat) (q0_dt : Nat) (q0_dx : Nat) (q0_t : Nat) (q0_cost : Nat) (q0_rowScaleNow : Nat) (q0_columnScaleNow : Nat) (q0_basic : Nat) (q0_text : Nat) (q0_turned : Nat) (q0_na : Nat) (q0_nb : Nat) (q0_nc : Nat) (vq0_m : Int32) (vq0_n : Int32) (vq0_length : Int32) (vq0_where : Int32) (vq0_effort : Int32) (vq0_thrown : Int32) (vq0_at : Int32) (vq0_scaled : Int32) (vq0_solved : Int32) (vq0_second : Int32) (vq0_nm : Int32) (vq0_nn : Int32) (vq0_number : UInt64) (vq0_bad : Int32) (vq0_a : Nat → UInt64) (vq0_b : Nat → UInt64) (vq0_c : Nat → UInt64) (x1 : Int32) (x2 : Int32) (x3 : Int32) (x4 : UInt64) (rm : UInt64 × Int32 × Int32 × (Nat → UInt64) × (Nat → UInt64) × (Nat → UInt64)) (h : s_M_set vq0_m vq0_n vq0_length vq0_where vq0_effort vq0_thrown vq0_at vq0_scaled vq0_solved vq0_second vq0_nm vq0_nn vq0_number vq0_bad vq0_a vq0_b vq0_c x1 x2 x3 x4 = some rm) : CtD l y_M_set (Cond.code y_M_set prog_10_method_7_code 8 (some .double) :: BIG) 1 22 D T [.ref q0, .int x1, .int x2, .int x3, .double x4] (w_M_set T q0 q0_a q0_b q0_c q0_rowScale q0_columnScale q0_sa q0_sb q0_sc q0_x q0_s q0_y q0_p q0_d q0_h q0_f q0_mm q0_low q0_dd q0_r q0_big q0_dt q0_dx q0_t q0_cost q0_rowScaleNow q0_columnScaleNow q0_basic q0_text q0_turned q0_na q0_nb q0_nc vq0_m vq0_n vq0_length vq0_where vq0_effort vq0_thrown vq0_at vq0_scaled vq0_solved vq0_second vq0_nm vq0_nn vq0_number vq0_bad vq0_a vq0_b vq0_c) (fun r => r.1) (fun r => (w_M_set T q0 q0_a q0_b q0_c q0_rowScale q0_columnScale q0_sa q0_sb q0_sc q0_x q0_s q0_y q0_p q0_d q0_h q0_f q0_mm q0_low q0_dd q0_r q0_big q0_dt q0_dx q0_t q0_cost q0_rowScaleNow q0_columnScaleNow q0_basic q0_text q0_turned q0_na q0_nb q0_nc vq0_m vq0_n vq0_length vq0_where vq0_effort r.2.1 vq0_at vq0_scaled r.2.2.1 vq0_second vq0_nm vq0_nn vq0_number vq0_bad r.2.2.2.1 r.2.2.2.2.1 r.2.2.2.2.2)) rm := by
  refine cf_entry (y := y_M_set) (cc := prog_10_method_7_code) (nL := 8) (ret := (some .double)) (fr := 1) (lo := 22) (T := T) (av := [.ref q0, .int x1, .int x2, .int x3, .double x4]) (w := (w_M_set T q0 q0_a q0_b q0_c q0_rowScale q0_columnScale q0_sa q0_sb q0_sc q0_x q0_s q0_y q0_p q0_d q0_h q0_f q0_mm q0_low q0_dd q0_r q0_big q0_dt q0_dx q0_t q0_cost q0_rowScaleNow q0_columnScaleNow q0_basic q0_text q0_turned q0_na q0_nb q0_nc vq0_m vq0_n vq0_length vq0_where vq0_effort vq0_thrown vq0_at vq0_scaled vq0_solved vq0_second vq0_nm vq0_nn vq0_number vq0_bad vq0_a vq0_b vq0_c)) (Qc := cfQd D (fun r => r.1) (fun r => (w_M_set T q0 q0_a q0_b q0_c q0_rowScale q0_columnScale q0_sa q0_sb q0_sc q0_x q0_s q0_y q0_p q0_d q0_h q0_f q0_mm q0_low q0_dd q0_r q0_big q0_dt q0_dx q0_t q0_cost q0_rowScaleNow q0_columnScaleNow q0_basic q0_text q0_turned q0_na q0_nb q0_nc vq0_m vq0_n vq0_length vq0_where vq0_effort r.2.1 vq0_at vq0_scaled r.2.2.1 vq0_second vq0_nm vq0_nn vq0_number vq0_bad r.2.2.2.1 r.2.2.2.2.1 r.2.2.2.2.2)) rm) (by decide) rfl (Nat.le_of_ble_eq_true rfl) ?_
  intro p e s m args below meth c A Q H locs ls hx hb hr hlocks hml hown hts hNW hK hA hQ hP hD hS hl
  have hown : s.vm.findClass "ConeForgeModel" = some m.cls := hown
  have hl : lv_has ls 8 [(0, .ref q0), (1, .int x1), (2, .int x2), (3, .int x3), (4, .double x4)] := hl
  have J155 : ∀ (vq0_thrown : Int32) (vq0_solved : Int32) (vq0_a : Nat → UInt64) (vq0_b : Nat → UInt64) (vq0_c : Nat → UInt64) (x1 : Int32) (x2 : Int32) (x3 : Int32) (x4 : UInt64) (y0 : UInt64), ∀ (H : Heap) (locs : List Loc) (ls : Array Slot), va_P D CL (w_M_set T q0 q0_a q0_b q0_c q0_rowScale q0_columnScale q0_sa q0_sb q0_sc q0_x q0_s q0_y q0_p q0_d q0_h q0_f q0_mm q0_low q0_dd q0_r q0_big q0_dt q0_dx q0_t q0_cost q0_rowScaleNow q0_columnScaleNow q0_basic q0_text q0_turned q0_na q0_nb q0_nc vq0_m vq0_n vq0_length vq0_where vq0_effort vq0_thrown vq0_at vq0_scaled vq0_solved vq0_second vq0_nm vq0_nn vq0_number vq0_bad vq0_a vq0_b vq0_c) H → va_D A (w_M_set T q0 q0_a q0_b q0_c q0_rowScale q0_columnScale q0_sa q0_sb q0_sc q0_x q0_s q0_y q0_p q0_d q0_h q0_f q0_mm q0_low q0_dd q0_r q0_big q0_dt q0_dx q0_t q0_cost q0_rowScaleNow q0_columnScaleNow q0_basic q0_text q0_turned q0_na q0_nb q0_nc vq0_m vq0_n vq0_length vq0_where vq0_effort vq0_thrown vq0_at vq0_scaled vq0_solved vq0_second vq0_nm vq0_nn vq0_number vq0_bad vq0_a vq0_b vq0_c) → va_S A s.heap H locs → lv_has ls 8 [(0, .ref q0), (1, .int x1), (2, .int x2), (3, .int x3), (4, .double x4)] → s_M_set_J155 vq0_m vq0_n vq0_length vq0_where vq0_effort vq0_thrown vq0_at vq0_scaled vq0_solved vq0_second vq0_nm vq0_nn vq0_number vq0_bad vq0_a vq0_b vq0_c x1 x2 x3 x4 y0 = some rm → W p l e (rmk 1 22) s m args below meth c H locs 0 0 Q (F0 m 155 ls [.double y0]) := by
    intro vq0_thrown vq0_solved vq0_a vq0_b vq0_c x1 x2 x3 x4 y0 H locs ls hP hD hS hl h
    unfold s_M_set_J155 at h
    refine lv_dstore (lv' := [(6, .double y0), (0, .ref q0), (1, .int x1), (2, .int x2), (3, .int x3), (4, .double x4)]) hx hb d_M_set_155 hl (by decide) rfl (fun ls hl => ?_)
    refine lv_iload_n hx hb d_M_set_157 rfl (lv_at hl 2 rfl) ?_
    refine lv_if_ne (tgt := 177) hx hb d_M_set_158 (by decide) (fun c1 => ?_) (fun c1 => ?_)
    · have h := it_f c1 h
      refine lv_iload_n hx hb d_M_set_177 rfl (lv_at hl 2 rfl) ?_
      refine lv_iconst (v := 1) hx hb d_M_set_178 (by decide) ?_
      refine lv_icmp_ne (tgt := 193) hx hb d_M_set_179 (by decide) (fun c2 => ?_) (fun c2 => ?_)
      · have h := it_f c2 h
        refine lv_aload_n hx hb d_M_set_193 rfl (lv_at hl 1 rfl) ?_
        refine va_get (D := D) (ci := 8) (v := .ref q0_c) (C := "ConeForgeModel") (T := FM) (N := 46) hx hb hts iM hown hK hP 0 rfl rfl 2 (by decide) (hts _ (bgc bw686)) (fun _ h9 => h9) rfl d_M_set_194 ?_
        refine lv_iload_n hx hb d_M_set_197 rfl (lv_at hl 4 rfl) ?_
        refine lv_dload hx hb d_M_set_198 (lv_at hl 5 rfl) ?_
        obtain ⟨g3, h⟩ := gd_some h
        refine va_dast hx hb hK hP hD hS 3 0 rfl rfl (inb_in g3) d_M_set_200 (fun H locs hP hD hS => ?_)
        have hP : va_P D CL (w_M_set T q0 q0_a q0_b q0_c q0_rowScale q0_columnScale q0_sa q0_sb q0_sc q0_x q0_s q0_y q0_p q0_d q0_h q0_f q0_mm q0_low q0_dd q0_r q0_big q0_dt q0_dx q0_t q0_cost q0_rowScaleNow q0_columnScaleNow q0_basic q0_text q0_turned q0_na q0_nb q0_nc vq0_m vq0_n vq0_length vq0_where vq0_effort vq0_thrown vq0_at vq0_scaled vq0_solved vq0_second vq0_nm vq0_nn vq0_number vq0_bad vq0_a vq0_b (vf_upd vq0_c x3.toNatClampNeg x4)) H := hP
        have hD : va_D A (w_M_set T q0 q0_a q0_b q0_c q0_rowScale q0_columnScale q0_sa q0_sb q0_sc q0_x q0_s q0_y q0_p q0_d q0_h q0_f q0_mm q0_low q0_dd q0_r q0_big q0_dt q0_dx q0_t q0_cost q0_rowScaleNow q0_columnScaleNow q0_basic q0_text q0_turned q0_na q0_nb q0_nc vq0_m vq0_n vq0_length vq0_where vq0_effort vq0_thrown vq0_at vq0_scaled vq0_solved vq0_second vq0_nm vq0_nn vq0_number vq0_bad vq0_a vq0_b (vf_upd vq0_c x3.toNatClampNeg x4)) := hD
        refine lv_dload hx hb d_M_set_201 (lv_at hl 0 rfl) ?_
        exact rtD hx hb hr hlocks hQ (Option.some.inj h) hP hS d_M_set_203 rfl rfl
      · have h := it_t c2 h
        refine lv_aload_n hx hb d_M_set_182 rfl (lv_at hl 1 rfl) ?_
        refine va_get (D := D) (ci := 8) (v := .ref q0_b) (C := "ConeForgeModel") (T := FM) (N := 46) hx hb hts iM hown hK hP 0 rfl rfl 1 (by decide) (hts _ (bgc bw685)) (fun _ h9 => h9) rfl d_M_set_183 ?_
        refine lv_iload_n hx hb d_M_set_186 rfl (lv_at hl 3 rfl) ?_
        refine lv_dload hx hb d_M_set_187 (lv_at hl 5 rfl) ?_
        obtain ⟨g4, h⟩ := gd_some h
        refine va_dast hx hb hK hP hD hS 2 0 rfl rfl (inb_in g4) d_M_set_189 (fun H locs hP hD hS => ?_)
        have hP : va_P D CL (w_M_set T q0 q0_a q0_b q0_c q0_rowScale q0_columnScale q0_sa q0_sb q0_sc q0_x q0_s q0_y q0_p q0_d q0_h q0_f q0_mm q0_low q0_dd q0_r q0_big q0_dt q0_dx q0_t q0_cost q0_rowScaleNow q0_columnScaleNow q0_basic q0_text q0_turned q0_na q0_nb q0_nc vq0_m vq0_n vq0_length vq0_where vq0_effort vq0_thrown vq0_at vq0_scaled vq0_solved vq0_second vq0_nm vq0_nn vq0_number vq0_bad vq0_a (vf_upd vq0_b x2.toNatClampNeg x4) vq0_c) H := hP
        have hD : va_D A (w_M_set T q0 q0_a q0_b q0_c q0_rowScale q0_columnScale q0_sa q0_sb q0_sc q0_x q0_s q0_y q0_p q0_d q0_h q0_f q0_mm q0_low q0_dd q0_r q0_big q0_dt q0_dx q0_t q0_cost q0_rowScaleNow q0_columnScaleNow q0_basic q0_text q0_turned q0_na q0_nb q0_nc vq0_m vq0_n vq0_length vq0_where vq0_effort vq0_thrown vq0_at vq0_scaled vq0_solved vq0_second vq0_nm vq0_nn vq0_number vq0_bad vq0_a (vf_upd vq0_b x2.toNatClampNeg x4) vq0_c) := hD
        refine lv_goto (tgt := 201) hx hb d_M_set_190 (by decide) ?_
        refine lv_dload hx hb d_M_set_201 (lv_at hl 0 rfl) ?_
        exact rtD hx hb hr hlocks hQ (Option.some.inj h) hP hS d_M_set_203 rfl rfl
    · have h := it_t c1 h
      refine lv_aload_n hx hb d_M_set_161 rfl (lv_at hl 1 rfl) ?_
      refine va_get (D := D) (ci := 8) (v := .ref q0_a) (C := "ConeForgeModel") (T := FM) (N := 46) hx hb hts iM hown hK hP 0 rfl rfl 0 (by decide) (hts _ (bgc bw684)) (fun _ h9 => h9) rfl d_M_set_162 ?_
      refine lv_bipush (v := 8) hx hb d_M_set_165 (by decide) ?_
      refine lv_iload_n hx hb d_M_set_167 rfl (lv_at hl 3 rfl) ?_
      refine lv_imul hx hb d_M_set_168 ?_
      refine lv_iload_n hx hb d_M_set_169 rfl (lv_at hl 4 rfl) ?_
      refine lv_iadd hx hb d_M_set_170 ?_
      refine lv_dload hx hb d_M_set_171 (lv_at hl 5 rfl) ?_
      obtain ⟨g5, h⟩ := gd_some h
      refine va_dast hx hb hK hP hD hS 1 0 rfl rfl (inb_in g5) d_M_set_173 (fun H locs hP hD hS => ?_)
      have hP : va_P D CL (w_M_set T q0 q0_a q0_b q0_c q0_rowScale q0_columnScale q0_sa q0_sb q0_sc q0_x q0_s q0_y q0_p q0_d q0_h q0_f q0_mm q0_low q0_dd q0_r q0_big q0_dt q0_dx q0_t q0_cost q0_rowScaleNow q0_columnScaleNow q0_basic q0_text q0_turned q0_na q0_nb q0_nc vq0_m vq0_n vq0_length vq0_where vq0_effort vq0_thrown vq0_at vq0_scaled vq0_solved vq0_second vq0_nm vq0_nn vq0_number vq0_bad (vf_upd vq0_a ((8 * x2) + x3).toNatClampNeg x4) vq0_b vq0_c) H := hP
      have hD : va_D A (w_M_set T q0 q0_a q0_b q0_c q0_rowScale q0_columnScale q0_sa q0_sb q0_sc q0_x q0_s q0_y q0_p q0_d q0_h q0_f q0_mm q0_low q0_dd q0_r q0_big q0_dt q0_dx q0_t q0_cost q0_rowScaleNow q0_columnScaleNow q0_basic q0_text q0_turned q0_na q0_nb q0_nc vq0_m vq0_n vq0_length vq0_where vq0_effort vq0_thrown vq0_at vq0_scaled vq0_solved vq0_second vq0_nm vq0_nn vq0_number vq0_bad (vf_upd vq0_a ((8 * x2) + x3).toNatClampNeg x4) vq0_b vq0_c) := hD
      refine lv_goto (tgt := 201) hx hb d_M_set_174 (by decide) ?_
      refine lv_dload hx hb d_M_set_201 (lv_at hl 0 rfl) ?_
      exact rtD hx hb hr hlocks hQ (Option.some.inj h) hP hS d_M_set_203 rfl rfl
  unfold s_M_set at h
  refine lv_aload_n hx hb d_M_set_0 rfl (lv_at hl 0 rfl) ?_
  refine lv_iload_n hx hb d_M_set_1 rfl (lv_at hl 1 rfl) ?_
  refine lv_iconst (v := 0) hx hb d_M_set_2 (by decide) ?_
  refine lv_iconst (v := 2) hx hb d_M_set_3 (by decide) ?_
  obtain ⟨u6, hu6, h⟩ := bi_some h
  have jj7 := j_M_set_4 T q0 q0_a q0_b q0_c q0_rowScale q0_columnScale q0_sa q0_sb q0_sc q0_x q0_s q0_y q0_p q0_d q0_h q0_f q0_mm q0_low q0_dd q0_r q0_big q0_dt q0_dx q0_t q0_cost q0_rowScaleNow q0_columnScaleNow q0_basic q0_text q0_turned q0_na q0_nb q0_nc vq0_m vq0_n vq0_length vq0_where vq0_effort vq0_thrown vq0_at vq0_scaled vq0_solved vq0_second vq0_nm vq0_nn vq0_number vq0_bad vq0_a vq0_b vq0_c
  refine kI2 (v := u6) (wc := (w_M_in T  )) (wc' := (w_M_in T  )) (w_M_set T q0 q0_a q0_b q0_c q0_rowScale q0_columnScale q0_sa q0_sb q0_sc q0_x q0_s q0_y q0_p q0_d q0_h q0_f q0_mm q0_low q0_dd q0_r q0_big q0_dt q0_dx q0_t q0_cost q0_rowScaleNow q0_columnScaleNow q0_basic q0_text q0_turned q0_na q0_nb q0_nc vq0_m vq0_n vq0_length vq0_where vq0_effort vq0_thrown vq0_at vq0_scaled vq0_solved vq0_second vq0_nm vq0_nn vq0_number vq0_bad vq0_a vq0_b vq0_c) (runOS (As := [.int x1, .int 0, .int 2]) (rest := [.ref q0]) ((c_M_in l D T   x1 0 2 u6 hu6) H.size) ⟨hx, hb, hml, hown, hts⟩ (cwOS bw785 bw786 bw105 bw787 dd_M_in hts ⟨Nat.le_of_ble_eq_true rfl, Nat.le_of_ble_eq_true rfl⟩)  hNW hK hP hD [] jj7.1 (by decide) rfl hl.1 rfl (lv_room (Nat.le_of_ble_eq_true rfl)) d_M_set_4 ⟨Nat.le_of_ble_eq_true rfl, Nat.le_of_ble_eq_true rfl⟩) hP hD hS hA [] [0, 1, 2, 3] jj7.1 jj7.2.1 jj7.2.2.1 (N := 4) jj7.2.2.2.2 (by decide) jj7.2.2.2.1 (fun H locs hP hD hS => ?_)
  refine lv_if_eq (tgt := 53) hx hb d_M_set_7 (by decide) (fun c8 => ?_) (fun c8 => ?_)
  · have h := it_t c8 h
    refine lv_iconst (v := 1) hx hb d_M_set_53 (by decide) ?_
    refine lv_goto (tgt := 100) hx hb d_M_set_54 (by decide) ?_
    refine va_put (D := D) (ci := 8) (v := .int 1) (ty := .int) (C := "ConeForgeModel") (T := FM) (N := 46) hx hb hts iM tM tM_ok nmM hown hK hP hD hS 0 rfl rfl 34 (by decide) (hts _ (bgc bw718)) (fun _ h9 => h9) rfl (by decide +kernel) rfl rfl (Nat.le_of_ble_eq_true rfl) d_M_set_100 (fun H locs hP hD hS => ?_)
    have hP : va_P D CL (w_M_set T q0 q0_a q0_b q0_c q0_rowScale q0_columnScale q0_sa q0_sb q0_sc q0_x q0_s q0_y q0_p q0_d q0_h q0_f q0_mm q0_low q0_dd q0_r q0_big q0_dt q0_dx q0_t q0_cost q0_rowScaleNow q0_columnScaleNow q0_basic q0_text q0_turned q0_na q0_nb q0_nc vq0_m vq0_n vq0_length vq0_where vq0_effort 1 vq0_at vq0_scaled vq0_solved vq0_second vq0_nm vq0_nn vq0_number vq0_bad vq0_a vq0_b vq0_c) H := hP
    have hD : va_D A (w_M_set T q0 q0_a q0_b q0_c q0_rowScale q0_columnScale q0_sa q0_sb q0_sc q0_x q0_s q0_y q0_p q0_d q0_h q0_f q0_mm q0_low q0_dd q0_r q0_big q0_dt q0_dx q0_t q0_cost q0_rowScaleNow q0_columnScaleNow q0_basic q0_text q0_turned q0_na q0_nb q0_nc vq0_m vq0_n vq0_length vq0_where vq0_effort 1 vq0_at vq0_scaled vq0_solved vq0_second vq0_nm vq0_nn vq0_number vq0_bad vq0_a vq0_b vq0_c) := hD
    refine lv_aload_n hx hb d_M_set_103 rfl (lv_at hl 0 rfl) ?_
    refine va_get (D := D) (ci := 8) (v := .int 1) (C := "ConeForgeModel") (T := FM) (N := 46) hx hb hts iM hown hK hP 0 rfl rfl 34 (by decide) (hts _ (bgc bw718)) (fun _ h9 => h9) rfl d_M_set_104 ?_
    refine lv_if_le (tgt := 112) hx hb d_M_set_107 (by decide) (fun c9 => ?_) (fun c9 => ?_)
    · have h := it_t c9 h
      refine lv_aload_n hx hb d_M_set_112 rfl (lv_at hl 0 rfl) ?_
      refine lv_iconst (v := 0) hx hb d_M_set_113 (by decide) ?_
      obtain ⟨g10, h⟩ := gd_some h
      refine va_put (D := D) (ci := 8) (v := .int 0) (ty := .boolean) (C := "ConeForgeModel") (T := FM) (N := 46) hx hb hts iM tM tM_ok nmM hown hK hP hD hS 0 rfl rfl 37 (by decide) (hts _ (bgc bw721)) (fun _ h9 => h9) rfl (by decide +kernel) (isb_n g10) (isb_f g10) (Nat.le_of_ble_eq_true rfl) d_M_set_114 (fun H locs hP hD hS => ?_)
      have hP : va_P D CL (w_M_set T q0 q0_a q0_b q0_c q0_rowScale q0_columnScale q0_sa q0_sb q0_sc q0_x q0_s q0_y q0_p q0_d q0_h q0_f q0_mm q0_low q0_dd q0_r q0_big q0_dt q0_dx q0_t q0_cost q0_rowScaleNow q0_columnScaleNow q0_basic q0_text q0_turned q0_na q0_nb q0_nc vq0_m vq0_n vq0_length vq0_where vq0_effort 1 vq0_at vq0_scaled 0 vq0_second vq0_nm vq0_nn vq0_number vq0_bad vq0_a vq0_b vq0_c) H := hP
      have hD : va_D A (w_M_set T q0 q0_a q0_b q0_c q0_rowScale q0_columnScale q0_sa q0_sb q0_sc q0_x q0_s q0_y q0_p q0_d q0_h q0_f q0_mm q0_low q0_dd q0_r q0_big q0_dt q0_dx q0_t q0_cost q0_rowScaleNow q0_columnScaleNow q0_basic q0_text q0_turned q0_na q0_nb q0_nc vq0_m vq0_n vq0_length vq0_where vq0_effort 1 vq0_at vq0_scaled 0 vq0_second vq0_nm vq0_nn vq0_number vq0_bad vq0_a vq0_b vq0_c) := hD
      refine lv_iload_n hx hb d_M_set_117 rfl (lv_at hl 1 rfl) ?_
      refine lv_if_ne (tgt := 135) hx hb d_M_set_118 (by decide) (fun c11 => ?_) (fun c11 => ?_)
      · have h := it_f c11 h
        refine lv_iload_n hx hb d_M_set_135 rfl (lv_at hl 1 rfl) ?_
        refine lv_iconst (v := 1) hx hb d_M_set_136 (by decide) ?_
        refine lv_icmp_ne (tgt := 149) hx hb d_M_set_137 (by decide) (fun c12 => ?_) (fun c12 => ?_)
        · have h := it_f c12 h
          refine lv_aload_n hx hb d_M_set_149 rfl (lv_at hl 0 rfl) ?_
          refine va_get (D := D) (ci := 8) (v := .ref q0_c) (C := "ConeForgeModel") (T := FM) (N := 46) hx hb hts iM hown hK hP 0 rfl rfl 2 (by decide) (hts _ (bgc bw686)) (fun _ h9 => h9) rfl d_M_set_150 ?_
          refine lv_iload_n hx hb d_M_set_153 rfl (lv_at hl 3 rfl) ?_
          obtain ⟨g13, h⟩ := gd_some h
          refine va_dald hx hb hK hP 3 0 rfl rfl (inb_in g13) d_M_set_154 ?_
          exact J155 1 0 vq0_a vq0_b vq0_c x1 x2 x3 x4 (vq0_c x3.toNatClampNeg) H locs ls hP hD hS (lv_sub hl [0, 1, 2, 3, 4] rfl) h
        · have h := it_t c12 h
          refine lv_aload_n hx hb d_M_set_140 rfl (lv_at hl 0 rfl) ?_
          refine va_get (D := D) (ci := 8) (v := .ref q0_b) (C := "ConeForgeModel") (T := FM) (N := 46) hx hb hts iM hown hK hP 0 rfl rfl 1 (by decide) (hts _ (bgc bw685)) (fun _ h9 => h9) rfl d_M_set_141 ?_
          refine lv_iload_n hx hb d_M_set_144 rfl (lv_at hl 2 rfl) ?_
          obtain ⟨g14, h⟩ := gd_some h
          refine va_dald hx hb hK hP 2 0 rfl rfl (inb_in g14) d_M_set_145 ?_
          refine lv_goto (tgt := 155) hx hb d_M_set_146 (by decide) ?_
          exact J155 1 0 vq0_a vq0_b vq0_c x1 x2 x3 x4 (vq0_b x2.toNatClampNeg) H locs ls hP hD hS (lv_sub hl [0, 1, 2, 3, 4] rfl) h
      · have h := it_t c11 h
        refine lv_aload_n hx hb d_M_set_121 rfl (lv_at hl 0 rfl) ?_
        refine va_get (D := D) (ci := 8) (v := .ref q0_a) (C := "ConeForgeModel") (T := FM) (N := 46) hx hb hts iM hown hK hP 0 rfl rfl 0 (by decide) (hts _ (bgc bw684)) (fun _ h9 => h9) rfl d_M_set_122 ?_
        refine lv_bipush (v := 8) hx hb d_M_set_125 (by decide) ?_
        refine lv_iload_n hx hb d_M_set_127 rfl (lv_at hl 2 rfl) ?_
        refine lv_imul hx hb d_M_set_128 ?_
        refine lv_iload_n hx hb d_M_set_129 rfl (lv_at hl 3 rfl) ?_
        refine lv_iadd hx hb d_M_set_130 ?_
        obtain ⟨g15, h⟩ := gd_some h
        refine va_dald hx hb hK hP 1 0 rfl rfl (inb_in g15) d_M_set_131 ?_
        refine lv_goto (tgt := 155) hx hb d_M_set_132 (by decide) ?_
        exact J155 1 0 vq0_a vq0_b vq0_c x1 x2 x3 x4 (vq0_a ((8 * x2) + x3).toNatClampNeg) H locs ls hP hD hS (lv_sub hl [0, 1, 2, 3, 4] rfl) h
    · have h := it_f c9 h
      refine lv_dconst0 hx hb d_M_set_110 ?_
      exact rtD hx hb hr hlocks hQ (Option.some.inj h) hP hS d_M_set_111 rfl rfl
  · have h := it_f c8 h
    refine lv_dload hx hb d_M_set_10 (lv_at hl 4 rfl) ?_
    refine lv_ldc2d (v := 4652007308841189376) hx hb hown (hts _ (bgc bw792)) d_M_set_12 ?_
    refine lv_dcmp hx hb d_M_set_15 ?_
    refine lv_if_gt (tgt := 53) hx hb d_M_set_16 (by decide) (fun c16 => ?_) (fun c16 => ?_)
    · have h := it_t c16 h
      refine lv_iconst (v := 1) hx hb d_M_set_53 (by decide) ?_
      refine lv_goto (tgt := 100) hx hb d_M_set_54 (by decide) ?_
      refine va_put (D := D) (ci := 8) (v := .int 1) (ty := .int) (C := "ConeForgeModel") (T := FM) (N := 46) hx hb hts iM tM tM_ok nmM hown hK hP hD hS 0 rfl rfl 34 (by decide) (hts _ (bgc bw718)) (fun _ h9 => h9) rfl (by decide +kernel) rfl rfl (Nat.le_of_ble_eq_true rfl) d_M_set_100 (fun H locs hP hD hS => ?_)
      have hP : va_P D CL (w_M_set T q0 q0_a q0_b q0_c q0_rowScale q0_columnScale q0_sa q0_sb q0_sc q0_x q0_s q0_y q0_p q0_d q0_h q0_f q0_mm q0_low q0_dd q0_r q0_big q0_dt q0_dx q0_t q0_cost q0_rowScaleNow q0_columnScaleNow q0_basic q0_text q0_turned q0_na q0_nb q0_nc vq0_m vq0_n vq0_length vq0_where vq0_effort 1 vq0_at vq0_scaled vq0_solved vq0_second vq0_nm vq0_nn vq0_number vq0_bad vq0_a vq0_b vq0_c) H := hP
      have hD : va_D A (w_M_set T q0 q0_a q0_b q0_c q0_rowScale q0_columnScale q0_sa q0_sb q0_sc q0_x q0_s q0_y q0_p q0_d q0_h q0_f q0_mm q0_low q0_dd q0_r q0_big q0_dt q0_dx q0_t q0_cost q0_rowScaleNow q0_columnScaleNow q0_basic q0_text q0_turned q0_na q0_nb q0_nc vq0_m vq0_n vq0_length vq0_where vq0_effort 1 vq0_at vq0_scaled vq0_solved vq0_second vq0_nm vq0_nn vq0_number vq0_bad vq0_a vq0_b vq0_c) := hD
      refine lv_aload_n hx hb d_M_set_103 rfl (lv_at hl 0 rfl) ?_
      refine va_get (D := D) (ci := 8) (v := .int 1) (C := "ConeForgeModel") (T := FM) (N := 46) hx hb hts iM hown hK hP 0 rfl rfl 34 (by decide) (hts _ (bgc bw718)) (fun _ h9 => h9) rfl d_M_set_104 ?_
      refine lv_if_le (tgt := 112) hx hb d_M_set_107 (by decide) (fun c17 => ?_) (fun c17 => ?_)
      · have h := it_t c17 h
        refine lv_aload_n hx hb d_M_set_112 rfl (lv_at hl 0 rfl) ?_
        refine lv_iconst (v := 0) hx hb d_M_set_113 (by decide) ?_
        obtain ⟨g18, h⟩ := gd_some h
        refine va_put (D := D) (ci := 8) (v := .int 0) (ty := .boolean) (C := "ConeForgeModel") (T := FM) (N := 46) hx hb hts iM tM tM_ok nmM hown hK hP hD hS 0 rfl rfl 37 (by decide) (hts _ (bgc bw721)) (fun _ h9 => h9) rfl (by decide +kernel) (isb_n g18) (isb_f g18) (Nat.le_of_ble_eq_true rfl) d_M_set_114 (fun H locs hP hD hS => ?_)
        have hP : va_P D CL (w_M_set T q0 q0_a q0_b q0_c q0_rowScale q0_columnScale q0_sa q0_sb q0_sc q0_x q0_s q0_y q0_p q0_d q0_h q0_f q0_mm q0_low q0_dd q0_r q0_big q0_dt q0_dx q0_t q0_cost q0_rowScaleNow q0_columnScaleNow q0_basic q0_text q0_turned q0_na q0_nb q0_nc vq0_m vq0_n vq0_length vq0_where vq0_effort 1 vq0_at vq0_scaled 0 vq0_second vq0_nm vq0_nn vq0_number vq0_bad vq0_a vq0_b vq0_c) H := hP
        have hD : va_D A (w_M_set T q0 q0_a q0_b q0_c q0_rowScale q0_columnScale q0_sa q0_sb q0_sc q0_x q0_s q0_y q0_p q0_d q0_h q0_f q0_mm q0_low q0_dd q0_r q0_big q0_dt q0_dx q0_t q0_cost q0_rowScaleNow q0_columnScaleNow q0_basic q0_text q0_turned q0_na q0_nb q0_nc vq0_m vq0_n vq0_length vq0_where vq0_effort 1 vq0_at vq0_scaled 0 vq0_second vq0_nm vq0_nn vq0_number vq0_bad vq0_a vq0_b vq0_c) := hD
        refine lv_iload_n hx hb d_M_set_117 rfl (lv_at hl 1 rfl) ?_
        refine lv_if_ne (tgt := 135) hx hb d_M_set_118 (by decide) (fun c19 => ?_) (fun c19 => ?_)
        · have h := it_f c19 h
          refine lv_iload_n hx hb d_M_set_135 rfl (lv_at hl 1 rfl) ?_
          refine lv_iconst (v := 1) hx hb d_M_set_136 (by decide) ?_
          refine lv_icmp_ne (tgt := 149) hx hb d_M_set_137 (by decide) (fun c20 => ?_) (fun c20 => ?_)
          · have h := it_f c20 h
            refine lv_aload_n hx hb d_M_set_149 rfl (lv_at hl 0 rfl) ?_
            refine va_get (D := D) (ci := 8) (v := .ref q0_c) (C := "ConeForgeModel") (T := FM) (N := 46) hx hb hts iM hown hK hP 0 rfl rfl 2 (by decide) (hts _ (bgc bw686)) (fun _ h9 => h9) rfl d_M_set_150 ?_
            refine lv_iload_n hx hb d_M_set_153 rfl (lv_at hl 3 rfl) ?_
            obtain ⟨g21, h⟩ := gd_some h
            refine va_dald hx hb hK hP 3 0 rfl rfl (inb_in g21) d_M_set_154 ?_
            exact J155 1 0 vq0_a vq0_b vq0_c x1 x2 x3 x4 (vq0_c x3.toNatClampNeg) H locs ls hP hD hS (lv_sub hl [0, 1, 2, 3, 4] rfl) h
          · have h := it_t c20 h
            refine lv_aload_n hx hb d_M_set_140 rfl (lv_at hl 0 rfl) ?_
            refine va_get (D := D) (ci := 8) (v := .ref q0_b) (C := "ConeForgeModel") (T := FM) (N := 46) hx hb hts iM hown hK hP 0 rfl rfl 1 (by decide) (hts _ (bgc bw685)) (fun _ h9 => h9) rfl d_M_set_141 ?_
            refine lv_iload_n hx hb d_M_set_144 rfl (lv_at hl 2 rfl) ?_
            obtain ⟨g22, h⟩ := gd_some h
            refine va_dald hx hb hK hP 2 0 rfl rfl (inb_in g22) d_M_set_145 ?_
            refine lv_goto (tgt := 155) hx hb d_M_set_146 (by decide) ?_
            exact J155 1 0 vq0_a vq0_b vq0_c x1 x2 x3 x4 (vq0_b x2.toNatClampNeg) H locs ls hP hD hS (lv_sub hl [0, 1, 2, 3, 4] rfl) h
        · have h := it_t c19 h
          refine lv_aload_n hx hb d_M_set_121 rfl (lv_at hl 0 rfl) ?_
          refine va_get (D := D) (ci := 8) (v := .ref q0_a) (C := "ConeForgeModel") (T := FM) (N := 46) hx hb hts iM hown hK hP 0 rfl rfl 0 (by decide) (hts _ (bgc bw684)) (fun _ h9 => h9) rfl d_M_set_122 ?_
          refine lv_bipush (v := 8) hx hb d_M_set_125 (by decide) ?_
          refine lv_iload_n hx hb d_M_set_127 rfl (lv_at hl 2 rfl) ?_
          refine lv_imul hx hb d_M_set_128 ?_
          refine lv_iload_n hx hb d_M_set_129 rfl (lv_at hl 3 rfl) ?_
          refine lv_iadd hx hb d_M_set_130 ?_
          obtain ⟨g23, h⟩ := gd_some h
          refine va_dald hx hb hK hP 1 0 rfl rfl (inb_in g23) d_M_set_131 ?_
          refine lv_goto (tgt := 155) hx hb d_M_set_132 (by decide) ?_
          exact J155 1 0 vq0_a vq0_b vq0_c x1 x2 x3 x4 (vq0_a ((8 * x2) + x3).toNatClampNeg) H locs ls hP hD hS (lv_sub hl [0, 1, 2, 3, 4] rfl) h
      · have h := it_f c17 h
        refine lv_dconst0 hx hb d_M_set_110 ?_
        exact rtD hx hb hr hlocks hQ (Option.some.inj h) hP hS d_M_set_111 rfl rfl
    · have h := it_f c16 h
      refine lv_dload hx hb d_M_set_19 (lv_at hl 4 rfl) ?_
      refine lv_ldc2d (v := 13875379345695965184) hx hb hown (hts _ (bgc bw793)) d_M_set_21 ?_
      refine lv_dcmp hx hb d_M_set_24 ?_
      refine lv_if_lt (tgt := 53) hx hb d_M_set_25 (by decide) (fun c24 => ?_) (fun c24 => ?_)
      · have h := it_t c24 h
        refine lv_iconst (v := 1) hx hb d_M_set_53 (by decide) ?_
        refine lv_goto (tgt := 100) hx hb d_M_set_54 (by decide) ?_
        refine va_put (D := D) (ci := 8) (v := .int 1) (ty := .int) (C := "ConeForgeModel") (T := FM) (N := 46) hx hb hts iM tM tM_ok nmM hown hK hP hD hS 0 rfl rfl 34 (by decide) (hts _ (bgc bw718)) (fun _ h9 => h9) rfl (by decide +kernel) rfl rfl (Nat.le_of_ble_eq_true rfl) d_M_set_100 (fun H locs hP hD hS => ?_)
        have hP : va_P D CL (w_M_set T q0 q0_a q0_b q0_c q0_rowScale q0_columnScale q0_sa q0_sb q0_sc q0_x q0_s q0_y q0_p q0_d q0_h q0_f q0_mm q0_low q0_dd q0_r q0_big q0_dt q0_dx q0_t q0_cost q0_rowScaleNow q0_columnScaleNow q0_basic q0_text q0_turned q0_na q0_nb q0_nc vq0_m vq0_n vq0_length vq0_where vq0_effort 1 vq0_at vq0_scaled vq0_solved vq0_second vq0_nm vq0_nn vq0_number vq0_bad vq0_a vq0_b vq0_c) H := hP
        have hD : va_D A (w_M_set T q0 q0_a q0_b q0_c q0_rowScale q0_columnScale q0_sa q0_sb q0_sc q0_x q0_s q0_y q0_p q0_d q0_h q0_f q0_mm q0_low q0_dd q0_r q0_big q0_dt q0_dx q0_t q0_cost q0_rowScaleNow q0_columnScaleNow q0_basic q0_text q0_turned q0_na q0_nb q0_nc vq0_m vq0_n vq0_length vq0_where vq0_effort 1 vq0_at vq0_scaled vq0_solved vq0_second vq0_nm vq0_nn vq0_number vq0_bad vq0_a vq0_b vq0_c) := hD
        refine lv_aload_n hx hb d_M_set_103 rfl (lv_at hl 0 rfl) ?_
        refine va_get (D := D) (ci := 8) (v := .int 1) (C := "ConeForgeModel") (T := FM) (N := 46) hx hb hts iM hown hK hP 0 rfl rfl 34 (by decide) (hts _ (bgc bw718)) (fun _ h9 => h9) rfl d_M_set_104 ?_
        refine lv_if_le (tgt := 112) hx hb d_M_set_107 (by decide) (fun c25 => ?_) (fun c25 => ?_)
        · have h := it_t c25 h
          refine lv_aload_n hx hb d_M_set_112 rfl (lv_at hl 0 rfl) ?_
          refine lv_iconst (v := 0) hx hb d_M_set_113 (by decide) ?_
          obtain ⟨g26, h⟩ := gd_some h
          refine va_put (D := D) (ci := 8) (v := .int 0) (ty := .boolean) (C := "ConeForgeModel") (T := FM) (N := 46) hx hb hts iM tM tM_ok nmM hown hK hP hD hS 0 rfl rfl 37 (by decide) (hts _ (bgc bw721)) (fun _ h9 => h9) rfl (by decide +kernel) (isb_n g26) (isb_f g26) (Nat.le_of_ble_eq_true rfl) d_M_set_114 (fun H locs hP hD hS => ?_)
          have hP : va_P D CL (w_M_set T q0 q0_a q0_b q0_c q0_rowScale q0_columnScale q0_sa q0_sb q0_sc q0_x q0_s q0_y q0_p q0_d q0_h q0_f q0_mm q0_low q0_dd q0_r q0_big q0_dt q0_dx q0_t q0_cost q0_rowScaleNow q0_columnScaleNow q0_basic q0_text q0_turned q0_na q0_nb q0_nc vq0_m vq0_n vq0_length vq0_where vq0_effort 1 vq0_at vq0_scaled 0 vq0_second vq0_nm vq0_nn vq0_number vq0_bad vq0_a vq0_b vq0_c) H := hP
          have hD : va_D A (w_M_set T q0 q0_a q0_b q0_c q0_rowScale q0_columnScale q0_sa q0_sb q0_sc q0_x q0_s q0_y q0_p q0_d q0_h q0_f q0_mm q0_low q0_dd q0_r q0_big q0_dt q0_dx q0_t q0_cost q0_rowScaleNow q0_columnScaleNow q0_basic q0_text q0_turned q0_na q0_nb q0_nc vq0_m vq0_n vq0_length vq0_where vq0_effort 1 vq0_at vq0_scaled 0 vq0_second vq0_nm vq0_nn vq0_number vq0_bad vq0_a vq0_b vq0_c) := hD
          refine lv_iload_n hx hb d_M_set_117 rfl (lv_at hl 1 rfl) ?_
          refine lv_if_ne (tgt := 135) hx hb d_M_set_118 (by decide) (fun c27 => ?_) (fun c27 => ?_)
          · have h := it_f c27 h
            refine lv_iload_n hx hb d_M_set_135 rfl (lv_at hl 1 rfl) ?_
            refine lv_iconst (v := 1) hx hb d_M_set_136 (by decide) ?_
            refine lv_icmp_ne (tgt := 149) hx hb d_M_set_137 (by decide) (fun c28 => ?_) (fun c28 => ?_)
            · have h := it_f c28 h
              refine lv_aload_n hx hb d_M_set_149 rfl (lv_at hl 0 rfl) ?_
              refine va_get (D := D) (ci := 8) (v := .ref q0_c) (C := "ConeForgeModel") (T := FM) (N := 46) hx hb hts iM hown hK hP 0 rfl rfl 2 (by decide) (hts _ (bgc bw686)) (fun _ h9 => h9) rfl d_M_set_150 ?_
              refine lv_iload_n hx hb d_M_set_153 rfl (lv_at hl 3 rfl) ?_
              obtain ⟨g29, h⟩ := gd_some h
              refine va_dald hx hb hK hP 3 0 rfl rfl (inb_in g29) d_M_set_154 ?_
              exact J155 1 0 vq0_a vq0_b vq0_c x1 x2 x3 x4 (vq0_c x3.toNatClampNeg) H locs ls hP hD hS (lv_sub hl [0, 1, 2, 3, 4] rfl) h
            · have h := it_t c28 h
              refine lv_aload_n hx hb d_M_set_140 rfl (lv_at hl 0 rfl) ?_
              refine va_get (D := D) (ci := 8) (v := .ref q0_b) (C := "ConeForgeModel") (T := FM) (N := 46) hx hb hts iM hown hK hP 0 rfl rfl 1 (by decide) (hts _ (bgc bw685)) (fun _ h9 => h9) rfl d_M_set_141 ?_
              refine lv_iload_n hx hb d_M_set_144 rfl (lv_at hl 2 rfl) ?_
              obtain ⟨g30, h⟩ := gd_some h
              refine va_dald hx hb hK hP 2 0 rfl rfl (inb_in g30) d_M_set_145 ?_
              refine lv_goto (tgt := 155) hx hb d_M_set_146 (by decide) ?_
              exact J155 1 0 vq0_a vq0_b vq0_c x1 x2 x3 x4 (vq0_b x2.toNatClampNeg) H locs ls hP hD hS (lv_sub hl [0, 1, 2, 3, 4] rfl) h
          · have h := it_t c27 h
            refine lv_aload_n hx hb d_M_set_121 rfl (lv_at hl 0 rfl) ?_
            refine va_get (D := D) (ci := 8) (v := .ref q0_a) (C := "ConeForgeModel") (T := FM) (N := 46) hx hb hts iM hown hK hP 0 rfl rfl 0 (by decide) (hts _ (bgc bw684)) (fun _ h9 => h9) rfl d_M_set_122 ?_
            refine lv_bipush (v := 8) hx hb d_M_set_125 (by decide) ?_
            refine lv_iload_n hx hb d_M_set_127 rfl (lv_at hl 2 rfl) ?_
            refine lv_imul hx hb d_M_set_128 ?_
            refine lv_iload_n hx hb d_M_set_129 rfl (lv_at hl 3 rfl) ?_
            refine lv_iadd hx hb d_M_set_130 ?_
            obtain ⟨g31, h⟩ := gd_some h
            refine va_dald hx hb hK hP 1 0 rfl rfl (inb_in g31) d_M_set_131 ?_
            refine lv_goto (tgt := 155) hx hb d_M_set_132 (by decide) ?_
            exact J155 1 0 vq0_a vq0_b vq0_c x1 x2 x3 x4 (vq0_a ((8 * x2) + x3).toNatClampNeg) H locs ls hP hD hS (lv_sub hl [0, 1, 2, 3, 4] rfl) h
        · have h := it_f c25 h
          refine lv_dconst0 hx hb d_M_set_110 ?_
          exact rtD hx hb hr hlocks hQ (Option.some.inj h) hP hS d_M_set_111 rfl rfl
      · have h := it_f c24 h
        refine lv_dload hx hb d_M_set_28 (lv_at hl 4 rfl) ?_
        refine lv_dconst0 hx hb d_M_set_30 ?_
        refine lv_dcmp hx hb d_M_set_31 ?_
        refine lv_if_eq (tgt := 57) hx hb d_M_set_32 (by decide) (fun c32 => ?_) (fun c32 => ?_)
        · have h := it_t c32 h
          refine lv_iload_n hx hb d_M_set_57 rfl (lv_at hl 1 rfl) ?_
          refine lv_iconst (v := 2) hx hb d_M_set_58 (by decide) ?_
          refine lv_icmp_ge (tgt := 76) hx hb d_M_set_59 (by decide) (fun c33 => ?_) (fun c33 => ?_)
          · have h := it_t c33 h
            refine lv_iload_n hx hb d_M_set_76 rfl (lv_at hl 1 rfl) ?_
            refine lv_iconst (v := 1) hx hb d_M_set_77 (by decide) ?_
            refine lv_icmp_eq (tgt := 99) hx hb d_M_set_78 (by decide) (fun c34 => ?_) (fun c34 => ?_)
            · have h := it_t c34 h
              refine lv_iconst (v := 0) hx hb d_M_set_99 (by decide) ?_
              refine va_put (D := D) (ci := 8) (v := .int 0) (ty := .int) (C := "ConeForgeModel") (T := FM) (N := 46) hx hb hts iM tM tM_ok nmM hown hK hP hD hS 0 rfl rfl 34 (by decide) (hts _ (bgc bw718)) (fun _ h9 => h9) rfl (by decide +kernel) rfl rfl (Nat.le_of_ble_eq_true rfl) d_M_set_100 (fun H locs hP hD hS => ?_)
              have hP : va_P D CL (w_M_set T q0 q0_a q0_b q0_c q0_rowScale q0_columnScale q0_sa q0_sb q0_sc q0_x q0_s q0_y q0_p q0_d q0_h q0_f q0_mm q0_low q0_dd q0_r q0_big q0_dt q0_dx q0_t q0_cost q0_rowScaleNow q0_columnScaleNow q0_basic q0_text q0_turned q0_na q0_nb q0_nc vq0_m vq0_n vq0_length vq0_where vq0_effort 0 vq0_at vq0_scaled vq0_solved vq0_second vq0_nm vq0_nn vq0_number vq0_bad vq0_a vq0_b vq0_c) H := hP
              have hD : va_D A (w_M_set T q0 q0_a q0_b q0_c q0_rowScale q0_columnScale q0_sa q0_sb q0_sc q0_x q0_s q0_y q0_p q0_d q0_h q0_f q0_mm q0_low q0_dd q0_r q0_big q0_dt q0_dx q0_t q0_cost q0_rowScaleNow q0_columnScaleNow q0_basic q0_text q0_turned q0_na q0_nb q0_nc vq0_m vq0_n vq0_length vq0_where vq0_effort 0 vq0_at vq0_scaled vq0_solved vq0_second vq0_nm vq0_nn vq0_number vq0_bad vq0_a vq0_b vq0_c) := hD
              refine lv_aload_n hx hb d_M_set_103 rfl (lv_at hl 0 rfl) ?_
              refine va_get (D := D) (ci := 8) (v := .int 0) (C := "ConeForgeModel") (T := FM) (N := 46) hx hb hts iM hown hK hP 0 rfl rfl 34 (by decide) (hts _ (bgc bw718)) (fun _ h9 => h9) rfl d_M_set_104 ?_
              refine lv_if_le (tgt := 112) hx hb d_M_set_107 (by decide) (fun c35 => ?_) (fun c35 => ?_)
              · have h := it_t c35 h
                refine lv_aload_n hx hb d_M_set_112 rfl (lv_at hl 0 rfl) ?_
                refine lv_iconst (v := 0) hx hb d_M_set_113 (by decide) ?_
                obtain ⟨g36, h⟩ := gd_some h
                refine va_put (D := D) (ci := 8) (v := .int 0) (ty := .boolean) (C := "ConeForgeModel") (T := FM) (N := 46) hx hb hts iM tM tM_ok nmM hown hK hP hD hS 0 rfl rfl 37 (by decide) (hts _ (bgc bw721)) (fun _ h9 => h9) rfl (by decide +kernel) (isb_n g36) (isb_f g36) (Nat.le_of_ble_eq_true rfl) d_M_set_114 (fun H locs hP hD hS => ?_)
                have hP : va_P D CL (w_M_set T q0 q0_a q0_b q0_c q0_rowScale q0_columnScale q0_sa q0_sb q0_sc q0_x q0_s q0_y q0_p q0_d q0_h q0_f q0_mm q0_low q0_dd q0_r q0_big q0_dt q0_dx q0_t q0_cost q0_rowScaleNow q0_columnScaleNow q0_basic q0_text q0_turned q0_na q0_nb q0_nc vq0_m vq0_n vq0_length vq0_where vq0_effort 0 vq0_at vq0_scaled 0 vq0_second vq0_nm vq0_nn vq0_number vq0_bad vq0_a vq0_b vq0_c) H := hP
                have hD : va_D A (w_M_set T q0 q0_a q0_b q0_c q0_rowScale q0_columnScale q0_sa q0_sb q0_sc q0_x q0_s q0_y q0_p q0_d q0_h q0_f q0_mm q0_low q0_dd q0_r q0_big q0_dt q0_dx q0_t q0_cost q0_rowScaleNow q0_columnScaleNow q0_basic q0_text q0_turned q0_na q0_nb q0_nc vq0_m vq0_n vq0_length vq0_where vq0_effort 0 vq0_at vq0_scaled 0 vq0_second vq0_nm vq0_nn vq0_number vq0_bad vq0_a vq0_b vq0_c) := hD
                refine lv_iload_n hx hb d_M_set_117 rfl (lv_at hl 1 rfl) ?_
                refine lv_if_ne (tgt := 135) hx hb d_M_set_118 (by decide) (fun c37 => ?_) (fun c37 => ?_)
                · have h := it_f c37 h
                  refine lv_iload_n hx hb d_M_set_135 rfl (lv_at hl 1 rfl) ?_
                  refine lv_iconst (v := 1) hx hb d_M_set_136 (by decide) ?_
                  refine lv_icmp_ne (tgt := 149) hx hb d_M_set_137 (by decide) (fun c38 => ?_) (fun c38 => ?_)
                  · have h := it_f c38 h
                    refine lv_aload_n hx hb d_M_set_149 rfl (lv_at hl 0 rfl) ?_
                    refine va_get (D := D) (ci := 8) (v := .ref q0_c) (C := "ConeForgeModel") (T := FM) (N := 46) hx hb hts iM hown hK hP 0 rfl rfl 2 (by decide) (hts _ (bgc bw686)) (fun _ h9 => h9) rfl d_M_set_150 ?_
                    refine lv_iload_n hx hb d_M_set_153 rfl (lv_at hl 3 rfl) ?_
                    obtain ⟨g39, h⟩ := gd_some h
                    refine va_dald hx hb hK hP 3 0 rfl rfl (inb_in g39) d_M_set_154 ?_
                    exact J155 0 0 vq0_a vq0_b vq0_c x1 x2 x3 x4 (vq0_c x3.toNatClampNeg) H locs ls hP hD hS (lv_sub hl [0, 1, 2, 3, 4] rfl) h
                  · have h := it_t c38 h
                    refine lv_aload_n hx hb d_M_set_140 rfl (lv_at hl 0 rfl) ?_
                    refine va_get (D := D) (ci := 8) (v := .ref q0_b) (C := "ConeForgeModel") (T := FM) (N := 46) hx hb hts iM hown hK hP 0 rfl rfl 1 (by decide) (hts _ (bgc bw685)) (fun _ h9 => h9) rfl d_M_set_141 ?_
                    refine lv_iload_n hx hb d_M_set_144 rfl (lv_at hl 2 rfl) ?_
                    obtain ⟨g40, h⟩ := gd_some h
                    refine va_dald hx hb hK hP 2 0 rfl rfl (inb_in g40) d_M_set_145 ?_
                    refine lv_goto (tgt := 155) hx hb d_M_set_146 (by decide) ?_
                    exact J155 0 0 vq0_a vq0_b vq0_c x1 x2 x3 x4 (vq0_b x2.toNatClampNeg) H locs ls hP hD hS (lv_sub hl [0, 1, 2, 3, 4] rfl) h
                · have h := it_t c37 h
                  refine lv_aload_n hx hb d_M_set_121 rfl (lv_at hl 0 rfl) ?_
                  refine va_get (D := D) (ci := 8) (v := .ref q0_a) (C := "ConeForgeModel") (T := FM) (N := 46) hx hb hts iM hown hK hP 0 rfl rfl 0 (by decide) (hts _ (bgc bw684)) (fun _ h9 => h9) rfl d_M_set_122 ?_
                  refine lv_bipush (v := 8) hx hb d_M_set_125 (by decide) ?_
                  refine lv_iload_n hx hb d_M_set_127 rfl (lv_at hl 2 rfl) ?_
                  refine lv_imul hx hb d_M_set_128 ?_
                  refine lv_iload_n hx hb d_M_set_129 rfl (lv_at hl 3 rfl) ?_
                  refine lv_iadd hx hb d_M_set_130 ?_
                  obtain ⟨g41, h⟩ := gd_some h
                  refine va_dald hx hb hK hP 1 0 rfl rfl (inb_in g41) d_M_set_131 ?_
                  refine lv_goto (tgt := 155) hx hb d_M_set_132 (by decide) ?_
                  exact J155 0 0 vq0_a vq0_b vq0_c x1 x2 x3 x4 (vq0_a ((8 * x2) + x3).toNatClampNeg) H locs ls hP hD hS (lv_sub hl [0, 1, 2, 3, 4] rfl) h
              · have h := it_f c35 h
                refine lv_dconst0 hx hb d_M_set_110 ?_
                exact rtD hx hb hr hlocks hQ (Option.some.inj h) hP hS d_M_set_111 rfl rfl
            · have h := it_f c34 h
              refine lv_iload_n hx hb d_M_set_81 rfl (lv_at hl 3 rfl) ?_
              refine lv_iconst (v := 0) hx hb d_M_set_82 (by decide) ?_
              refine lv_aload_n hx hb d_M_set_83 rfl (lv_at hl 0 rfl) ?_
              refine va_get (D := D) (ci := 8) (v := .int vq0_n) (C := "ConeForgeModel") (T := FM) (N := 46) hx hb hts iM hown hK hP 0 rfl rfl 30 (by decide) (hts _ (bgc bw714)) (fun _ h9 => h9) rfl d_M_set_84 ?_
              refine lv_iconst (v := 1) hx hb d_M_set_87 (by decide) ?_
              refine lv_isub hx hb d_M_set_88 ?_
              obtain ⟨u42, hu42, h⟩ := bi_some h
              have jj43 := j_M_set_89 T q0 q0_a q0_b q0_c q0_rowScale q0_columnScale q0_sa q0_sb q0_sc q0_x q0_s q0_y q0_p q0_d q0_h q0_f q0_mm q0_low q0_dd q0_r q0_big q0_dt q0_dx q0_t q0_cost q0_rowScaleNow q0_columnScaleNow q0_basic q0_text q0_turned q0_na q0_nb q0_nc vq0_m vq0_n vq0_length vq0_where vq0_effort vq0_thrown vq0_at vq0_scaled vq0_solved vq0_second vq0_nm vq0_nn vq0_number vq0_bad vq0_a vq0_b vq0_c
              refine kI2 (v := u42) (wc := (w_M_in T  )) (wc' := (w_M_in T  )) (w_M_set T q0 q0_a q0_b q0_c q0_rowScale q0_columnScale q0_sa q0_sb q0_sc q0_x q0_s q0_y q0_p q0_d q0_h q0_f q0_mm q0_low q0_dd q0_r q0_big q0_dt q0_dx q0_t q0_cost q0_rowScaleNow q0_columnScaleNow q0_basic q0_text q0_turned q0_na q0_nb q0_nc vq0_m vq0_n vq0_length vq0_where vq0_effort vq0_thrown vq0_at vq0_scaled vq0_solved vq0_second vq0_nm vq0_nn vq0_number vq0_bad vq0_a vq0_b vq0_c) (runOS (As := [.int x3, .int 0, .int (vq0_n - 1)]) (rest := [.ref q0]) ((c_M_in l D T   x3 0 (vq0_n - 1) u42 hu42) H.size) ⟨hx, hb, hml, hown, hts⟩ (cwOS bw785 bw786 bw105 bw787 dd_M_in hts ⟨Nat.le_of_ble_eq_true rfl, Nat.le_of_ble_eq_true rfl⟩)  hNW hK hP hD [] jj43.1 (by decide) rfl hl.1 rfl (lv_room (Nat.le_of_ble_eq_true rfl)) d_M_set_89 ⟨Nat.le_of_ble_eq_true rfl, Nat.le_of_ble_eq_true rfl⟩) hP hD hS hA [] [0, 1, 2, 3] jj43.1 jj43.2.1 jj43.2.2.1 (N := 4) jj43.2.2.2.2 (by decide) jj43.2.2.2.1 (fun H locs hP hD hS => ?_)
              refine lv_if_ne (tgt := 99) hx hb d_M_set_92 (by decide) (fun c44 => ?_) (fun c44 => ?_)
              · have h := it_f c44 h
                refine lv_iconst (v := 0) hx hb d_M_set_99 (by decide) ?_
                refine va_put (D := D) (ci := 8) (v := .int 0) (ty := .int) (C := "ConeForgeModel") (T := FM) (N := 46) hx hb hts iM tM tM_ok nmM hown hK hP hD hS 0 rfl rfl 34 (by decide) (hts _ (bgc bw718)) (fun _ h9 => h9) rfl (by decide +kernel) rfl rfl (Nat.le_of_ble_eq_true rfl) d_M_set_100 (fun H locs hP hD hS => ?_)
                have hP : va_P D CL (w_M_set T q0 q0_a q0_b q0_c q0_rowScale q0_columnScale q0_sa q0_sb q0_sc q0_x q0_s q0_y q0_p q0_d q0_h q0_f q0_mm q0_low q0_dd q0_r q0_big q0_dt q0_dx q0_t q0_cost q0_rowScaleNow q0_columnScaleNow q0_basic q0_text q0_turned q0_na q0_nb q0_nc vq0_m vq0_n vq0_length vq0_where vq0_effort 0 vq0_at vq0_scaled vq0_solved vq0_second vq0_nm vq0_nn vq0_number vq0_bad vq0_a vq0_b vq0_c) H := hP
                have hD : va_D A (w_M_set T q0 q0_a q0_b q0_c q0_rowScale q0_columnScale q0_sa q0_sb q0_sc q0_x q0_s q0_y q0_p q0_d q0_h q0_f q0_mm q0_low q0_dd q0_r q0_big q0_dt q0_dx q0_t q0_cost q0_rowScaleNow q0_columnScaleNow q0_basic q0_text q0_turned q0_na q0_nb q0_nc vq0_m vq0_n vq0_length vq0_where vq0_effort 0 vq0_at vq0_scaled vq0_solved vq0_second vq0_nm vq0_nn vq0_number vq0_bad vq0_a vq0_b vq0_c) := hD
                refine lv_aload_n hx hb d_M_set_103 rfl (lv_at hl 0 rfl) ?_
                refine va_get (D := D) (ci := 8) (v := .int 0) (C := "ConeForgeModel") (T := FM) (N := 46) hx hb hts iM hown hK hP 0 rfl rfl 34 (by decide) (hts _ (bgc bw718)) (fun _ h9 => h9) rfl d_M_set_104 ?_
                refine lv_if_le (tgt := 112) hx hb d_M_set_107 (by decide) (fun c45 => ?_) (fun c45 => ?_)
                · have h := it_t c45 h
                  refine lv_aload_n hx hb d_M_set_112 rfl (lv_at hl 0 rfl) ?_
                  refine lv_iconst (v := 0) hx hb d_M_set_113 (by decide) ?_
                  obtain ⟨g46, h⟩ := gd_some h
                  refine va_put (D := D) (ci := 8) (v := .int 0) (ty := .boolean) (C := "ConeForgeModel") (T := FM) (N := 46) hx hb hts iM tM tM_ok nmM hown hK hP hD hS 0 rfl rfl 37 (by decide) (hts _ (bgc bw721)) (fun _ h9 => h9) rfl (by decide +kernel) (isb_n g46) (isb_f g46) (Nat.le_of_ble_eq_true rfl) d_M_set_114 (fun H locs hP hD hS => ?_)
                  have hP : va_P D CL (w_M_set T q0 q0_a q0_b q0_c q0_rowScale q0_columnScale q0_sa q0_sb q0_sc q0_x q0_s q0_y q0_p q0_d q0_h q0_f q0_mm q0_low q0_dd q0_r q0_big q0_dt q0_dx q0_t q0_cost q0_rowScaleNow q0_columnScaleNow q0_basic q0_text q0_turned q0_na q0_nb q0_nc vq0_m vq0_n vq0_length vq0_where vq0_effort 0 vq0_at vq0_scaled 0 vq0_second vq0_nm vq0_nn vq0_number vq0_bad vq0_a vq0_b vq0_c) H := hP
                  have hD : va_D A (w_M_set T q0 q0_a q0_b q0_c q0_rowScale q0_columnScale q0_sa q0_sb q0_sc q0_x q0_s q0_y q0_p q0_d q0_h q0_f q0_mm q0_low q0_dd q0_r q0_big q0_dt q0_dx q0_t q0_cost q0_rowScaleNow q0_columnScaleNow q0_basic q0_text q0_turned q0_na q0_nb q0_nc vq0_m vq0_n vq0_length vq0_where vq0_effort 0 vq0_at vq0_scaled 0 vq0_second vq0_nm vq0_nn vq0_number vq0_bad vq0_a vq0_b vq0_c) := hD
                  refine lv_iload_n hx hb d_M_set_117 rfl (lv_at hl 1 rfl) ?_
                  refine lv_if_ne (tgt := 135) hx hb d_M_set_118 (by decide) (fun c47 => ?_) (fun c47 => ?_)
                  · have h := it_f c47 h
                    refine lv_iload_n hx hb d_M_set_135 rfl (lv_at hl 1 rfl) ?_
                    refine lv_iconst (v := 1) hx hb d_M_set_136 (by decide) ?_
                    refine lv_icmp_ne (tgt := 149) hx hb d_M_set_137 (by decide) (fun c48 => ?_) (fun c48 => ?_)
                    · have h := it_f c48 h
                      refine lv_aload_n hx hb d_M_set_149 rfl (lv_at hl 0 rfl) ?_
                      refine va_get (D := D) (ci := 8) (v := .ref q0_c) (C := "ConeForgeModel") (T := FM) (N := 46) hx hb hts iM hown hK hP 0 rfl rfl 2 (by decide) (hts _ (bgc bw686)) (fun _ h9 => h9) rfl d_M_set_150 ?_
                      refine lv_iload_n hx hb d_M_set_153 rfl (lv_at hl 3 rfl) ?_
                      obtain ⟨g49, h⟩ := gd_some h
                      refine va_dald hx hb hK hP 3 0 rfl rfl (inb_in g49) d_M_set_154 ?_
                      exact J155 0 0 vq0_a vq0_b vq0_c x1 x2 x3 x4 (vq0_c x3.toNatClampNeg) H locs ls hP hD hS (lv_sub hl [0, 1, 2, 3, 4] rfl) h
                    · have h := it_t c48 h
                      refine lv_aload_n hx hb d_M_set_140 rfl (lv_at hl 0 rfl) ?_
                      refine va_get (D := D) (ci := 8) (v := .ref q0_b) (C := "ConeForgeModel") (T := FM) (N := 46) hx hb hts iM hown hK hP 0 rfl rfl 1 (by decide) (hts _ (bgc bw685)) (fun _ h9 => h9) rfl d_M_set_141 ?_
                      refine lv_iload_n hx hb d_M_set_144 rfl (lv_at hl 2 rfl) ?_
                      obtain ⟨g50, h⟩ := gd_some h
                      refine va_dald hx hb hK hP 2 0 rfl rfl (inb_in g50) d_M_set_145 ?_
                      refine lv_goto (tgt := 155) hx hb d_M_set_146 (by decide) ?_
                      exact J155 0 0 vq0_a vq0_b vq0_c x1 x2 x3 x4 (vq0_b x2.toNatClampNeg) H locs ls hP hD hS (lv_sub hl [0, 1, 2, 3, 4] rfl) h
                  · have h := it_t c47 h
                    refine lv_aload_n hx hb d_M_set_121 rfl (lv_at hl 0 rfl) ?_
                    refine va_get (D := D) (ci := 8) (v := .ref q0_a) (C := "ConeForgeModel") (T := FM) (N := 46) hx hb hts iM hown hK hP 0 rfl rfl 0 (by decide) (hts _ (bgc bw684)) (fun _ h9 => h9) rfl d_M_set_122 ?_
                    refine lv_bipush (v := 8) hx hb d_M_set_125 (by decide) ?_
                    refine lv_iload_n hx hb d_M_set_127 rfl (lv_at hl 2 rfl) ?_
                    refine lv_imul hx hb d_M_set_128 ?_
                    refine lv_iload_n hx hb d_M_set_129 rfl (lv_at hl 3 rfl) ?_
                    refine lv_iadd hx hb d_M_set_130 ?_
                    obtain ⟨g51, h⟩ := gd_some h
                    refine va_dald hx hb hK hP 1 0 rfl rfl (inb_in g51) d_M_set_131 ?_
                    refine lv_goto (tgt := 155) hx hb d_M_set_132 (by decide) ?_
                    exact J155 0 0 vq0_a vq0_b vq0_c x1 x2 x3 x4 (vq0_a ((8 * x2) + x3).toNatClampNeg) H locs ls hP hD hS (lv_sub hl [0, 1, 2, 3, 4] rfl) h
                · have h := it_f c45 h
                  refine lv_dconst0 hx hb d_M_set_110 ?_
                  exact rtD hx hb hr hlocks hQ (Option.some.inj h) hP hS d_M_set_111 rfl rfl
              · have h := it_t c44 h
                refine lv_iconst (v := 2) hx hb d_M_set_95 (by decide) ?_
                refine lv_goto (tgt := 100) hx hb d_M_set_96 (by decide) ?_
                refine va_put (D := D) (ci := 8) (v := .int 2) (ty := .int) (C := "ConeForgeModel") (T := FM) (N := 46) hx hb hts iM tM tM_ok nmM hown hK hP hD hS 0 rfl rfl 34 (by decide) (hts _ (bgc bw718)) (fun _ h9 => h9) rfl (by decide +kernel) rfl rfl (Nat.le_of_ble_eq_true rfl) d_M_set_100 (fun H locs hP hD hS => ?_)
                have hP : va_P D CL (w_M_set T q0 q0_a q0_b q0_c q0_rowScale q0_columnScale q0_sa q0_sb q0_sc q0_x q0_s q0_y q0_p q0_d q0_h q0_f q0_mm q0_low q0_dd q0_r q0_big q0_dt q0_dx q0_t q0_cost q0_rowScaleNow q0_columnScaleNow q0_basic q0_text q0_turned q0_na q0_nb q0_nc vq0_m vq0_n vq0_length vq0_where vq0_effort 2 vq0_at vq0_scaled vq0_solved vq0_second vq0_nm vq0_nn vq0_number vq0_bad vq0_a vq0_b vq0_c) H := hP
                have hD : va_D A (w_M_set T q0 q0_a q0_b q0_c q0_rowScale q0_columnScale q0_sa q0_sb q0_sc q0_x q0_s q0_y q0_p q0_d q0_h q0_f q0_mm q0_low q0_dd q0_r q0_big q0_dt q0_dx q0_t q0_cost q0_rowScaleNow q0_columnScaleNow q0_basic q0_text q0_turned q0_na q0_nb q0_nc vq0_m vq0_n vq0_length vq0_where vq0_effort 2 vq0_at vq0_scaled vq0_solved vq0_second vq0_nm vq0_nn vq0_number vq0_bad vq0_a vq0_b vq0_c) := hD
                refine lv_aload_n hx hb d_M_set_103 rfl (lv_at hl 0 rfl) ?_
                refine va_get (D := D) (ci := 8) (v := .int 2) (C := "ConeForgeModel") (T := FM) (N := 46) hx hb hts iM hown hK hP 0 rfl rfl 34 (by decide) (hts _ (bgc bw718)) (fun _ h9 => h9) rfl d_M_set_104 ?_
                refine lv_if_le (tgt := 112) hx hb d_M_set_107 (by decide) (fun c52 => ?_) (fun c52 => ?_)
                · have h := it_t c52 h
                  refine lv_aload_n hx hb d_M_set_112 rfl (lv_at hl 0 rfl) ?_
                  refine lv_iconst (v := 0) hx hb d_M_set_113 (by decide) ?_
                  obtain ⟨g53, h⟩ := gd_some h
                  refine va_put (D := D) (ci := 8) (v := .int 0) (ty := .boolean) (C := "ConeForgeModel") (T := FM) (N := 46) hx hb hts iM tM tM_ok nmM hown hK hP hD hS 0 rfl rfl 37 (by decide) (hts _ (bgc bw721)) (fun _ h9 => h9) rfl (by decide +kernel) (isb_n g53) (isb_f g53) (Nat.le_of_ble_eq_true rfl) d_M_set_114 (fun H locs hP hD hS => ?_)
                  have hP : va_P D CL (w_M_set T q0 q0_a q0_b q0_c q0_rowScale q0_columnScale q0_sa q0_sb q0_sc q0_x q0_s q0_y q0_p q0_d q0_h q0_f q0_mm q0_low q0_dd q0_r q0_big q0_dt q0_dx q0_t q0_cost q0_rowScaleNow q0_columnScaleNow q0_basic q0_text q0_turned q0_na q0_nb q0_nc vq0_m vq0_n vq0_length vq0_where vq0_effort 2 vq0_at vq0_scaled 0 vq0_second vq0_nm vq0_nn vq0_number vq0_bad vq0_a vq0_b vq0_c) H := hP
                  have hD : va_D A (w_M_set T q0 q0_a q0_b q0_c q0_rowScale q0_columnScale q0_sa q0_sb q0_sc q0_x q0_s q0_y q0_p q0_d q0_h q0_f q0_mm q0_low q0_dd q0_r q0_big q0_dt q0_dx q0_t q0_cost q0_rowScaleNow q0_columnScaleNow q0_basic q0_text q0_turned q0_na q0_nb q0_nc vq0_m vq0_n vq0_length vq0_where vq0_effort 2 vq0_at vq0_scaled 0 vq0_second vq0_nm vq0_nn vq0_number vq0_bad vq0_a vq0_b vq0_c) := hD
                  refine lv_iload_n hx hb d_M_set_117 rfl (lv_at hl 1 rfl) ?_
                  refine lv_if_ne (tgt := 135) hx hb d_M_set_118 (by decide) (fun c54 => ?_) (fun c54 => ?_)
                  · have h := it_f c54 h
                    refine lv_iload_n hx hb d_M_set_135 rfl (lv_at hl 1 rfl) ?_
                    refine lv_iconst (v := 1) hx hb d_M_set_136 (by decide) ?_
                    refine lv_icmp_ne (tgt := 149) hx hb d_M_set_137 (by decide) (fun c55 => ?_) (fun c55 => ?_)
                    · have h := it_f c55 h
                      refine lv_aload_n hx hb d_M_set_149 rfl (lv_at hl 0 rfl) ?_
                      refine va_get (D := D) (ci := 8) (v := .ref q0_c) (C := "ConeForgeModel") (T := FM) (N := 46) hx hb hts iM hown hK hP 0 rfl rfl 2 (by decide) (hts _ (bgc bw686)) (fun _ h9 => h9) rfl d_M_set_150 ?_
                      refine lv_iload_n hx hb d_M_set_153 rfl (lv_at hl 3 rfl) ?_
                      obtain ⟨g56, h⟩ := gd_some h
                      refine va_dald hx hb hK hP 3 0 rfl rfl (inb_in g56) d_M_set_154 ?_
                      exact J155 2 0 vq0_a vq0_b vq0_c x1 x2 x3 x4 (vq0_c x3.toNatClampNeg) H locs ls hP hD hS (lv_sub hl [0, 1, 2, 3, 4] rfl) h
                    · have h := it_t c55 h
                      refine lv_aload_n hx hb d_M_set_140 rfl (lv_at hl 0 rfl) ?_
                      refine va_get (D := D) (ci := 8) (v := .ref q0_b) (C := "ConeForgeModel") (T := FM) (N := 46) hx hb hts iM hown hK hP 0 rfl rfl 1 (by decide) (hts _ (bgc bw685)) (fun _ h9 => h9) rfl d_M_set_141 ?_
                      refine lv_iload_n hx hb d_M_set_144 rfl (lv_at hl 2 rfl) ?_
                      obtain ⟨g57, h⟩ := gd_some h
                      refine va_dald hx hb hK hP 2 0 rfl rfl (inb_in g57) d_M_set_145 ?_
                      refine lv_goto (tgt := 155) hx hb d_M_set_146 (by decide) ?_
                      exact J155 2 0 vq0_a vq0_b vq0_c x1 x2 x3 x4 (vq0_b x2.toNatClampNeg) H locs ls hP hD hS (lv_sub hl [0, 1, 2, 3, 4] rfl) h
                  · have h := it_t c54 h
                    refine lv_aload_n hx hb d_M_set_121 rfl (lv_at hl 0 rfl) ?_
                    refine va_get (D := D) (ci := 8) (v := .ref q0_a) (C := "ConeForgeModel") (T := FM) (N := 46) hx hb hts iM hown hK hP 0 rfl rfl 0 (by decide) (hts _ (bgc bw684)) (fun _ h9 => h9) rfl d_M_set_122 ?_
                    refine lv_bipush (v := 8) hx hb d_M_set_125 (by decide) ?_
                    refine lv_iload_n hx hb d_M_set_127 rfl (lv_at hl 2 rfl) ?_
                    refine lv_imul hx hb d_M_set_128 ?_
                    refine lv_iload_n hx hb d_M_set_129 rfl (lv_at hl 3 rfl) ?_
                    refine lv_iadd hx hb d_M_set_130 ?_
                    obtain ⟨g58, h⟩ := gd_some h
                    refine va_dald hx hb hK hP 1 0 rfl rfl (inb_in g58) d_M_set_131 ?_
                    refine lv_goto (tgt := 155) hx hb d_M_set_132 (by decide) ?_
                    exact J155 2 0 vq0_a vq0_b vq0_c x1 x2 x3 x4 (vq0_a ((8 * x2) + x3).toNatClampNeg) H locs ls hP hD hS (lv_sub hl [0, 1, 2, 3, 4] rfl) h
                · have h := it_f c52 h
                  refine lv_dconst0 hx hb d_M_set_110 ?_
                  exact rtD hx hb hr hlocks hQ (Option.some.inj h) hP hS d_M_set_111 rfl rfl
          · have h := it_f c33 h
            refine lv_iload_n hx hb d_M_set_62 rfl (lv_at hl 2 rfl) ?_
            refine lv_iconst (v := 0) hx hb d_M_set_63 (by decide) ?_
            refine lv_aload_n hx hb d_M_set_64 rfl (lv_at hl 0 rfl) ?_
            refine va_get (D := D) (ci := 8) (v := .int vq0_m) (C := "ConeForgeModel") (T := FM) (N := 46) hx hb hts iM hown hK hP 0 rfl rfl 29 (by decide) (hts _ (bgc bw713)) (fun _ h9 => h9) rfl d_M_set_65 ?_
            refine lv_iconst (v := 1) hx hb d_M_set_68 (by decide) ?_
            refine lv_isub hx hb d_M_set_69 ?_
            obtain ⟨u59, hu59, h⟩ := bi_some h
            have jj60 := j_M_set_70 T q0 q0_a q0_b q0_c q0_rowScale q0_columnScale q0_sa q0_sb q0_sc q0_x q0_s q0_y q0_p q0_d q0_h q0_f q0_mm q0_low q0_dd q0_r q0_big q0_dt q0_dx q0_t q0_cost q0_rowScaleNow q0_columnScaleNow q0_basic q0_text q0_turned q0_na q0_nb q0_nc vq0_m vq0_n vq0_length vq0_where vq0_effort vq0_thrown vq0_at vq0_scaled vq0_solved vq0_second vq0_nm vq0_nn vq0_number vq0_bad vq0_a vq0_b vq0_c
            refine kI2 (v := u59) (wc := (w_M_in T  )) (wc' := (w_M_in T  )) (w_M_set T q0 q0_a q0_b q0_c q0_rowScale q0_columnScale q0_sa q0_sb q0_sc q0_x q0_s q0_y q0_p q0_d q0_h q0_f q0_mm q0_low q0_dd q0_r q0_big q0_dt q0_dx q0_t q0_cost q0_rowScaleNow q0_columnScaleNow q0_basic q0_text q0_turned q0_na q0_nb q0_nc vq0_m vq0_n vq0_length vq0_where vq0_effort vq0_thrown vq0_at vq0_scaled vq0_solved vq0_second vq0_nm vq0_nn vq0_number vq0_bad vq0_a vq0_b vq0_c) (runOS (As := [.int x2, .int 0, .int (vq0_m - 1)]) (rest := [.ref q0]) ((c_M_in l D T   x2 0 (vq0_m - 1) u59 hu59) H.size) ⟨hx, hb, hml, hown, hts⟩ (cwOS bw785 bw786 bw105 bw787 dd_M_in hts ⟨Nat.le_of_ble_eq_true rfl, Nat.le_of_ble_eq_true rfl⟩)  hNW hK hP hD [] jj60.1 (by decide) rfl hl.1 rfl (lv_room (Nat.le_of_ble_eq_true rfl)) d_M_set_70 ⟨Nat.le_of_ble_eq_true rfl, Nat.le_of_ble_eq_true rfl⟩) hP hD hS hA [] [0, 1, 2, 3] jj60.1 jj60.2.1 jj60.2.2.1 (N := 4) jj60.2.2.2.2 (by decide) jj60.2.2.2.1 (fun H locs hP hD hS => ?_)
            refine lv_if_eq (tgt := 95) hx hb d_M_set_73 (by decide) (fun c61 => ?_) (fun c61 => ?_)
            · have h := it_t c61 h
              refine lv_iconst (v := 2) hx hb d_M_set_95 (by decide) ?_
              refine lv_goto (tgt := 100) hx hb d_M_set_96 (by decide) ?_
              refine va_put (D := D) (ci := 8) (v := .int 2) (ty := .int) (C := "ConeForgeModel") (T := FM) (N := 46) hx hb hts iM tM tM_ok nmM hown hK hP hD hS 0 rfl rfl 34 (by decide) (hts _ (bgc bw718)) (fun _ h9 => h9) rfl (by decide +kernel) rfl rfl (Nat.le_of_ble_eq_true rfl) d_M_set_100 (fun H locs hP hD hS => ?_)
              have hP : va_P D CL (w_M_set T q0 q0_a q0_b q0_c q0_rowScale q0_columnScale q0_sa q0_sb q0_sc q0_x q0_s q0_y q0_p q0_d q0_h q0_f q0_mm q0_low q0_dd q0_r q0_big q0_dt q0_dx q0_t q0_cost q0_rowScaleNow q0_columnScaleNow q0_basic q0_text q0_turned q0_na q0_nb q0_nc vq0_m vq0_n vq0_length vq0_where vq0_effort 2 vq0_at vq0_scaled vq0_solved vq0_second vq0_nm vq0_nn vq0_number vq0_bad vq0_a vq0_b vq0_c) H := hP
              have hD : va_D A (w_M_set T q0 q0_a q0_b q0_c q0_rowScale q0_columnScale q0_sa q0_sb q0_sc q0_x q0_s q0_y q0_p q0_d q0_h q0_f q0_mm q0_low q0_dd q0_r q0_big q0_dt q0_dx q0_t q0_cost q0_rowScaleNow q0_columnScaleNow q0_basic q0_text q0_turned q0_na q0_nb q0_nc vq0_m vq0_n vq0_length vq0_where vq0_effort 2 vq0_at vq0_scaled vq0_solved vq0_second vq0_nm vq0_nn vq0_number vq0_bad vq0_a vq0_b vq0_c) := hD
              refine lv_aload_n hx hb d_M_set_103 rfl (lv_at hl 0 rfl) ?_
              refine va_get (D := D) (ci := 8) (v := .int 2) (C := "ConeForgeModel") (T := FM) (N := 46) hx hb hts iM hown hK hP 0 rfl rfl 34 (by decide) (hts _ (bgc bw718)) (fun _ h9 => h9) rfl d_M_set_104 ?_
              refine lv_if_le (tgt := 112) hx hb d_M_set_107 (by decide) (fun c62 => ?_) (fun c62 => ?_)
              · have h := it_t c62 h
                refine lv_aload_n hx hb d_M_set_112 rfl (lv_at hl 0 rfl) ?_
                refine lv_iconst (v := 0) hx hb d_M_set_113 (by decide) ?_
                obtain ⟨g63, h⟩ := gd_some h
                refine va_put (D := D) (ci := 8) (v := .int 0) (ty := .boolean) (C := "ConeForgeModel") (T := FM) (N := 46) hx hb hts iM tM tM_ok nmM hown hK hP hD hS 0 rfl rfl 37 (by decide) (hts _ (bgc bw721)) (fun _ h9 => h9) rfl (by decide +kernel) (isb_n g63) (isb_f g63) (Nat.le_of_ble_eq_true rfl) d_M_set_114 (fun H locs hP hD hS => ?_)
                have hP : va_P D CL (w_M_set T q0 q0_a q0_b q0_c q0_rowScale q0_columnScale q0_sa q0_sb q0_sc q0_x q0_s q0_y q0_p q0_d q0_h q0_f q0_mm q0_low q0_dd q0_r q0_big q0_dt q0_dx q0_t q0_cost q0_rowScaleNow q0_columnScaleNow q0_basic q0_text q0_turned q0_na q0_nb q0_nc vq0_m vq0_n vq0_length vq0_where vq0_effort 2 vq0_at vq0_scaled 0 vq0_second vq0_nm vq0_nn vq0_number vq0_bad vq0_a vq0_b vq0_c) H := hP
                have hD : va_D A (w_M_set T q0 q0_a q0_b q0_c q0_rowScale q0_columnScale q0_sa q0_sb q0_sc q0_x q0_s q0_y q0_p q0_d q0_h q0_f q0_mm q0_low q0_dd q0_r q0_big q0_dt q0_dx q0_t q0_cost q0_rowScaleNow q0_columnScaleNow q0_basic q0_text q0_turned q0_na q0_nb q0_nc vq0_m vq0_n vq0_length vq0_where vq0_effort 2 vq0_at vq0_scaled 0 vq0_second vq0_nm vq0_nn vq0_number vq0_bad vq0_a vq0_b vq0_c) := hD
                refine lv_iload_n hx hb d_M_set_117 rfl (lv_at hl 1 rfl) ?_
                refine lv_if_ne (tgt := 135) hx hb d_M_set_118 (by decide) (fun c64 => ?_) (fun c64 => ?_)
                · have h := it_f c64 h
                  refine lv_iload_n hx hb d_M_set_135 rfl (lv_at hl 1 rfl) ?_
                  refine lv_iconst (v := 1) hx hb d_M_set_136 (by decide) ?_
                  refine lv_icmp_ne (tgt := 149) hx hb d_M_set_137 (by decide) (fun c65 => ?_) (fun c65 => ?_)
                  · have h := it_f c65 h
                    refine lv_aload_n hx hb d_M_set_149 rfl (lv_at hl 0 rfl) ?_
                    refine va_get (D := D) (ci := 8) (v := .ref q0_c) (C := "ConeForgeModel") (T := FM) (N := 46) hx hb hts iM hown hK hP 0 rfl rfl 2 (by decide) (hts _ (bgc bw686)) (fun _ h9 => h9) rfl d_M_set_150 ?_
                    refine lv_iload_n hx hb d_M_set_153 rfl (lv_at hl 3 rfl) ?_
                    obtain ⟨g66, h⟩ := gd_some h
                    refine va_dald hx hb hK hP 3 0 rfl rfl (inb_in g66) d_M_set_154 ?_
                    exact J155 2 0 vq0_a vq0_b vq0_c x1 x2 x3 x4 (vq0_c x3.toNatClampNeg) H locs ls hP hD hS (lv_sub hl [0, 1, 2, 3, 4] rfl) h
                  · have h := it_t c65 h
                    refine lv_aload_n hx hb d_M_set_140 rfl (lv_at hl 0 rfl) ?_
                    refine va_get (D := D) (ci := 8) (v := .ref q0_b) (C := "ConeForgeModel") (T := FM) (N := 46) hx hb hts iM hown hK hP 0 rfl rfl 1 (by decide) (hts _ (bgc bw685)) (fun _ h9 => h9) rfl d_M_set_141 ?_
                    refine lv_iload_n hx hb d_M_set_144 rfl (lv_at hl 2 rfl) ?_
                    obtain ⟨g67, h⟩ := gd_some h
                    refine va_dald hx hb hK hP 2 0 rfl rfl (inb_in g67) d_M_set_145 ?_
                    refine lv_goto (tgt := 155) hx hb d_M_set_146 (by decide) ?_
                    exact J155 2 0 vq0_a vq0_b vq0_c x1 x2 x3 x4 (vq0_b x2.toNatClampNeg) H locs ls hP hD hS (lv_sub hl [0, 1, 2, 3, 4] rfl) h
                · have h := it_t c64 h
                  refine lv_aload_n hx hb d_M_set_121 rfl (lv_at hl 0 rfl) ?_
                  refine va_get (D := D) (ci := 8) (v := .ref q0_a) (C := "ConeForgeModel") (T := FM) (N := 46) hx hb hts iM hown hK hP 0 rfl rfl 0 (by decide) (hts _ (bgc bw684)) (fun _ h9 => h9) rfl d_M_set_122 ?_
                  refine lv_bipush (v := 8) hx hb d_M_set_125 (by decide) ?_
                  refine lv_iload_n hx hb d_M_set_127 rfl (lv_at hl 2 rfl) ?_
                  refine lv_imul hx hb d_M_set_128 ?_
                  refine lv_iload_n hx hb d_M_set_129 rfl (lv_at hl 3 rfl) ?_
                  refine lv_iadd hx hb d_M_set_130 ?_
                  obtain ⟨g68, h⟩ := gd_some h
                  refine va_dald hx hb hK hP 1 0 rfl rfl (inb_in g68) d_M_set_131 ?_
                  refine lv_goto (tgt := 155) hx hb d_M_set_132 (by decide) ?_
                  exact J155 2 0 vq0_a vq0_b vq0_c x1 x2 x3 x4 (vq0_a ((8 * x2) + x3).toNatClampNeg) H locs ls hP hD hS (lv_sub hl [0, 1, 2, 3, 4] rfl) h
              · have h := it_f c62 h
                refine lv_dconst0 hx hb d_M_set_110 ?_
                exact rtD hx hb hr hlocks hQ (Option.some.inj h) hP hS d_M_set_111 rfl rfl
            · have h := it_f c61 h
              refine lv_iload_n hx hb d_M_set_76 rfl (lv_at hl 1 rfl) ?_
              refine lv_iconst (v := 1) hx hb d_M_set_77 (by decide) ?_
              refine lv_icmp_eq (tgt := 99) hx hb d_M_set_78 (by decide) (fun c69 => ?_) (fun c69 => ?_)
              · have h := it_t c69 h
                refine lv_iconst (v := 0) hx hb d_M_set_99 (by decide) ?_
                refine va_put (D := D) (ci := 8) (v := .int 0) (ty := .int) (C := "ConeForgeModel") (T := FM) (N := 46) hx hb hts iM tM tM_ok nmM hown hK hP hD hS 0 rfl rfl 34 (by decide) (hts _ (bgc bw718)) (fun _ h9 => h9) rfl (by decide +kernel) rfl rfl (Nat.le_of_ble_eq_true rfl) d_M_set_100 (fun H locs hP hD hS => ?_)
                have hP : va_P D CL (w_M_set T q0 q0_a q0_b q0_c q0_rowScale q0_columnScale q0_sa q0_sb q0_sc q0_x q0_s q0_y q0_p q0_d q0_h q0_f q0_mm q0_low q0_dd q0_r q0_big q0_dt q0_dx q0_t q0_cost q0_rowScaleNow q0_columnScaleNow q0_basic q0_text q0_turned q0_na q0_nb q0_nc vq0_m vq0_n vq0_length vq0_where vq0_effort 0 vq0_at vq0_scaled vq0_solved vq0_second vq0_nm vq0_nn vq0_number vq0_bad vq0_a vq0_b vq0_c) H := hP
                have hD : va_D A (w_M_set T q0 q0_a q0_b q0_c q0_rowScale q0_columnScale q0_sa q0_sb q0_sc q0_x q0_s q0_y q0_p q0_d q0_h q0_f q0_mm q0_low q0_dd q0_r q0_big q0_dt q0_dx q0_t q0_cost q0_rowScaleNow q0_columnScaleNow q0_basic q0_text q0_turned q0_na q0_nb q0_nc vq0_m vq0_n vq0_length vq0_where vq0_effort 0 vq0_at vq0_scaled vq0_solved vq0_second vq0_nm vq0_nn vq0_number vq0_bad vq0_a vq0_b vq0_c) := hD
                refine lv_aload_n hx hb d_M_set_103 rfl (lv_at hl 0 rfl) ?_
                refine va_get (D := D) (ci := 8) (v := .int 0) (C := "ConeForgeModel") (T := FM) (N := 46) hx hb hts iM hown hK hP 0 rfl rfl 34 (by decide) (hts _ (bgc bw718)) (fun _ h9 => h9) rfl d_M_set_104 ?_
                refine lv_if_le (tgt := 112) hx hb d_M_set_107 (by decide) (fun c70 => ?_) (fun c70 => ?_)
                · have h := it_t c70 h
                  refine lv_aload_n hx hb d_M_set_112 rfl (lv_at hl 0 rfl) ?_
                  refine lv_iconst (v := 0) hx hb d_M_set_113 (by decide) ?_
                  obtain ⟨g71, h⟩ := gd_some h
                  refine va_put (D := D) (ci := 8) (v := .int 0) (ty := .boolean) (C := "ConeForgeModel") (T := FM) (N := 46) hx hb hts iM tM tM_ok nmM hown hK hP hD hS 0 rfl rfl 37 (by decide) (hts _ (bgc bw721)) (fun _ h9 => h9) rfl (by decide +kernel) (isb_n g71) (isb_f g71) (Nat.le_of_ble_eq_true rfl) d_M_set_114 (fun H locs hP hD hS => ?_)
                  have hP : va_P D CL (w_M_set T q0 q0_a q0_b q0_c q0_rowScale q0_columnScale q0_sa q0_sb q0_sc q0_x q0_s q0_y q0_p q0_d q0_h q0_f q0_mm q0_low q0_dd q0_r q0_big q0_dt q0_dx q0_t q0_cost q0_rowScaleNow q0_columnScaleNow q0_basic q0_text q0_turned q0_na q0_nb q0_nc vq0_m vq0_n vq0_length vq0_where vq0_effort 0 vq0_at vq0_scaled 0 vq0_second vq0_nm vq0_nn vq0_number vq0_bad vq0_a vq0_b vq0_c) H := hP
                  have hD : va_D A (w_M_set T q0 q0_a q0_b q0_c q0_rowScale q0_columnScale q0_sa q0_sb q0_sc q0_x q0_s q0_y q0_p q0_d q0_h q0_f q0_mm q0_low q0_dd q0_r q0_big q0_dt q0_dx q0_t q0_cost q0_rowScaleNow q0_columnScaleNow q0_basic q0_text q0_turned q0_na q0_nb q0_nc vq0_m vq0_n vq0_length vq0_where vq0_effort 0 vq0_at vq0_scaled 0 vq0_second vq0_nm vq0_nn vq0_number vq0_bad vq0_a vq0_b vq0_c) := hD
                  refine lv_iload_n hx hb d_M_set_117 rfl (lv_at hl 1 rfl) ?_
                  refine lv_if_ne (tgt := 135) hx hb d_M_set_118 (by decide) (fun c72 => ?_) (fun c72 => ?_)
                  · have h := it_f c72 h
                    refine lv_iload_n hx hb d_M_set_135 rfl (lv_at hl 1 rfl) ?_
                    refine lv_iconst (v := 1) hx hb d_M_set_136 (by decide) ?_
                    refine lv_icmp_ne (tgt := 149) hx hb d_M_set_137 (by decide) (fun c73 => ?_) (fun c73 => ?_)
                    · have h := it_f c73 h
                      refine lv_aload_n hx hb d_M_set_149 rfl (lv_at hl 0 rfl) ?_
                      refine va_get (D := D) (ci := 8) (v := .ref q0_c) (C := "ConeForgeModel") (T := FM) (N := 46) hx hb hts iM hown hK hP 0 rfl rfl 2 (by decide) (hts _ (bgc bw686)) (fun _ h9 => h9) rfl d_M_set_150 ?_
                      refine lv_iload_n hx hb d_M_set_153 rfl (lv_at hl 3 rfl) ?_
                      obtain ⟨g74, h⟩ := gd_some h
                      refine va_dald hx hb hK hP 3 0 rfl rfl (inb_in g74) d_M_set_154 ?_
                      exact J155 0 0 vq0_a vq0_b vq0_c x1 x2 x3 x4 (vq0_c x3.toNatClampNeg) H locs ls hP hD hS (lv_sub hl [0, 1, 2, 3, 4] rfl) h
                    · have h := it_t c73 h
                      refine lv_aload_n hx hb d_M_set_140 rfl (lv_at hl 0 rfl) ?_
                      refine va_get (D := D) (ci := 8) (v := .ref q0_b) (C := "ConeForgeModel") (T := FM) (N := 46) hx hb hts iM hown hK hP 0 rfl rfl 1 (by decide) (hts _ (bgc bw685)) (fun _ h9 => h9) rfl d_M_set_141 ?_
                      refine lv_iload_n hx hb d_M_set_144 rfl (lv_at hl 2 rfl) ?_
                      obtain ⟨g75, h⟩ := gd_some h
                      refine va_dald hx hb hK hP 2 0 rfl rfl (inb_in g75) d_M_set_145 ?_
                      refine lv_goto (tgt := 155) hx hb d_M_set_146 (by decide) ?_
                      exact J155 0 0 vq0_a vq0_b vq0_c x1 x2 x3 x4 (vq0_b x2.toNatClampNeg) H locs ls hP hD hS (lv_sub hl [0, 1, 2, 3, 4] rfl) h
                  · have h := it_t c72 h
                    refine lv_aload_n hx hb d_M_set_121 rfl (lv_at hl 0 rfl) ?_
                    refine va_get (D := D) (ci := 8) (v := .ref q0_a) (C := "ConeForgeModel") (T := FM) (N := 46) hx hb hts iM hown hK hP 0 rfl rfl 0 (by decide) (hts _ (bgc bw684)) (fun _ h9 => h9) rfl d_M_set_122 ?_
                    refine lv_bipush (v := 8) hx hb d_M_set_125 (by decide) ?_
                    refine lv_iload_n hx hb d_M_set_127 rfl (lv_at hl 2 rfl) ?_
                    refine lv_imul hx hb d_M_set_128 ?_
                    refine lv_iload_n hx hb d_M_set_129 rfl (lv_at hl 3 rfl) ?_
                    refine lv_iadd hx hb d_M_set_130 ?_
                    obtain ⟨g76, h⟩ := gd_some h
                    refine va_dald hx hb hK hP 1 0 rfl rfl (inb_in g76) d_M_set_131 ?_
                    refine lv_goto (tgt := 155) hx hb d_M_set_132 (by decide) ?_
                    exact J155 0 0 vq0_a vq0_b vq0_c x1 x2 x3 x4 (vq0_a ((8 * x2) + x3).toNatClampNeg) H locs ls hP hD hS (lv_sub hl [0, 1, 2, 3, 4] rfl) h
                · have h := it_f c70 h
                  refine lv_dconst0 hx hb d_M_set_110 ?_
                  exact rtD hx hb hr hlocks hQ (Option.some.inj h) hP hS d_M_set_111 rfl rfl
              · have h := it_f c69 h
                refine lv_iload_n hx hb d_M_set_81 rfl (lv_at hl 3 rfl) ?_
                refine lv_iconst (v := 0) hx hb d_M_set_82 (by decide) ?_
                refine lv_aload_n hx hb d_M_set_83 rfl (lv_at hl 0 rfl) ?_
                refine va_get (D := D) (ci := 8) (v := .int vq0_n) (C := "ConeForgeModel") (T := FM) (N := 46) hx hb hts iM hown hK hP 0 rfl rfl 30 (by decide) (hts _ (bgc bw714)) (fun _ h9 => h9) rfl d_M_set_84 ?_
                refine lv_iconst (v := 1) hx hb d_M_set_87 (by decide) ?_
                refine lv_isub hx hb d_M_set_88 ?_
                obtain ⟨u77, hu77, h⟩ := bi_some h
                have jj78 := j_M_set_89 T q0 q0_a q0_b q0_c q0_rowScale q0_columnScale q0_sa q0_sb q0_sc q0_x q0_s q0_y q0_p q0_d q0_h q0_f q0_mm q0_low q0_dd q0_r q0_big q0_dt q0_dx q0_t q0_cost q0_rowScaleNow q0_columnScaleNow q0_basic q0_text q0_turned q0_na q0_nb q0_nc vq0_m vq0_n vq0_length vq0_where vq0_effort vq0_thrown vq0_at vq0_scaled vq0_solved vq0_second vq0_nm vq0_nn vq0_number vq0_bad vq0_a vq0_b vq0_c
                refine kI2 (v := u77) (wc := (w_M_in T  )) (wc' := (w_M_in T  )) (w_M_set T q0 q0_a q0_b q0_c q0_rowScale q0_columnScale q0_sa q0_sb q0_sc q0_x q0_s q0_y q0_p q0_d q0_h q0_f q0_mm q0_low q0_dd q0_r q0_big q0_dt q0_dx q0_t q0_cost q0_rowScaleNow q0_columnScaleNow q0_basic q0_text q0_turned q0_na q0_nb q0_nc vq0_m vq0_n vq0_length vq0_where vq0_effort vq0_thrown vq0_at vq0_scaled vq0_solved vq0_second vq0_nm vq0_nn vq0_number vq0_bad vq0_a vq0_b vq0_c) (runOS (As := [.int x3, .int 0, .int (vq0_n - 1)]) (rest := [.ref q0]) ((c_M_in l D T   x3 0 (vq0_n - 1) u77 hu77) H.size) ⟨hx, hb, hml, hown, hts⟩ (cwOS bw785 bw786 bw105 bw787 dd_M_in hts ⟨Nat.le_of_ble_eq_true rfl, Nat.le_of_ble_eq_true rfl⟩)  hNW hK hP hD [] jj78.1 (by decide) rfl hl.1 rfl (lv_room (Nat.le_of_ble_eq_true rfl)) d_M_set_89 ⟨Nat.le_of_ble_eq_true rfl, Nat.le_of_ble_eq_true rfl⟩) hP hD hS hA [] [0, 1, 2, 3] jj78.1 jj78.2.1 jj78.2.2.1 (N := 4) jj78.2.2.2.2 (by decide) jj78.2.2.2.1 (fun H locs hP hD hS => ?_)
                refine lv_if_ne (tgt := 99) hx hb d_M_set_92 (by decide) (fun c79 => ?_) (fun c79 => ?_)
                · have h := it_f c79 h
                  refine lv_iconst (v := 0) hx hb d_M_set_99 (by decide) ?_
                  refine va_put (D := D) (ci := 8) (v := .int 0) (ty := .int) (C := "ConeForgeModel") (T := FM) (N := 46) hx hb hts iM tM tM_ok nmM hown hK hP hD hS 0 rfl rfl 34 (by decide) (hts _ (bgc bw718)) (fun _ h9 => h9) rfl (by decide +kernel) rfl rfl (Nat.le_of_ble_eq_true rfl) d_M_set_100 (fun H locs hP hD hS => ?_)
                  have hP : va_P D CL (w_M_set T q0 q0_a q0_b q0_c q0_rowScale q0_columnScale q0_sa q0_sb q0_sc q0_x q0_s q0_y q0_p q0_d q0_h q0_f q0_mm q0_low q0_dd q0_r q0_big q0_dt q0_dx q0_t q0_cost q0_rowScaleNow q0_columnScaleNow q0_basic q0_text q0_turned q0_na q0_nb q0_nc vq0_m vq0_n vq0_length vq0_where vq0_effort 0 vq0_at vq0_scaled vq0_solved vq0_second vq0_nm vq0_nn vq0_number vq0_bad vq0_a vq0_b vq0_c) H := hP
                  have hD : va_D A (w_M_set T q0 q0_a q0_b q0_c q0_rowScale q0_columnScale q0_sa q0_sb q0_sc q0_x q0_s q0_y q0_p q0_d q0_h q0_f q0_mm q0_low q0_dd q0_r q0_big q0_dt q0_dx q0_t q0_cost q0_rowScaleNow q0_columnScaleNow q0_basic q0_text q0_turned q0_na q0_nb q0_nc vq0_m vq0_n vq0_length vq0_where vq0_effort 0 vq0_at vq0_scaled vq0_solved vq0_second vq0_nm vq0_nn vq0_number vq0_bad vq0_a vq0_b vq0_c) := hD
                  refine lv_aload_n hx hb d_M_set_103 rfl (lv_at hl 0 rfl) ?_
                  refine va_get (D := D) (ci := 8) (v := .int 0) (C := "ConeForgeModel") (T := FM) (N := 46) hx hb hts iM hown hK hP 0 rfl rfl 34 (by decide) (hts _ (bgc bw718)) (fun _ h9 => h9) rfl d_M_set_104 ?_
                  refine lv_if_le (tgt := 112) hx hb d_M_set_107 (by decide) (fun c80 => ?_) (fun c80 => ?_)
                  · have h := it_t c80 h
                    refine lv_aload_n hx hb d_M_set_112 rfl (lv_at hl 0 rfl) ?_
                    refine lv_iconst (v := 0) hx hb d_M_set_113 (by decide) ?_
                    obtain ⟨g81, h⟩ := gd_some h
                    refine va_put (D := D) (ci := 8) (v := .int 0) (ty := .boolean) (C := "ConeForgeModel") (T := FM) (N := 46) hx hb hts iM tM tM_ok nmM hown hK hP hD hS 0 rfl rfl 37 (by decide) (hts _ (bgc bw721)) (fun _ h9 => h9) rfl (by decide +kernel) (isb_n g81) (isb_f g81) (Nat.le_of_ble_eq_true rfl) d_M_set_114 (fun H locs hP hD hS => ?_)
                    have hP : va_P D CL (w_M_set T q0 q0_a q0_b q0_c q0_rowScale q0_columnScale q0_sa q0_sb q0_sc q0_x q0_s q0_y q0_p q0_d q0_h q0_f q0_mm q0_low q0_dd q0_r q0_big q0_dt q0_dx q0_t q0_cost q0_rowScaleNow q0_columnScaleNow q0_basic q0_text q0_turned q0_na q0_nb q0_nc vq0_m vq0_n vq0_length vq0_where vq0_effort 0 vq0_at vq0_scaled 0 vq0_second vq0_nm vq0_nn vq0_number vq0_bad vq0_a vq0_b vq0_c) H := hP
                    have hD : va_D A (w_M_set T q0 q0_a q0_b q0_c q0_rowScale q0_columnScale q0_sa q0_sb q0_sc q0_x q0_s q0_y q0_p q0_d q0_h q0_f q0_mm q0_low q0_dd q0_r q0_big q0_dt q0_dx q0_t q0_cost q0_rowScaleNow q0_columnScaleNow q0_basic q0_text q0_turned q0_na q0_nb q0_nc vq0_m vq0_n vq0_length vq0_where vq0_effort 0 vq0_at vq0_scaled 0 vq0_second vq0_nm vq0_nn vq0_number vq0_bad vq0_a vq0_b vq0_c) := hD
                    refine lv_iload_n hx hb d_M_set_117 rfl (lv_at hl 1 rfl) ?_
                    refine lv_if_ne (tgt := 135) hx hb d_M_set_118 (by decide) (fun c82 => ?_) (fun c82 => ?_)
                    · have h := it_f c82 h
                      refine lv_iload_n hx hb d_M_set_135 rfl (lv_at hl 1 rfl) ?_
                      refine lv_iconst (v := 1) hx hb d_M_set_136 (by decide) ?_
                      refine lv_icmp_ne (tgt := 149) hx hb d_M_set_137 (by decide) (fun c83 => ?_) (fun c83 => ?_)
                      · have h := it_f c83 h
                        refine lv_aload_n hx hb d_M_set_149 rfl (lv_at hl 0 rfl) ?_
                        refine va_get (D := D) (ci := 8) (v := .ref q0_c) (C := "ConeForgeModel") (T := FM) (N := 46) hx hb hts iM hown hK hP 0 rfl rfl 2 (by decide) (hts _ (bgc bw686)) (fun _ h9 => h9) rfl d_M_set_150 ?_
                        refine lv_iload_n hx hb d_M_set_153 rfl (lv_at hl 3 rfl) ?_
                        obtain ⟨g84, h⟩ := gd_some h
                        refine va_dald hx hb hK hP 3 0 rfl rfl (inb_in g84) d_M_set_154 ?_
                        exact J155 0 0 vq0_a vq0_b vq0_c x1 x2 x3 x4 (vq0_c x3.toNatClampNeg) H locs ls hP hD hS (lv_sub hl [0, 1, 2, 3, 4] rfl) h
                      · have h := it_t c83 h
                        refine lv_aload_n hx hb d_M_set_140 rfl (lv_at hl 0 rfl) ?_
                        refine va_get (D := D) (ci := 8) (v := .ref q0_b) (C := "ConeForgeModel") (T := FM) (N := 46) hx hb hts iM hown hK hP 0 rfl rfl 1 (by decide) (hts _ (bgc bw685)) (fun _ h9 => h9) rfl d_M_set_141 ?_
                        refine lv_iload_n hx hb d_M_set_144 rfl (lv_at hl 2 rfl) ?_
                        obtain ⟨g85, h⟩ := gd_some h
                        refine va_dald hx hb hK hP 2 0 rfl rfl (inb_in g85) d_M_set_145 ?_
                        refine lv_goto (tgt := 155) hx hb d_M_set_146 (by decide) ?_
                        exact J155 0 0 vq0_a vq0_b vq0_c x1 x2 x3 x4 (vq0_b x2.toNatClampNeg) H locs ls hP hD hS (lv_sub hl [0, 1, 2, 3, 4] rfl) h
                    · have h := it_t c82 h
                      refine lv_aload_n hx hb d_M_set_121 rfl (lv_at hl 0 rfl) ?_
                      refine va_get (D := D) (ci := 8) (v := .ref q0_a) (C := "ConeForgeModel") (T := FM) (N := 46) hx hb hts iM hown hK hP 0 rfl rfl 0 (by decide) (hts _ (bgc bw684)) (fun _ h9 => h9) rfl d_M_set_122 ?_
                      refine lv_bipush (v := 8) hx hb d_M_set_125 (by decide) ?_
                      refine lv_iload_n hx hb d_M_set_127 rfl (lv_at hl 2 rfl) ?_
                      refine lv_imul hx hb d_M_set_128 ?_
                      refine lv_iload_n hx hb d_M_set_129 rfl (lv_at hl 3 rfl) ?_
                      refine lv_iadd hx hb d_M_set_130 ?_
                      obtain ⟨g86, h⟩ := gd_some h
                      refine va_dald hx hb hK hP 1 0 rfl rfl (inb_in g86) d_M_set_131 ?_
                      refine lv_goto (tgt := 155) hx hb d_M_set_132 (by decide) ?_
                      exact J155 0 0 vq0_a vq0_b vq0_c x1 x2 x3 x4 (vq0_a ((8 * x2) + x3).toNatClampNeg) H locs ls hP hD hS (lv_sub hl [0, 1, 2, 3, 4] rfl) h
                  · have h := it_f c80 h
                    refine lv_dconst0 hx hb d_M_set_110 ?_
                    exact rtD hx hb hr hlocks hQ (Option.some.inj h) hP hS d_M_set_111 rfl rfl
                · have h := it_t c79 h
                  refine lv_iconst (v := 2) hx hb d_M_set_95 (by decide) ?_
                  refine lv_goto (tgt := 100) hx hb d_M_set_96 (by decide) ?_
                  refine va_put (D := D) (ci := 8) (v := .int 2) (ty := .int) (C := "ConeForgeModel") (T := FM) (N := 46) hx hb hts iM tM tM_ok nmM hown hK hP hD hS 0 rfl rfl 34 (by decide) (hts _ (bgc bw718)) (fun _ h9 => h9) rfl (by decide +kernel) rfl rfl (Nat.le_of_ble_eq_true rfl) d_M_set_100 (fun H locs hP hD hS => ?_)
                  have hP : va_P D CL (w_M_set T q0 q0_a q0_b q0_c q0_rowScale q0_columnScale q0_sa q0_sb q0_sc q0_x q0_s q0_y q0_p q0_d q0_h q0_f q0_mm q0_low q0_dd q0_r q0_big q0_dt q0_dx q0_t q0_cost q0_rowScaleNow q0_columnScaleNow q0_basic q0_text q0_turned q0_na q0_nb q0_nc vq0_m vq0_n vq0_length vq0_where vq0_effort 2 vq0_at vq0_scaled vq0_solved vq0_second vq0_nm vq0_nn vq0_number vq0_bad vq0_a vq0_b vq0_c) H := hP
                  have hD : va_D A (w_M_set T q0 q0_a q0_b q0_c q0_rowScale q0_columnScale q0_sa q0_sb q0_sc q0_x q0_s q0_y q0_p q0_d q0_h q0_f q0_mm q0_low q0_dd q0_r q0_big q0_dt q0_dx q0_t q0_cost q0_rowScaleNow q0_columnScaleNow q0_basic q0_text q0_turned q0_na q0_nb q0_nc vq0_m vq0_n vq0_length vq0_where vq0_effort 2 vq0_at vq0_scaled vq0_solved vq0_second vq0_nm vq0_nn vq0_number vq0_bad vq0_a vq0_b vq0_c) := hD
                  refine lv_aload_n hx hb d_M_set_103 rfl (lv_at hl 0 rfl) ?_
                  refine va_get (D := D) (ci := 8) (v := .int 2) (C := "ConeForgeModel") (T := FM) (N := 46) hx hb hts iM hown hK hP 0 rfl rfl 34 (by decide) (hts _ (bgc bw718)) (fun _ h9 => h9) rfl d_M_set_104 ?_
                  refine lv_if_le (tgt := 112) hx hb d_M_set_107 (by decide) (fun c87 => ?_) (fun c87 => ?_)
                  · have h := it_t c87 h
                    refine lv_aload_n hx hb d_M_set_112 rfl (lv_at hl 0 rfl) ?_
                    refine lv_iconst (v := 0) hx hb d_M_set_113 (by decide) ?_
                    obtain ⟨g88, h⟩ := gd_some h
                    refine va_put (D := D) (ci := 8) (v := .int 0) (ty := .boolean) (C := "ConeForgeModel") (T := FM) (N := 46) hx hb hts iM tM tM_ok nmM hown hK hP hD hS 0 rfl rfl 37 (by decide) (hts _ (bgc bw721)) (fun _ h9 => h9) rfl (by decide +kernel) (isb_n g88) (isb_f g88) (Nat.le_of_ble_eq_true rfl) d_M_set_114 (fun H locs hP hD hS => ?_)
                    have hP : va_P D CL (w_M_set T q0 q0_a q0_b q0_c q0_rowScale q0_columnScale q0_sa q0_sb q0_sc q0_x q0_s q0_y q0_p q0_d q0_h q0_f q0_mm q0_low q0_dd q0_r q0_big q0_dt q0_dx q0_t q0_cost q0_rowScaleNow q0_columnScaleNow q0_basic q0_text q0_turned q0_na q0_nb q0_nc vq0_m vq0_n vq0_length vq0_where vq0_effort 2 vq0_at vq0_scaled 0 vq0_second vq0_nm vq0_nn vq0_number vq0_bad vq0_a vq0_b vq0_c) H := hP
                    have hD : va_D A (w_M_set T q0 q0_a q0_b q0_c q0_rowScale q0_columnScale q0_sa q0_sb q0_sc q0_x q0_s q0_y q0_p q0_d q0_h q0_f q0_mm q0_low q0_dd q0_r q0_big q0_dt q0_dx q0_t q0_cost q0_rowScaleNow q0_columnScaleNow q0_basic q0_text q0_turned q0_na q0_nb q0_nc vq0_m vq0_n vq0_length vq0_where vq0_effort 2 vq0_at vq0_scaled 0 vq0_second vq0_nm vq0_nn vq0_number vq0_bad vq0_a vq0_b vq0_c) := hD
                    refine lv_iload_n hx hb d_M_set_117 rfl (lv_at hl 1 rfl) ?_
                    refine lv_if_ne (tgt := 135) hx hb d_M_set_118 (by decide) (fun c89 => ?_) (fun c89 => ?_)
                    · have h := it_f c89 h
                      refine lv_iload_n hx hb d_M_set_135 rfl (lv_at hl 1 rfl) ?_
                      refine lv_iconst (v := 1) hx hb d_M_set_136 (by decide) ?_
                      refine lv_icmp_ne (tgt := 149) hx hb d_M_set_137 (by decide) (fun c90 => ?_) (fun c90 => ?_)
                      · have h := it_f c90 h
                        refine lv_aload_n hx hb d_M_set_149 rfl (lv_at hl 0 rfl) ?_
                        refine va_get (D := D) (ci := 8) (v := .ref q0_c) (C := "ConeForgeModel") (T := FM) (N := 46) hx hb hts iM hown hK hP 0 rfl rfl 2 (by decide) (hts _ (bgc bw686)) (fun _ h9 => h9) rfl d_M_set_150 ?_
                        refine lv_iload_n hx hb d_M_set_153 rfl (lv_at hl 3 rfl) ?_
                        obtain ⟨g91, h⟩ := gd_some h
                        refine va_dald hx hb hK hP 3 0 rfl rfl (inb_in g91) d_M_set_154 ?_
                        exact J155 2 0 vq0_a vq0_b vq0_c x1 x2 x3 x4 (vq0_c x3.toNatClampNeg) H locs ls hP hD hS (lv_sub hl [0, 1, 2, 3, 4] rfl) h
                      · have h := it_t c90 h
                        refine lv_aload_n hx hb d_M_set_140 rfl (lv_at hl 0 rfl) ?_
                        refine va_get (D := D) (ci := 8) (v := .ref q0_b) (C := "ConeForgeModel") (T := FM) (N := 46) hx hb hts iM hown hK hP 0 rfl rfl 1 (by decide) (hts _ (bgc bw685)) (fun _ h9 => h9) rfl d_M_set_141 ?_
                        refine lv_iload_n hx hb d_M_set_144 rfl (lv_at hl 2 rfl) ?_
                        obtain ⟨g92, h⟩ := gd_some h
                        refine va_dald hx hb hK hP 2 0 rfl rfl (inb_in g92) d_M_set_145 ?_
                        refine lv_goto (tgt := 155) hx hb d_M_set_146 (by decide) ?_
                        exact J155 2 0 vq0_a vq0_b vq0_c x1 x2 x3 x4 (vq0_b x2.toNatClampNeg) H locs ls hP hD hS (lv_sub hl [0, 1, 2, 3, 4] rfl) h
                    · have h := it_t c89 h
                      refine lv_aload_n hx hb d_M_set_121 rfl (lv_at hl 0 rfl) ?_
                      refine va_get (D := D) (ci := 8) (v := .ref q0_a) (C := "ConeForgeModel") (T := FM) (N := 46) hx hb hts iM hown hK hP 0 rfl rfl 0 (by decide) (hts _ (bgc bw684)) (fun _ h9 => h9) rfl d_M_set_122 ?_
                      refine lv_bipush (v := 8) hx hb d_M_set_125 (by decide) ?_
                      refine lv_iload_n hx hb d_M_set_127 rfl (lv_at hl 2 rfl) ?_
                      refine lv_imul hx hb d_M_set_128 ?_
                      refine lv_iload_n hx hb d_M_set_129 rfl (lv_at hl 3 rfl) ?_
                      refine lv_iadd hx hb d_M_set_130 ?_
                      obtain ⟨g93, h⟩ := gd_some h
                      refine va_dald hx hb hK hP 1 0 rfl rfl (inb_in g93) d_M_set_131 ?_
                      refine lv_goto (tgt := 155) hx hb d_M_set_132 (by decide) ?_
                      exact J155 2 0 vq0_a vq0_b vq0_c x1 x2 x3 x4 (vq0_a ((8 * x2) + x3).toNatClampNeg) H locs ls hP hD hS (lv_sub hl [0, 1, 2, 3, 4] rfl) h
                  · have h := it_f c87 h
                    refine lv_dconst0 hx hb d_M_set_110 ?_
                    exact rtD hx hb hr hlocks hQ (Option.some.inj h) hP hS d_M_set_111 rfl rfl
        · have h := it_f c32 h
          refine lv_dload hx hb d_M_set_35 (lv_at hl 4 rfl) ?_
          refine lv_ldc2d (v := 4517329193108106637) hx hb hown (hts _ (bgc bw794)) d_M_set_37 ?_
          refine lv_dcmp hx hb d_M_set_40 ?_
          refine lv_if_ge (tgt := 57) hx hb d_M_set_41 (by decide) (fun c94 => ?_) (fun c94 => ?_)
          · have h := it_t c94 h
            refine lv_iload_n hx hb d_M_set_57 rfl (lv_at hl 1 rfl) ?_
            refine lv_iconst (v := 2) hx hb d_M_set_58 (by decide) ?_
            refine lv_icmp_ge (tgt := 76) hx hb d_M_set_59 (by decide) (fun c95 => ?_) (fun c95 => ?_)
            · have h := it_t c95 h
              refine lv_iload_n hx hb d_M_set_76 rfl (lv_at hl 1 rfl) ?_
              refine lv_iconst (v := 1) hx hb d_M_set_77 (by decide) ?_
              refine lv_icmp_eq (tgt := 99) hx hb d_M_set_78 (by decide) (fun c96 => ?_) (fun c96 => ?_)
              · have h := it_t c96 h
                refine lv_iconst (v := 0) hx hb d_M_set_99 (by decide) ?_
                refine va_put (D := D) (ci := 8) (v := .int 0) (ty := .int) (C := "ConeForgeModel") (T := FM) (N := 46) hx hb hts iM tM tM_ok nmM hown hK hP hD hS 0 rfl rfl 34 (by decide) (hts _ (bgc bw718)) (fun _ h9 => h9) rfl (by decide +kernel) rfl rfl (Nat.le_of_ble_eq_true rfl) d_M_set_100 (fun H locs hP hD hS => ?_)
                have hP : va_P D CL (w_M_set T q0 q0_a q0_b q0_c q0_rowScale q0_columnScale q0_sa q0_sb q0_sc q0_x q0_s q0_y q0_p q0_d q0_h q0_f q0_mm q0_low q0_dd q0_r q0_big q0_dt q0_dx q0_t q0_cost q0_rowScaleNow q0_columnScaleNow q0_basic q0_text q0_turned q0_na q0_nb q0_nc vq0_m vq0_n vq0_length vq0_where vq0_effort 0 vq0_at vq0_scaled vq0_solved vq0_second vq0_nm vq0_nn vq0_number vq0_bad vq0_a vq0_b vq0_c) H := hP
                have hD : va_D A (w_M_set T q0 q0_a q0_b q0_c q0_rowScale q0_columnScale q0_sa q0_sb q0_sc q0_x q0_s q0_y q0_p q0_d q0_h q0_f q0_mm q0_low q0_dd q0_r q0_big q0_dt q0_dx q0_t q0_cost q0_rowScaleNow q0_columnScaleNow q0_basic q0_text q0_turned q0_na q0_nb q0_nc vq0_m vq0_n vq0_length vq0_where vq0_effort 0 vq0_at vq0_scaled vq0_solved vq0_second vq0_nm vq0_nn vq0_number vq0_bad vq0_a vq0_b vq0_c) := hD
                refine lv_aload_n hx hb d_M_set_103 rfl (lv_at hl 0 rfl) ?_
                refine va_get (D := D) (ci := 8) (v := .int 0) (C := "ConeForgeModel") (T := FM) (N := 46) hx hb hts iM hown hK hP 0 rfl rfl 34 (by decide) (hts _ (bgc bw718)) (fun _ h9 => h9) rfl d_M_set_104 ?_
                refine lv_if_le (tgt := 112) hx hb d_M_set_107 (by decide) (fun c97 => ?_) (fun c97 => ?_)
                · have h := it_t c97 h
                  refine lv_aload_n hx hb d_M_set_112 rfl (lv_at hl 0 rfl) ?_
                  refine lv_iconst (v := 0) hx hb d_M_set_113 (by decide) ?_
                  obtain ⟨g98, h⟩ := gd_some h
                  refine va_put (D := D) (ci := 8) (v := .int 0) (ty := .boolean) (C := "ConeForgeModel") (T := FM) (N := 46) hx hb hts iM tM tM_ok nmM hown hK hP hD hS 0 rfl rfl 37 (by decide) (hts _ (bgc bw721)) (fun _ h9 => h9) rfl (by decide +kernel) (isb_n g98) (isb_f g98) (Nat.le_of_ble_eq_true rfl) d_M_set_114 (fun H locs hP hD hS => ?_)
                  have hP : va_P D CL (w_M_set T q0 q0_a q0_b q0_c q0_rowScale q0_columnScale q0_sa q0_sb q0_sc q0_x q0_s q0_y q0_p q0_d q0_h q0_f q0_mm q0_low q0_dd q0_r q0_big q0_dt q0_dx q0_t q0_cost q0_rowScaleNow q0_columnScaleNow q0_basic q0_text q0_turned q0_na q0_nb q0_nc vq0_m vq0_n vq0_length vq0_where vq0_effort 0 vq0_at vq0_scaled 0 vq0_second vq0_nm vq0_nn vq0_number vq0_bad vq0_a vq0_b vq0_c) H := hP
                  have hD : va_D A (w_M_set T q0 q0_a q0_b q0_c q0_rowScale q0_columnScale q0_sa q0_sb q0_sc q0_x q0_s q0_y q0_p q0_d q0_h q0_f q0_mm q0_low q0_dd q0_r q0_big q0_dt q0_dx q0_t q0_cost q0_rowScaleNow q0_columnScaleNow q0_basic q0_text q0_turned q0_na q0_nb q0_nc vq0_m vq0_n vq0_length vq0_where vq0_effort 0 vq0_at vq0_scaled 0 vq0_second vq0_nm vq0_nn vq0_number vq0_bad vq0_a vq0_b vq0_c) := hD
                  refine lv_iload_n hx hb d_M_set_117 rfl (lv_at hl 1 rfl) ?_
                  refine lv_if_ne (tgt := 135) hx hb d_M_set_118 (by decide) (fun c99 => ?_) (fun c99 => ?_)
                  · have h := it_f c99 h
                    refine lv_iload_n hx hb d_M_set_135 rfl (lv_at hl 1 rfl) ?_
                    refine lv_iconst (v := 1) hx hb d_M_set_136 (by decide) ?_
                    refine lv_icmp_ne (tgt := 149) hx hb d_M_set_137 (by decide) (fun c100 => ?_) (fun c100 => ?_)
                    · have h := it_f c100 h
                      refine lv_aload_n hx hb d_M_set_149 rfl (lv_at hl 0 rfl) ?_
                      refine va_get (D := D) (ci := 8) (v := .ref q0_c) (C := "ConeForgeModel") (T := FM) (N := 46) hx hb hts iM hown hK hP 0 rfl rfl 2 (by decide) (hts _ (bgc bw686)) (fun _ h9 => h9) rfl d_M_set_150 ?_
                      refine lv_iload_n hx hb d_M_set_153 rfl (lv_at hl 3 rfl) ?_
                      obtain ⟨g101, h⟩ := gd_some h
                      refine va_dald hx hb hK hP 3 0 rfl rfl (inb_in g101) d_M_set_154 ?_
                      exact J155 0 0 vq0_a vq0_b vq0_c x1 x2 x3 x4 (vq0_c x3.toNatClampNeg) H locs ls hP hD hS (lv_sub hl [0, 1, 2, 3, 4] rfl) h
                    · have h := it_t c100 h
                      refine lv_aload_n hx hb d_M_set_140 rfl (lv_at hl 0 rfl) ?_
                      refine va_get (D := D) (ci := 8) (v := .ref q0_b) (C := "ConeForgeModel") (T := FM) (N := 46) hx hb hts iM hown hK hP 0 rfl rfl 1 (by decide) (hts _ (bgc bw685)) (fun _ h9 => h9) rfl d_M_set_141 ?_
                      refine lv_iload_n hx hb d_M_set_144 rfl (lv_at hl 2 rfl) ?_
                      obtain ⟨g102, h⟩ := gd_some h
                      refine va_dald hx hb hK hP 2 0 rfl rfl (inb_in g102) d_M_set_145 ?_
                      refine lv_goto (tgt := 155) hx hb d_M_set_146 (by decide) ?_
                      exact J155 0 0 vq0_a vq0_b vq0_c x1 x2 x3 x4 (vq0_b x2.toNatClampNeg) H locs ls hP hD hS (lv_sub hl [0, 1, 2, 3, 4] rfl) h
                  · have h := it_t c99 h
                    refine lv_aload_n hx hb d_M_set_121 rfl (lv_at hl 0 rfl) ?_
                    refine va_get (D := D) (ci := 8) (v := .ref q0_a) (C := "ConeForgeModel") (T := FM) (N := 46) hx hb hts iM hown hK hP 0 rfl rfl 0 (by decide) (hts _ (bgc bw684)) (fun _ h9 => h9) rfl d_M_set_122 ?_
                    refine lv_bipush (v := 8) hx hb d_M_set_125 (by decide) ?_
                    refine lv_iload_n hx hb d_M_set_127 rfl (lv_at hl 2 rfl) ?_
                    refine lv_imul hx hb d_M_set_128 ?_
                    refine lv_iload_n hx hb d_M_set_129 rfl (lv_at hl 3 rfl) ?_
                    refine lv_iadd hx hb d_M_set_130 ?_
                    obtain ⟨g103, h⟩ := gd_some h
                    refine va_dald hx hb hK hP 1 0 rfl rfl (inb_in g103) d_M_set_131 ?_
                    refine lv_goto (tgt := 155) hx hb d_M_set_132 (by decide) ?_
                    exact J155 0 0 vq0_a vq0_b vq0_c x1 x2 x3 x4 (vq0_a ((8 * x2) + x3).toNatClampNeg) H locs ls hP hD hS (lv_sub hl [0, 1, 2, 3, 4] rfl) h
                · have h := it_f c97 h
                  refine lv_dconst0 hx hb d_M_set_110 ?_
                  exact rtD hx hb hr hlocks hQ (Option.some.inj h) hP hS d_M_set_111 rfl rfl
              · have h := it_f c96 h
                refine lv_iload_n hx hb d_M_set_81 rfl (lv_at hl 3 rfl) ?_
                refine lv_iconst (v := 0) hx hb d_M_set_82 (by decide) ?_
                refine lv_aload_n hx hb d_M_set_83 rfl (lv_at hl 0 rfl) ?_
                refine va_get (D := D) (ci := 8) (v := .int vq0_n) (C := "ConeForgeModel") (T := FM) (N := 46) hx hb hts iM hown hK hP 0 rfl rfl 30 (by decide) (hts _ (bgc bw714)) (fun _ h9 => h9) rfl d_M_set_84 ?_
                refine lv_iconst (v := 1) hx hb d_M_set_87 (by decide) ?_
                refine lv_isub hx hb d_M_set_88 ?_
                obtain ⟨u104, hu104, h⟩ := bi_some h
                have jj105 := j_M_set_89 T q0 q0_a q0_b q0_c q0_rowScale q0_columnScale q0_sa q0_sb q0_sc q0_x q0_s q0_y q0_p q0_d q0_h q0_f q0_mm q0_low q0_dd q0_r q0_big q0_dt q0_dx q0_t q0_cost q0_rowScaleNow q0_columnScaleNow q0_basic q0_text q0_turned q0_na q0_nb q0_nc vq0_m vq0_n vq0_length vq0_where vq0_effort vq0_thrown vq0_at vq0_scaled vq0_solved vq0_second vq0_nm vq0_nn vq0_number vq0_bad vq0_a vq0_b vq0_c
                refine kI2 (v := u104) (wc := (w_M_in T  )) (wc' := (w_M_in T  )) (w_M_set T q0 q0_a q0_b q0_c q0_rowScale q0_columnScale q0_sa q0_sb q0_sc q0_x q0_s q0_y q0_p q0_d q0_h q0_f q0_mm q0_low q0_dd q0_r q0_big q0_dt q0_dx q0_t q0_cost q0_rowScaleNow q0_columnScaleNow q0_basic q0_text q0_turned q0_na q0_nb q0_nc vq0_m vq0_n vq0_length vq0_where vq0_effort vq0_thrown vq0_at vq0_scaled vq0_solved vq0_second vq0_nm vq0_nn vq0_number vq0_bad vq0_a vq0_b vq0_c) (runOS (As := [.int x3, .int 0, .int (vq0_n - 1)]) (rest := [.ref q0]) ((c_M_in l D T   x3 0 (vq0_n - 1) u104 hu104) H.size) ⟨hx, hb, hml, hown, hts⟩ (cwOS bw785 bw786 bw105 bw787 dd_M_in hts ⟨Nat.le_of_ble_eq_true rfl, Nat.le_of_ble_eq_true rfl⟩)  hNW hK hP hD [] jj105.1 (by decide) rfl hl.1 rfl (lv_room (Nat.le_of_ble_eq_true rfl)) d_M_set_89 ⟨Nat.le_of_ble_eq_true rfl, Nat.le_of_ble_eq_true rfl⟩) hP hD hS hA [] [0, 1, 2, 3] jj105.1 jj105.2.1 jj105.2.2.1 (N := 4) jj105.2.2.2.2 (by decide) jj105.2.2.2.1 (fun H locs hP hD hS => ?_)
                refine lv_if_ne (tgt := 99) hx hb d_M_set_92 (by decide) (fun c106 => ?_) (fun c106 => ?_)
                · have h := it_f c106 h
                  refine lv_iconst (v := 0) hx hb d_M_set_99 (by decide) ?_
                  refine va_put (D := D) (ci := 8) (v := .int 0) (ty := .int) (C := "ConeForgeModel") (T := FM) (N := 46) hx hb hts iM tM tM_ok nmM hown hK hP hD hS 0 rfl rfl 34 (by decide) (hts _ (bgc bw718)) (fun _ h9 => h9) rfl (by decide +kernel) rfl rfl (Nat.le_of_ble_eq_true rfl) d_M_set_100 (fun H locs hP hD hS => ?_)
                  have hP : va_P D CL (w_M_set T q0 q0_a q0_b q0_c q0_rowScale q0_columnScale q0_sa q0_sb q0_sc q0_x q0_s q0_y q0_p q0_d q0_h q0_f q0_mm q0_low q0_dd q0_r q0_big q0_dt q0_dx q0_t q0_cost q0_rowScaleNow q0_columnScaleNow q0_basic q0_text q0_turned q0_na q0_nb q0_nc vq0_m vq0_n vq0_length vq0_where vq0_effort 0 vq0_at vq0_scaled vq0_solved vq0_second vq0_nm vq0_nn vq0_number vq0_bad vq0_a vq0_b vq0_c) H := hP
                  have hD : va_D A (w_M_set T q0 q0_a q0_b q0_c q0_rowScale q0_columnScale q0_sa q0_sb q0_sc q0_x q0_s q0_y q0_p q0_d q0_h q0_f q0_mm q0_low q0_dd q0_r q0_big q0_dt q0_dx q0_t q0_cost q0_rowScaleNow q0_columnScaleNow q0_basic q0_text q0_turned q0_na q0_nb q0_nc vq0_m vq0_n vq0_length vq0_where vq0_effort 0 vq0_at vq0_scaled vq0_solved vq0_second vq0_nm vq0_nn vq0_number vq0_bad vq0_a vq0_b vq0_c) := hD
                  refine lv_aload_n hx hb d_M_set_103 rfl (lv_at hl 0 rfl) ?_
                  refine va_get (D := D) (ci := 8) (v := .int 0) (C := "ConeForgeModel") (T := FM) (N := 46) hx hb hts iM hown hK hP 0 rfl rfl 34 (by decide) (hts _ (bgc bw718)) (fun _ h9 => h9) rfl d_M_set_104 ?_
                  refine lv_if_le (tgt := 112) hx hb d_M_set_107 (by decide) (fun c107 => ?_) (fun c107 => ?_)
                  · have h := it_t c107 h
                    refine lv_aload_n hx hb d_M_set_112 rfl (lv_at hl 0 rfl) ?_
                    refine lv_iconst (v := 0) hx hb d_M_set_113 (by decide) ?_
                    obtain ⟨g108, h⟩ := gd_some h
                    refine va_put (D := D) (ci := 8) (v := .int 0) (ty := .boolean) (C := "ConeForgeModel") (T := FM) (N := 46) hx hb hts iM tM tM_ok nmM hown hK hP hD hS 0 rfl rfl 37 (by decide) (hts _ (bgc bw721)) (fun _ h9 => h9) rfl (by decide +kernel) (isb_n g108) (isb_f g108) (Nat.le_of_ble_eq_true rfl) d_M_set_114 (fun H locs hP hD hS => ?_)
                    have hP : va_P D CL (w_M_set T q0 q0_a q0_b q0_c q0_rowScale q0_columnScale q0_sa q0_sb q0_sc q0_x q0_s q0_y q0_p q0_d q0_h q0_f q0_mm q0_low q0_dd q0_r q0_big q0_dt q0_dx q0_t q0_cost q0_rowScaleNow q0_columnScaleNow q0_basic q0_text q0_turned q0_na q0_nb q0_nc vq0_m vq0_n vq0_length vq0_where vq0_effort 0 vq0_at vq0_scaled 0 vq0_second vq0_nm vq0_nn vq0_number vq0_bad vq0_a vq0_b vq0_c) H := hP
                    have hD : va_D A (w_M_set T q0 q0_a q0_b q0_c q0_rowScale q0_columnScale q0_sa q0_sb q0_sc q0_x q0_s q0_y q0_p q0_d q0_h q0_f q0_mm q0_low q0_dd q0_r q0_big q0_dt q0_dx q0_t q0_cost q0_rowScaleNow q0_columnScaleNow q0_basic q0_text q0_turned q0_na q0_nb q0_nc vq0_m vq0_n vq0_length vq0_where vq0_effort 0 vq0_at vq0_scaled 0 vq0_second vq0_nm vq0_nn vq0_number vq0_bad vq0_a vq0_b vq0_c) := hD
                    refine lv_iload_n hx hb d_M_set_117 rfl (lv_at hl 1 rfl) ?_
                    refine lv_if_ne (tgt := 135) hx hb d_M_set_118 (by decide) (fun c109 => ?_) (fun c109 => ?_)
                    · have h := it_f c109 h
                      refine lv_iload_n hx hb d_M_set_135 rfl (lv_at hl 1 rfl) ?_
                      refine lv_iconst (v := 1) hx hb d_M_set_136 (by decide) ?_
                      refine lv_icmp_ne (tgt := 149) hx hb d_M_set_137 (by decide) (fun c110 => ?_) (fun c110 => ?_)
                      · have h := it_f c110 h
                        refine lv_aload_n hx hb d_M_set_149 rfl (lv_at hl 0 rfl) ?_
                        refine va_get (D := D) (ci := 8) (v := .ref q0_c) (C := "ConeForgeModel") (T := FM) (N := 46) hx hb hts iM hown hK hP 0 rfl rfl 2 (by decide) (hts _ (bgc bw686)) (fun _ h9 => h9) rfl d_M_set_150 ?_
                        refine lv_iload_n hx hb d_M_set_153 rfl (lv_at hl 3 rfl) ?_
                        obtain ⟨g111, h⟩ := gd_some h
                        refine va_dald hx hb hK hP 3 0 rfl rfl (inb_in g111) d_M_set_154 ?_
                        exact J155 0 0 vq0_a vq0_b vq0_c x1 x2 x3 x4 (vq0_c x3.toNatClampNeg) H locs ls hP hD hS (lv_sub hl [0, 1, 2, 3, 4] rfl) h
                      · have h := it_t c110 h
                        refine lv_aload_n hx hb d_M_set_140 rfl (lv_at hl 0 rfl) ?_
                        refine va_get (D := D) (ci := 8) (v := .ref q0_b) (C := "ConeForgeModel") (T := FM) (N := 46) hx hb hts iM hown hK hP 0 rfl rfl 1 (by decide) (hts _ (bgc bw685)) (fun _ h9 => h9) rfl d_M_set_141 ?_
                        refine lv_iload_n hx hb d_M_set_144 rfl (lv_at hl 2 rfl) ?_
                        obtain ⟨g112, h⟩ := gd_some h
                        refine va_dald hx hb hK hP 2 0 rfl rfl (inb_in g112) d_M_set_145 ?_
                        refine lv_goto (tgt := 155) hx hb d_M_set_146 (by decide) ?_
                        exact J155 0 0 vq0_a vq0_b vq0_c x1 x2 x3 x4 (vq0_b x2.toNatClampNeg) H locs ls hP hD hS (lv_sub hl [0, 1, 2, 3, 4] rfl) h
                    · have h := it_t c109 h
                      refine lv_aload_n hx hb d_M_set_121 rfl (lv_at hl 0 rfl) ?_
                      refine va_get (D := D) (ci := 8) (v := .ref q0_a) (C := "ConeForgeModel") (T := FM) (N := 46) hx hb hts iM hown hK hP 0 rfl rfl 0 (by decide) (hts _ (bgc bw684)) (fun _ h9 => h9) rfl d_M_set_122 ?_
                      refine lv_bipush (v := 8) hx hb d_M_set_125 (by decide) ?_
                      refine lv_iload_n hx hb d_M_set_127 rfl (lv_at hl 2 rfl) ?_
                      refine lv_imul hx hb d_M_set_128 ?_
                      refine lv_iload_n hx hb d_M_set_129 rfl (lv_at hl 3 rfl) ?_
                      refine lv_iadd hx hb d_M_set_130 ?_
                      obtain ⟨g113, h⟩ := gd_some h
                      refine va_dald hx hb hK hP 1 0 rfl rfl (inb_in g113) d_M_set_131 ?_
                      refine lv_goto (tgt := 155) hx hb d_M_set_132 (by decide) ?_
                      exact J155 0 0 vq0_a vq0_b vq0_c x1 x2 x3 x4 (vq0_a ((8 * x2) + x3).toNatClampNeg) H locs ls hP hD hS (lv_sub hl [0, 1, 2, 3, 4] rfl) h
                  · have h := it_f c107 h
                    refine lv_dconst0 hx hb d_M_set_110 ?_
                    exact rtD hx hb hr hlocks hQ (Option.some.inj h) hP hS d_M_set_111 rfl rfl
                · have h := it_t c106 h
                  refine lv_iconst (v := 2) hx hb d_M_set_95 (by decide) ?_
                  refine lv_goto (tgt := 100) hx hb d_M_set_96 (by decide) ?_
                  refine va_put (D := D) (ci := 8) (v := .int 2) (ty := .int) (C := "ConeForgeModel") (T := FM) (N := 46) hx hb hts iM tM tM_ok nmM hown hK hP hD hS 0 rfl rfl 34 (by decide) (hts _ (bgc bw718)) (fun _ h9 => h9) rfl (by decide +kernel) rfl rfl (Nat.le_of_ble_eq_true rfl) d_M_set_100 (fun H locs hP hD hS => ?_)
                  have hP : va_P D CL (w_M_set T q0 q0_a q0_b q0_c q0_rowScale q0_columnScale q0_sa q0_sb q0_sc q0_x q0_s q0_y q0_p q0_d q0_h q0_f q0_mm q0_low q0_dd q0_r q0_big q0_dt q0_dx q0_t q0_cost q0_rowScaleNow q0_columnScaleNow q0_basic q0_text q0_turned q0_na q0_nb q0_nc vq0_m vq0_n vq0_length vq0_where vq0_effort 2 vq0_at vq0_scaled vq0_solved vq0_second vq0_nm vq0_nn vq0_number vq0_bad vq0_a vq0_b vq0_c) H := hP
                  have hD : va_D A (w_M_set T q0 q0_a q0_b q0_c q0_rowScale q0_columnScale q0_sa q0_sb q0_sc q0_x q0_s q0_y q0_p q0_d q0_h q0_f q0_mm q0_low q0_dd q0_r q0_big q0_dt q0_dx q0_t q0_cost q0_rowScaleNow q0_columnScaleNow q0_basic q0_text q0_turned q0_na q0_nb q0_nc vq0_m vq0_n vq0_length vq0_where vq0_effort 2 vq0_at vq0_scaled vq0_solved vq0_second vq0_nm vq0_nn vq0_number vq0_bad vq0_a vq0_b vq0_c) := hD
                  refine lv_aload_n hx hb d_M_set_103 rfl (lv_at hl 0 rfl) ?_
                  refine va_get (D := D) (ci := 8) (v := .int 2) (C := "ConeForgeModel") (T := FM) (N := 46) hx hb hts iM hown hK hP 0 rfl rfl 34 (by decide) (hts _ (bgc bw718)) (fun _ h9 => h9) rfl d_M_set_104 ?_
                  refine lv_if_le (tgt := 112) hx hb d_M_set_107 (by decide) (fun c114 => ?_) (fun c114 => ?_)
                  · have h := it_t c114 h
                    refine lv_aload_n hx hb d_M_set_112 rfl (lv_at hl 0 rfl) ?_
                    refine lv_iconst (v := 0) hx hb d_M_set_113 (by decide) ?_
                    obtain ⟨g115, h⟩ := gd_some h
                    refine va_put (D := D) (ci := 8) (v := .int 0) (ty := .boolean) (C := "ConeForgeModel") (T := FM) (N := 46) hx hb hts iM tM tM_ok nmM hown hK hP hD hS 0 rfl rfl 37 (by decide) (hts _ (bgc bw721)) (fun _ h9 => h9) rfl (by decide +kernel) (isb_n g115) (isb_f g115) (Nat.le_of_ble_eq_true rfl) d_M_set_114 (fun H locs hP hD hS => ?_)
                    have hP : va_P D CL (w_M_set T q0 q0_a q0_b q0_c q0_rowScale q0_columnScale q0_sa q0_sb q0_sc q0_x q0_s q0_y q0_p q0_d q0_h q0_f q0_mm q0_low q0_dd q0_r q0_big q0_dt q0_dx q0_t q0_cost q0_rowScaleNow q0_columnScaleNow q0_basic q0_text q0_turned q0_na q0_nb q0_nc vq0_m vq0_n vq0_length vq0_where vq0_effort 2 vq0_at vq0_scaled 0 vq0_second vq0_nm vq0_nn vq0_number vq0_bad vq0_a vq0_b vq0_c) H := hP
                    have hD : va_D A (w_M_set T q0 q0_a q0_b q0_c q0_rowScale q0_columnScale q0_sa q0_sb q0_sc q0_x q0_s q0_y q0_p q0_d q0_h q0_f q0_mm q0_low q0_dd q0_r q0_big q0_dt q0_dx q0_t q0_cost q0_rowScaleNow q0_columnScaleNow q0_basic q0_text q0_turned q0_na q0_nb q0_nc vq0_m vq0_n vq0_length vq0_where vq0_effort 2 vq0_at vq0_scaled 0 vq0_second vq0_nm vq0_nn vq0_number vq0_bad vq0_a vq0_b vq0_c) := hD
                    refine lv_iload_n hx hb d_M_set_117 rfl (lv_at hl 1 rfl) ?_
                    refine lv_if_ne (tgt := 135) hx hb d_M_set_118 (by decide) (fun c116 => ?_) (fun c116 => ?_)
                    · have h := it_f c116 h
                      refine lv_iload_n hx hb d_M_set_135 rfl (lv_at hl 1 rfl) ?_
                      refine lv_iconst (v := 1) hx hb d_M_set_136 (by decide) ?_
                      refine lv_icmp_ne (tgt := 149) hx hb d_M_set_137 (by decide) (fun c117 => ?_) (fun c117 => ?_)
                      · have h := it_f c117 h
                        refine lv_aload_n hx hb d_M_set_149 rfl (lv_at hl 0 rfl) ?_
                        refine va_get (D := D) (ci := 8) (v := .ref q0_c) (C := "ConeForgeModel") (T := FM) (N := 46) hx hb hts iM hown hK hP 0 rfl rfl 2 (by decide) (hts _ (bgc bw686)) (fun _ h9 => h9) rfl d_M_set_150 ?_
                        refine lv_iload_n hx hb d_M_set_153 rfl (lv_at hl 3 rfl) ?_
                        obtain ⟨g118, h⟩ := gd_some h
                        refine va_dald hx hb hK hP 3 0 rfl rfl (inb_in g118) d_M_set_154 ?_
                        exact J155 2 0 vq0_a vq0_b vq0_c x1 x2 x3 x4 (vq0_c x3.toNatClampNeg) H locs ls hP hD hS (lv_sub hl [0, 1, 2, 3, 4] rfl) h
                      · have h := it_t c117 h
                        refine lv_aload_n hx hb d_M_set_140 rfl (lv_at hl 0 rfl) ?_
                        refine va_get (D := D) (ci := 8) (v := .ref q0_b) (C := "ConeForgeModel") (T := FM) (N := 46) hx hb hts iM hown hK hP 0 rfl rfl 1 (by decide) (hts _ (bgc bw685)) (fun _ h9 => h9) rfl d_M_set_141 ?_
                        refine lv_iload_n hx hb d_M_set_144 rfl (lv_at hl 2 rfl) ?_
                        obtain ⟨g119, h⟩ := gd_some h
                        refine va_dald hx hb hK hP 2 0 rfl rfl (inb_in g119) d_M_set_145 ?_
                        refine lv_goto (tgt := 155) hx hb d_M_set_146 (by decide) ?_
                        exact J155 2 0 vq0_a vq0_b vq0_c x1 x2 x3 x4 (vq0_b x2.toNatClampNeg) H locs ls hP hD hS (lv_sub hl [0, 1, 2, 3, 4] rfl) h
                    · have h := it_t c116 h
                      refine lv_aload_n hx hb d_M_set_121 rfl (lv_at hl 0 rfl) ?_
                      refine va_get (D := D) (ci := 8) (v := .ref q0_a) (C := "ConeForgeModel") (T := FM) (N := 46) hx hb hts iM hown hK hP 0 rfl rfl 0 (by decide) (hts _ (bgc bw684)) (fun _ h9 => h9) rfl d_M_set_122 ?_
                      refine lv_bipush (v := 8) hx hb d_M_set_125 (by decide) ?_
                      refine lv_iload_n hx hb d_M_set_127 rfl (lv_at hl 2 rfl) ?_
                      refine lv_imul hx hb d_M_set_128 ?_
                      refine lv_iload_n hx hb d_M_set_129 rfl (lv_at hl 3 rfl) ?_
                      refine lv_iadd hx hb d_M_set_130 ?_
                      obtain ⟨g120, h⟩ := gd_some h
                      refine va_dald hx hb hK hP 1 0 rfl rfl (inb_in g120) d_M_set_131 ?_
                      refine lv_goto (tgt := 155) hx hb d_M_set_132 (by decide) ?_
                      exact J155 2 0 vq0_a vq0_b vq0_c x1 x2 x3 x4 (vq0_a ((8 * x2) + x3).toNatClampNeg) H locs ls hP hD hS (lv_sub hl [0, 1, 2, 3, 4] rfl) h
                  · have h := it_f c114 h
                    refine lv_dconst0 hx hb d_M_set_110 ?_
                    exact rtD hx hb hr hlocks hQ (Option.some.inj h) hP hS d_M_set_111 rfl rfl
            · have h := it_f c95 h
              refine lv_iload_n hx hb d_M_set_62 rfl (lv_at hl 2 rfl) ?_
              refine lv_iconst (v := 0) hx hb d_M_set_63 (by decide) ?_
              refine lv_aload_n hx hb d_M_set_64 rfl (lv_at hl 0 rfl) ?_
              refine va_get (D := D) (ci := 8) (v := .int vq0_m) (C := "ConeForgeModel") (T := FM) (N := 46) hx hb hts iM hown hK hP 0 rfl rfl 29 (by decide) (hts _ (bgc bw713)) (fun _ h9 => h9) rfl d_M_set_65 ?_
              refine lv_iconst (v := 1) hx hb d_M_set_68 (by decide) ?_
              refine lv_isub hx hb d_M_set_69 ?_
              obtain ⟨u121, hu121, h⟩ := bi_some h
              have jj122 := j_M_set_70 T q0 q0_a q0_b q0_c q0_rowScale q0_columnScale q0_sa q0_sb q0_sc q0_x q0_s q0_y q0_p q0_d q0_h q0_f q0_mm q0_low q0_dd q0_r q0_big q0_dt q0_dx q0_t q0_cost q0_rowScaleNow q0_columnScaleNow q0_basic q0_text q0_turned q0_na q0_nb q0_nc vq0_m vq0_n vq0_length vq0_where vq0_effort vq0_thrown vq0_at vq0_scaled vq0_solved vq0_second vq0_nm vq0_nn vq0_number vq0_bad vq0_a vq0_b vq0_c
              refine kI2 (v := u121) (wc := (w_M_in T  )) (wc' := (w_M_in T  )) (w_M_set T q0 q0_a q0_b q0_c q0_rowScale q0_columnScale q0_sa q0_sb q0_sc q0_x q0_s q0_y q0_p q0_d q0_h q0_f q0_mm q0_low q0_dd q0_r q0_big q0_dt q0_dx q0_t q0_cost q0_rowScaleNow q0_columnScaleNow q0_basic q0_text q0_turned q0_na q0_nb q0_nc vq0_m vq0_n vq0_length vq0_where vq0_effort vq0_thrown vq0_at vq0_scaled vq0_solved vq0_second vq0_nm vq0_nn vq0_number vq0_bad vq0_a vq0_b vq0_c) (runOS (As := [.int x2, .int 0, .int (vq0_m - 1)]) (rest := [.ref q0]) ((c_M_in l D T   x2 0 (vq0_m - 1) u121 hu121) H.size) ⟨hx, hb, hml, hown, hts⟩ (cwOS bw785 bw786 bw105 bw787 dd_M_in hts ⟨Nat.le_of_ble_eq_true rfl, Nat.le_of_ble_eq_true rfl⟩)  hNW hK hP hD [] jj122.1 (by decide) rfl hl.1 rfl (lv_room (Nat.le_of_ble_eq_true rfl)) d_M_set_70 ⟨Nat.le_of_ble_eq_true rfl, Nat.le_of_ble_eq_true rfl⟩) hP hD hS hA [] [0, 1, 2, 3] jj122.1 jj122.2.1 jj122.2.2.1 (N := 4) jj122.2.2.2.2 (by decide) jj122.2.2.2.1 (fun H locs hP hD hS => ?_)
              refine lv_if_eq (tgt := 95) hx hb d_M_set_73 (by decide) (fun c123 => ?_) (fun c123 => ?_)
              · have h := it_t c123 h
                refine lv_iconst (v := 2) hx hb d_M_set_95 (by decide) ?_
                refine lv_goto (tgt := 100) hx hb d_M_set_96 (by decide) ?_
                refine va_put (D := D) (ci := 8) (v := .int 2) (ty := .int) (C := "ConeForgeModel") (T := FM) (N := 46) hx hb hts iM tM tM_ok nmM hown hK hP hD hS 0 rfl rfl 34 (by decide) (hts _ (bgc bw718)) (fun _ h9 => h9) rfl (by decide +kernel) rfl rfl (Nat.le_of_ble_eq_true rfl) d_M_set_100 (fun H locs hP hD hS => ?_)
                have hP : va_P D CL (w_M_set T q0 q0_a q0_b q0_c q0_rowScale q0_columnScale q0_sa q0_sb q0_sc q0_x q0_s q0_y q0_p q0_d q0_h q0_f q0_mm q0_low q0_dd q0_r q0_big q0_dt q0_dx q0_t q0_cost q0_rowScaleNow q0_columnScaleNow q0_basic q0_text q0_turned q0_na q0_nb q0_nc vq0_m vq0_n vq0_length vq0_where vq0_effort 2 vq0_at vq0_scaled vq0_solved vq0_second vq0_nm vq0_nn vq0_number vq0_bad vq0_a vq0_b vq0_c) H := hP
                have hD : va_D A (w_M_set T q0 q0_a q0_b q0_c q0_rowScale q0_columnScale q0_sa q0_sb q0_sc q0_x q0_s q0_y q0_p q0_d q0_h q0_f q0_mm q0_low q0_dd q0_r q0_big q0_dt q0_dx q0_t q0_cost q0_rowScaleNow q0_columnScaleNow q0_basic q0_text q0_turned q0_na q0_nb q0_nc vq0_m vq0_n vq0_length vq0_where vq0_effort 2 vq0_at vq0_scaled vq0_solved vq0_second vq0_nm vq0_nn vq0_number vq0_bad vq0_a vq0_b vq0_c) := hD
                refine lv_aload_n hx hb d_M_set_103 rfl (lv_at hl 0 rfl) ?_
                refine va_get (D := D) (ci := 8) (v := .int 2) (C := "ConeForgeModel") (T := FM) (N := 46) hx hb hts iM hown hK hP 0 rfl rfl 34 (by decide) (hts _ (bgc bw718)) (fun _ h9 => h9) rfl d_M_set_104 ?_
                refine lv_if_le (tgt := 112) hx hb d_M_set_107 (by decide) (fun c124 => ?_) (fun c124 => ?_)
                · have h := it_t c124 h
                  refine lv_aload_n hx hb d_M_set_112 rfl (lv_at hl 0 rfl) ?_
                  refine lv_iconst (v := 0) hx hb d_M_set_113 (by decide) ?_
                  obtain ⟨g125, h⟩ := gd_some h
                  refine va_put (D := D) (ci := 8) (v := .int 0) (ty := .boolean) (C := "ConeForgeModel") (T := FM) (N := 46) hx hb hts iM tM tM_ok nmM hown hK hP hD hS 0 rfl rfl 37 (by decide) (hts _ (bgc bw721)) (fun _ h9 => h9) rfl (by decide +kernel) (isb_n g125) (isb_f g125) (Nat.le_of_ble_eq_true rfl) d_M_set_114 (fun H locs hP hD hS => ?_)
                  have hP : va_P D CL (w_M_set T q0 q0_a q0_b q0_c q0_rowScale q0_columnScale q0_sa q0_sb q0_sc q0_x q0_s q0_y q0_p q0_d q0_h q0_f q0_mm q0_low q0_dd q0_r q0_big q0_dt q0_dx q0_t q0_cost q0_rowScaleNow q0_columnScaleNow q0_basic q0_text q0_turned q0_na q0_nb q0_nc vq0_m vq0_n vq0_length vq0_where vq0_effort 2 vq0_at vq0_scaled 0 vq0_second vq0_nm vq0_nn vq0_number vq0_bad vq0_a vq0_b vq0_c) H := hP
                  have hD : va_D A (w_M_set T q0 q0_a q0_b q0_c q0_rowScale q0_columnScale q0_sa q0_sb q0_sc q0_x q0_s q0_y q0_p q0_d q0_h q0_f q0_mm q0_low q0_dd q0_r q0_big q0_dt q0_dx q0_t q0_cost q0_rowScaleNow q0_columnScaleNow q0_basic q0_text q0_turned q0_na q0_nb q0_nc vq0_m vq0_n vq0_length vq0_where vq0_effort 2 vq0_at vq0_scaled 0 vq0_second vq0_nm vq0_nn vq0_number vq0_bad vq0_a vq0_b vq0_c) := hD
                  refine lv_iload_n hx hb d_M_set_117 rfl (lv_at hl 1 rfl) ?_
                  refine lv_if_ne (tgt := 135) hx hb d_M_set_118 (by decide) (fun c126 => ?_) (fun c126 => ?_)
                  · have h := it_f c126 h
                    refine lv_iload_n hx hb d_M_set_135 rfl (lv_at hl 1 rfl) ?_
                    refine lv_iconst (v := 1) hx hb d_M_set_136 (by decide) ?_
                    refine lv_icmp_ne (tgt := 149) hx hb d_M_set_137 (by decide) (fun c127 => ?_) (fun c127 => ?_)
                    · have h := it_f c127 h
                      refine lv_aload_n hx hb d_M_set_149 rfl (lv_at hl 0 rfl) ?_
                      refine va_get (D := D) (ci := 8) (v := .ref q0_c) (C := "ConeForgeModel") (T := FM) (N := 46) hx hb hts iM hown hK hP 0 rfl rfl 2 (by decide) (hts _ (bgc bw686)) (fun _ h9 => h9) rfl d_M_set_150 ?_
                      refine lv_iload_n hx hb d_M_set_153 rfl (lv_at hl 3 rfl) ?_
                      obtain ⟨g128, h⟩ := gd_some h
                      refine va_dald hx hb hK hP 3 0 rfl rfl (inb_in g128) d_M_set_154 ?_
                      exact J155 2 0 vq0_a vq0_b vq0_c x1 x2 x3 x4 (vq0_c x3.toNatClampNeg) H locs ls hP hD hS (lv_sub hl [0, 1, 2, 3, 4] rfl) h
                    · have h := it_t c127 h
                      refine lv_aload_n hx hb d_M_set_140 rfl (lv_at hl 0 rfl) ?_
                      refine va_get (D := D) (ci := 8) (v := .ref q0_b) (C := "ConeForgeModel") (T := FM) (N := 46) hx hb hts iM hown hK hP 0 rfl rfl 1 (by decide) (hts _ (bgc bw685)) (fun _ h9 => h9) rfl d_M_set_141 ?_
                      refine lv_iload_n hx hb d_M_set_144 rfl (lv_at hl 2 rfl) ?_
                      obtain ⟨g129, h⟩ := gd_some h
                      refine va_dald hx hb hK hP 2 0 rfl rfl (inb_in g129) d_M_set_145 ?_
                      refine lv_goto (tgt := 155) hx hb d_M_set_146 (by decide) ?_
                      exact J155 2 0 vq0_a vq0_b vq0_c x1 x2 x3 x4 (vq0_b x2.toNatClampNeg) H locs ls hP hD hS (lv_sub hl [0, 1, 2, 3, 4] rfl) h
                  · have h := it_t c126 h
                    refine lv_aload_n hx hb d_M_set_121 rfl (lv_at hl 0 rfl) ?_
                    refine va_get (D := D) (ci := 8) (v := .ref q0_a) (C := "ConeForgeModel") (T := FM) (N := 46) hx hb hts iM hown hK hP 0 rfl rfl 0 (by decide) (hts _ (bgc bw684)) (fun _ h9 => h9) rfl d_M_set_122 ?_
                    refine lv_bipush (v := 8) hx hb d_M_set_125 (by decide) ?_
                    refine lv_iload_n hx hb d_M_set_127 rfl (lv_at hl 2 rfl) ?_
                    refine lv_imul hx hb d_M_set_128 ?_
                    refine lv_iload_n hx hb d_M_set_129 rfl (lv_at hl 3 rfl) ?_
                    refine lv_iadd hx hb d_M_set_130 ?_
                    obtain ⟨g130, h⟩ := gd_some h
                    refine va_dald hx hb hK hP 1 0 rfl rfl (inb_in g130) d_M_set_131 ?_
                    refine lv_goto (tgt := 155) hx hb d_M_set_132 (by decide) ?_
                    exact J155 2 0 vq0_a vq0_b vq0_c x1 x2 x3 x4 (vq0_a ((8 * x2) + x3).toNatClampNeg) H locs ls hP hD hS (lv_sub hl [0, 1, 2, 3, 4] rfl) h
                · have h := it_f c124 h
                  refine lv_dconst0 hx hb d_M_set_110 ?_
                  exact rtD hx hb hr hlocks hQ (Option.some.inj h) hP hS d_M_set_111 rfl rfl
              · have h := it_f c123 h
                refine lv_iload_n hx hb d_M_set_76 rfl (lv_at hl 1 rfl) ?_
                refine lv_iconst (v := 1) hx hb d_M_set_77 (by decide) ?_
                refine lv_icmp_eq (tgt := 99) hx hb d_M_set_78 (by decide) (fun c131 => ?_) (fun c131 => ?_)
                · have h := it_t c131 h
                  refine lv_iconst (v := 0) hx hb d_M_set_99 (by decide) ?_
                  refine va_put (D := D) (ci := 8) (v := .int 0) (ty := .int) (C := "ConeForgeModel") (T := FM) (N := 46) hx hb hts iM tM tM_ok nmM hown hK hP hD hS 0 rfl rfl 34 (by decide) (hts _ (bgc bw718)) (fun _ h9 => h9) rfl (by decide +kernel) rfl rfl (Nat.le_of_ble_eq_true rfl) d_M_set_100 (fun H locs hP hD hS => ?_)
                  have hP : va_P D CL (w_M_set T q0 q0_a q0_b q0_c q0_rowScale q0_columnScale q0_sa q0_sb q0_sc q0_x q0_s q0_y q0_p q0_d q0_h q0_f q0_mm q0_low q0_dd q0_r q0_big q0_dt q0_dx q0_t q0_cost q0_rowScaleNow q0_columnScaleNow q0_basic q0_text q0_turned q0_na q0_nb q0_nc vq0_m vq0_n vq0_length vq0_where vq0_effort 0 vq0_at vq0_scaled vq0_solved vq0_second vq0_nm vq0_nn vq0_number vq0_bad vq0_a vq0_b vq0_c) H := hP
                  have hD : va_D A (w_M_set T q0 q0_a q0_b q0_c q0_rowScale q0_columnScale q0_sa q0_sb q0_sc q0_x q0_s q0_y q0_p q0_d q0_h q0_f q0_mm q0_low q0_dd q0_r q0_big q0_dt q0_dx q0_t q0_cost q0_rowScaleNow q0_columnScaleNow q0_basic q0_text q0_turned q0_na q0_nb q0_nc vq0_m vq0_n vq0_length vq0_where vq0_effort 0 vq0_at vq0_scaled vq0_solved vq0_second vq0_nm vq0_nn vq0_number vq0_bad vq0_a vq0_b vq0_c) := hD
                  refine lv_aload_n hx hb d_M_set_103 rfl (lv_at hl 0 rfl) ?_
                  refine va_get (D := D) (ci := 8) (v := .int 0) (C := "ConeForgeModel") (T := FM) (N := 46) hx hb hts iM hown hK hP 0 rfl rfl 34 (by decide) (hts _ (bgc bw718)) (fun _ h9 => h9) rfl d_M_set_104 ?_
                  refine lv_if_le (tgt := 112) hx hb d_M_set_107 (by decide) (fun c132 => ?_) (fun c132 => ?_)
                  · have h := it_t c132 h
                    refine lv_aload_n hx hb d_M_set_112 rfl (lv_at hl 0 rfl) ?_
                    refine lv_iconst (v := 0) hx hb d_M_set_113 (by decide) ?_
                    obtain ⟨g133, h⟩ := gd_some h
                    refine va_put (D := D) (ci := 8) (v := .int 0) (ty := .boolean) (C := "ConeForgeModel") (T := FM) (N := 46) hx hb hts iM tM tM_ok nmM hown hK hP hD hS 0 rfl rfl 37 (by decide) (hts _ (bgc bw721)) (fun _ h9 => h9) rfl (by decide +kernel) (isb_n g133) (isb_f g133) (Nat.le_of_ble_eq_true rfl) d_M_set_114 (fun H locs hP hD hS => ?_)
                    have hP : va_P D CL (w_M_set T q0 q0_a q0_b q0_c q0_rowScale q0_columnScale q0_sa q0_sb q0_sc q0_x q0_s q0_y q0_p q0_d q0_h q0_f q0_mm q0_low q0_dd q0_r q0_big q0_dt q0_dx q0_t q0_cost q0_rowScaleNow q0_columnScaleNow q0_basic q0_text q0_turned q0_na q0_nb q0_nc vq0_m vq0_n vq0_length vq0_where vq0_effort 0 vq0_at vq0_scaled 0 vq0_second vq0_nm vq0_nn vq0_number vq0_bad vq0_a vq0_b vq0_c) H := hP
                    have hD : va_D A (w_M_set T q0 q0_a q0_b q0_c q0_rowScale q0_columnScale q0_sa q0_sb q0_sc q0_x q0_s q0_y q0_p q0_d q0_h q0_f q0_mm q0_low q0_dd q0_r q0_big q0_dt q0_dx q0_t q0_cost q0_rowScaleNow q0_columnScaleNow q0_basic q0_text q0_turned q0_na q0_nb q0_nc vq0_m vq0_n vq0_length vq0_where vq0_effort 0 vq0_at vq0_scaled 0 vq0_second vq0_nm vq0_nn vq0_number vq0_bad vq0_a vq0_b vq0_c) := hD
                    refine lv_iload_n hx hb d_M_set_117 rfl (lv_at hl 1 rfl) ?_
                    refine lv_if_ne (tgt := 135) hx hb d_M_set_118 (by decide) (fun c134 => ?_) (fun c134 => ?_)
                    · have h := it_f c134 h
                      refine lv_iload_n hx hb d_M_set_135 rfl (lv_at hl 1 rfl) ?_
                      refine lv_iconst (v := 1) hx hb d_M_set_136 (by decide) ?_
                      refine lv_icmp_ne (tgt := 149) hx hb d_M_set_137 (by decide) (fun c135 => ?_) (fun c135 => ?_)
                      · have h := it_f c135 h
                        refine lv_aload_n hx hb d_M_set_149 rfl (lv_at hl 0 rfl) ?_
                        refine va_get (D := D) (ci := 8) (v := .ref q0_c) (C := "ConeForgeModel") (T := FM) (N := 46) hx hb hts iM hown hK hP 0 rfl rfl 2 (by decide) (hts _ (bgc bw686)) (fun _ h9 => h9) rfl d_M_set_150 ?_
                        refine lv_iload_n hx hb d_M_set_153 rfl (lv_at hl 3 rfl) ?_
                        obtain ⟨g136, h⟩ := gd_some h
                        refine va_dald hx hb hK hP 3 0 rfl rfl (inb_in g136) d_M_set_154 ?_
                        exact J155 0 0 vq0_a vq0_b vq0_c x1 x2 x3 x4 (vq0_c x3.toNatClampNeg) H locs ls hP hD hS (lv_sub hl [0, 1, 2, 3, 4] rfl) h
                      · have h := it_t c135 h
                        refine lv_aload_n hx hb d_M_set_140 rfl (lv_at hl 0 rfl) ?_
                        refine va_get (D := D) (ci := 8) (v := .ref q0_b) (C := "ConeForgeModel") (T := FM) (N := 46) hx hb hts iM hown hK hP 0 rfl rfl 1 (by decide) (hts _ (bgc bw685)) (fun _ h9 => h9) rfl d_M_set_141 ?_
                        refine lv_iload_n hx hb d_M_set_144 rfl (lv_at hl 2 rfl) ?_
                        obtain ⟨g137, h⟩ := gd_some h
                        refine va_dald hx hb hK hP 2 0 rfl rfl (inb_in g137) d_M_set_145 ?_
                        refine lv_goto (tgt := 155) hx hb d_M_set_146 (by decide) ?_
                        exact J155 0 0 vq0_a vq0_b vq0_c x1 x2 x3 x4 (vq0_b x2.toNatClampNeg) H locs ls hP hD hS (lv_sub hl [0, 1, 2, 3, 4] rfl) h
                    · have h := it_t c134 h
                      refine lv_aload_n hx hb d_M_set_121 rfl (lv_at hl 0 rfl) ?_
                      refine va_get (D := D) (ci := 8) (v := .ref q0_a) (C := "ConeForgeModel") (T := FM) (N := 46) hx hb hts iM hown hK hP 0 rfl rfl 0 (by decide) (hts _ (bgc bw684)) (fun _ h9 => h9) rfl d_M_set_122 ?_
                      refine lv_bipush (v := 8) hx hb d_M_set_125 (by decide) ?_
                      refine lv_iload_n hx hb d_M_set_127 rfl (lv_at hl 2 rfl) ?_
                      refine lv_imul hx hb d_M_set_128 ?_
                      refine lv_iload_n hx hb d_M_set_129 rfl (lv_at hl 3 rfl) ?_
                      refine lv_iadd hx hb d_M_set_130 ?_
                      obtain ⟨g138, h⟩ := gd_some h
                      refine va_dald hx hb hK hP 1 0 rfl rfl (inb_in g138) d_M_set_131 ?_
                      refine lv_goto (tgt := 155) hx hb d_M_set_132 (by decide) ?_
                      exact J155 0 0 vq0_a vq0_b vq0_c x1 x2 x3 x4 (vq0_a ((8 * x2) + x3).toNatClampNeg) H locs ls hP hD hS (lv_sub hl [0, 1, 2, 3, 4] rfl) h
                  · have h := it_f c132 h
                    refine lv_dconst0 hx hb d_M_set_110 ?_
                    exact rtD hx hb hr hlocks hQ (Option.some.inj h) hP hS d_M_set_111 rfl rfl
                · have h := it_f c131 h
                  refine lv_iload_n hx hb d_M_set_81 rfl (lv_at hl 3 rfl) ?_
                  refine lv_iconst (v := 0) hx hb d_M_set_82 (by decide) ?_
                  refine lv_aload_n hx hb d_M_set_83 rfl (lv_at hl 0 rfl) ?_
                  refine va_get (D := D) (ci := 8) (v := .int vq0_n) (C := "ConeForgeModel") (T := FM) (N := 46) hx hb hts iM hown hK hP 0 rfl rfl 30 (by decide) (hts _ (bgc bw714)) (fun _ h9 => h9) rfl d_M_set_84 ?_
                  refine lv_iconst (v := 1) hx hb d_M_set_87 (by decide) ?_
                  refine lv_isub hx hb d_M_set_88 ?_
                  obtain ⟨u139, hu139, h⟩ := bi_some h
                  have jj140 := j_M_set_89 T q0 q0_a q0_b q0_c q0_rowScale q0_columnScale q0_sa q0_sb q0_sc q0_x q0_s q0_y q0_p q0_d q0_h q0_f q0_mm q0_low q0_dd q0_r q0_big q0_dt q0_dx q0_t q0_cost q0_rowScaleNow q0_columnScaleNow q0_basic q0_text q0_turned q0_na q0_nb q0_nc vq0_m vq0_n vq0_length vq0_where vq0_effort vq0_thrown vq0_at vq0_scaled vq0_solved vq0_second vq0_nm vq0_nn vq0_number vq0_bad vq0_a vq0_b vq0_c
                  refine kI2 (v := u139) (wc := (w_M_in T  )) (wc' := (w_M_in T  )) (w_M_set T q0 q0_a q0_b q0_c q0_rowScale q0_columnScale q0_sa q0_sb q0_sc q0_x q0_s q0_y q0_p q0_d q0_h q0_f q0_mm q0_low q0_dd q0_r q0_big q0_dt q0_dx q0_t q0_cost q0_rowScaleNow q0_columnScaleNow q0_basic q0_text q0_turned q0_na q0_nb q0_nc vq0_m vq0_n vq0_length vq0_where vq0_effort vq0_thrown vq0_at vq0_scaled vq0_solved vq0_second vq0_nm vq0_nn vq0_number vq0_bad vq0_a vq0_b vq0_c) (runOS (As := [.int x3, .int 0, .int (vq0_n - 1)]) (rest := [.ref q0]) ((c_M_in l D T   x3 0 (vq0_n - 1) u139 hu139) H.size) ⟨hx, hb, hml, hown, hts⟩ (cwOS bw785 bw786 bw105 bw787 dd_M_in hts ⟨Nat.le_of_ble_eq_true rfl, Nat.le_of_ble_eq_true rfl⟩)  hNW hK hP hD [] jj140.1 (by decide) rfl hl.1 rfl (lv_room (Nat.le_of_ble_eq_true rfl)) d_M_set_89 ⟨Nat.le_of_ble_eq_true rfl, Nat.le_of_ble_eq_true rfl⟩) hP hD hS hA [] [0, 1, 2, 3] jj140.1 jj140.2.1 jj140.2.2.1 (N := 4) jj140.2.2.2.2 (by decide) jj140.2.2.2.1 (fun H locs hP hD hS => ?_)
                  refine lv_if_ne (tgt := 99) hx hb d_M_set_92 (by decide) (fun c141 => ?_) (fun c141 => ?_)
                  · have h := it_f c141 h
                    refine lv_iconst (v := 0) hx hb d_M_set_99 (by decide) ?_
                    refine va_put (D := D) (ci := 8) (v := .int 0) (ty := .int) (C := "ConeForgeModel") (T := FM) (N := 46) hx hb hts iM tM tM_ok nmM hown hK hP hD hS 0 rfl rfl 34 (by decide) (hts _ (bgc bw718)) (fun _ h9 => h9) rfl (by decide +kernel) rfl rfl (Nat.le_of_ble_eq_true rfl) d_M_set_100 (fun H locs hP hD hS => ?_)
                    have hP : va_P D CL (w_M_set T q0 q0_a q0_b q0_c q0_rowScale q0_columnScale q0_sa q0_sb q0_sc q0_x q0_s q0_y q0_p q0_d q0_h q0_f q0_mm q0_low q0_dd q0_r q0_big q0_dt q0_dx q0_t q0_cost q0_rowScaleNow q0_columnScaleNow q0_basic q0_text q0_turned q0_na q0_nb q0_nc vq0_m vq0_n vq0_length vq0_where vq0_effort 0 vq0_at vq0_scaled vq0_solved vq0_second vq0_nm vq0_nn vq0_number vq0_bad vq0_a vq0_b vq0_c) H := hP
                    have hD : va_D A (w_M_set T q0 q0_a q0_b q0_c q0_rowScale q0_columnScale q0_sa q0_sb q0_sc q0_x q0_s q0_y q0_p q0_d q0_h q0_f q0_mm q0_low q0_dd q0_r q0_big q0_dt q0_dx q0_t q0_cost q0_rowScaleNow q0_columnScaleNow q0_basic q0_text q0_turned q0_na q0_nb q0_nc vq0_m vq0_n vq0_length vq0_where vq0_effort 0 vq0_at vq0_scaled vq0_solved vq0_second vq0_nm vq0_nn vq0_number vq0_bad vq0_a vq0_b vq0_c) := hD
                    refine lv_aload_n hx hb d_M_set_103 rfl (lv_at hl 0 rfl) ?_
                    refine va_get (D := D) (ci := 8) (v := .int 0) (C := "ConeForgeModel") (T := FM) (N := 46) hx hb hts iM hown hK hP 0 rfl rfl 34 (by decide) (hts _ (bgc bw718)) (fun _ h9 => h9) rfl d_M_set_104 ?_
                    refine lv_if_le (tgt := 112) hx hb d_M_set_107 (by decide) (fun c142 => ?_) (fun c142 => ?_)
                    · have h := it_t c142 h
                      refine lv_aload_n hx hb d_M_set_112 rfl (lv_at hl 0 rfl) ?_
                      refine lv_iconst (v := 0) hx hb d_M_set_113 (by decide) ?_
                      obtain ⟨g143, h⟩ := gd_some h
                      refine va_put (D := D) (ci := 8) (v := .int 0) (ty := .boolean) (C := "ConeForgeModel") (T := FM) (N := 46) hx hb hts iM tM tM_ok nmM hown hK hP hD hS 0 rfl rfl 37 (by decide) (hts _ (bgc bw721)) (fun _ h9 => h9) rfl (by decide +kernel) (isb_n g143) (isb_f g143) (Nat.le_of_ble_eq_true rfl) d_M_set_114 (fun H locs hP hD hS => ?_)
                      have hP : va_P D CL (w_M_set T q0 q0_a q0_b q0_c q0_rowScale q0_columnScale q0_sa q0_sb q0_sc q0_x q0_s q0_y q0_p q0_d q0_h q0_f q0_mm q0_low q0_dd q0_r q0_big q0_dt q0_dx q0_t q0_cost q0_rowScaleNow q0_columnScaleNow q0_basic q0_text q0_turned q0_na q0_nb q0_nc vq0_m vq0_n vq0_length vq0_where vq0_effort 0 vq0_at vq0_scaled 0 vq0_second vq0_nm vq0_nn vq0_number vq0_bad vq0_a vq0_b vq0_c) H := hP
                      have hD : va_D A (w_M_set T q0 q0_a q0_b q0_c q0_rowScale q0_columnScale q0_sa q0_sb q0_sc q0_x q0_s q0_y q0_p q0_d q0_h q0_f q0_mm q0_low q0_dd q0_r q0_big q0_dt q0_dx q0_t q0_cost q0_rowScaleNow q0_columnScaleNow q0_basic q0_text q0_turned q0_na q0_nb q0_nc vq0_m vq0_n vq0_length vq0_where vq0_effort 0 vq0_at vq0_scaled 0 vq0_second vq0_nm vq0_nn vq0_number vq0_bad vq0_a vq0_b vq0_c) := hD
                      refine lv_iload_n hx hb d_M_set_117 rfl (lv_at hl 1 rfl) ?_
                      refine lv_if_ne (tgt := 135) hx hb d_M_set_118 (by decide) (fun c144 => ?_) (fun c144 => ?_)
                      · have h := it_f c144 h
                        refine lv_iload_n hx hb d_M_set_135 rfl (lv_at hl 1 rfl) ?_
                        refine lv_iconst (v := 1) hx hb d_M_set_136 (by decide) ?_
                        refine lv_icmp_ne (tgt := 149) hx hb d_M_set_137 (by decide) (fun c145 => ?_) (fun c145 => ?_)
                        · have h := it_f c145 h
                          refine lv_aload_n hx hb d_M_set_149 rfl (lv_at hl 0 rfl) ?_
                          refine va_get (D := D) (ci := 8) (v := .ref q0_c) (C := "ConeForgeModel") (T := FM) (N := 46) hx hb hts iM hown hK hP 0 rfl rfl 2 (by decide) (hts _ (bgc bw686)) (fun _ h9 => h9) rfl d_M_set_150 ?_
                          refine lv_iload_n hx hb d_M_set_153 rfl (lv_at hl 3 rfl) ?_
                          obtain ⟨g146, h⟩ := gd_some h
                          refine va_dald hx hb hK hP 3 0 rfl rfl (inb_in g146) d_M_set_154 ?_
                          exact J155 0 0 vq0_a vq0_b vq0_c x1 x2 x3 x4 (vq0_c x3.toNatClampNeg) H locs ls hP hD hS (lv_sub hl [0, 1, 2, 3, 4] rfl) h
                        · have h := it_t c145 h
                          refine lv_aload_n hx hb d_M_set_140 rfl (lv_at hl 0 rfl) ?_
                          refine va_get (D := D) (ci := 8) (v := .ref q0_b) (C := "ConeForgeModel") (T := FM) (N := 46) hx hb hts iM hown hK hP 0 rfl rfl 1 (by decide) (hts _ (bgc bw685)) (fun _ h9 => h9) rfl d_M_set_141 ?_
                          refine lv_iload_n hx hb d_M_set_144 rfl (lv_at hl 2 rfl) ?_
                          obtain ⟨g147, h⟩ := gd_some h
                          refine va_dald hx hb hK hP 2 0 rfl rfl (inb_in g147) d_M_set_145 ?_
                          refine lv_goto (tgt := 155) hx hb d_M_set_146 (by decide) ?_
                          exact J155 0 0 vq0_a vq0_b vq0_c x1 x2 x3 x4 (vq0_b x2.toNatClampNeg) H locs ls hP hD hS (lv_sub hl [0, 1, 2, 3, 4] rfl) h
                      · have h := it_t c144 h
                        refine lv_aload_n hx hb d_M_set_121 rfl (lv_at hl 0 rfl) ?_
                        refine va_get (D := D) (ci := 8) (v := .ref q0_a) (C := "ConeForgeModel") (T := FM) (N := 46) hx hb hts iM hown hK hP 0 rfl rfl 0 (by decide) (hts _ (bgc bw684)) (fun _ h9 => h9) rfl d_M_set_122 ?_
                        refine lv_bipush (v := 8) hx hb d_M_set_125 (by decide) ?_
                        refine lv_iload_n hx hb d_M_set_127 rfl (lv_at hl 2 rfl) ?_
                        refine lv_imul hx hb d_M_set_128 ?_
                        refine lv_iload_n hx hb d_M_set_129 rfl (lv_at hl 3 rfl) ?_
                        refine lv_iadd hx hb d_M_set_130 ?_
                        obtain ⟨g148, h⟩ := gd_some h
                        refine va_dald hx hb hK hP 1 0 rfl rfl (inb_in g148) d_M_set_131 ?_
                        refine lv_goto (tgt := 155) hx hb d_M_set_132 (by decide) ?_
                        exact J155 0 0 vq0_a vq0_b vq0_c x1 x2 x3 x4 (vq0_a ((8 * x2) + x3).toNatClampNeg) H locs ls hP hD hS (lv_sub hl [0, 1, 2, 3, 4] rfl) h
                    · have h := it_f c142 h
                      refine lv_dconst0 hx hb d_M_set_110 ?_
                      exact rtD hx hb hr hlocks hQ (Option.some.inj h) hP hS d_M_set_111 rfl rfl
                  · have h := it_t c141 h
                    refine lv_iconst (v := 2) hx hb d_M_set_95 (by decide) ?_
                    refine lv_goto (tgt := 100) hx hb d_M_set_96 (by decide) ?_
                    refine va_put (D := D) (ci := 8) (v := .int 2) (ty := .int) (C := "ConeForgeModel") (T := FM) (N := 46) hx hb hts iM tM tM_ok nmM hown hK hP hD hS 0 rfl rfl 34 (by decide) (hts _ (bgc bw718)) (fun _ h9 => h9) rfl (by decide +kernel) rfl rfl (Nat.le_of_ble_eq_true rfl) d_M_set_100 (fun H locs hP hD hS => ?_)
                    have hP : va_P D CL (w_M_set T q0 q0_a q0_b q0_c q0_rowScale q0_columnScale q0_sa q0_sb q0_sc q0_x q0_s q0_y q0_p q0_d q0_h q0_f q0_mm q0_low q0_dd q0_r q0_big q0_dt q0_dx q0_t q0_cost q0_rowScaleNow q0_columnScaleNow q0_basic q0_text q0_turned q0_na q0_nb q0_nc vq0_m vq0_n vq0_length vq0_where vq0_effort 2 vq0_at vq0_scaled vq0_solved vq0_second vq0_nm vq0_nn vq0_number vq0_bad vq0_a vq0_b vq0_c) H := hP
                    have hD : va_D A (w_M_set T q0 q0_a q0_b q0_c q0_rowScale q0_columnScale q0_sa q0_sb q0_sc q0_x q0_s q0_y q0_p q0_d q0_h q0_f q0_mm q0_low q0_dd q0_r q0_big q0_dt q0_dx q0_t q0_cost q0_rowScaleNow q0_columnScaleNow q0_basic q0_text q0_turned q0_na q0_nb q0_nc vq0_m vq0_n vq0_length vq0_where vq0_effort 2 vq0_at vq0_scaled vq0_solved vq0_second vq0_nm vq0_nn vq0_number vq0_bad vq0_a vq0_b vq0_c) := hD
                    refine lv_aload_n hx hb d_M_set_103 rfl (lv_at hl 0 rfl) ?_
                    refine va_get (D := D) (ci := 8) (v := .int 2) (C := "ConeForgeModel") (T := FM) (N := 46) hx hb hts iM hown hK hP 0 rfl rfl 34 (by decide) (hts _ (bgc bw718)) (fun _ h9 => h9) rfl d_M_set_104 ?_
                    refine lv_if_le (tgt := 112) hx hb d_M_set_107 (by decide) (fun c149 => ?_) (fun c149 => ?_)
                    · have h := it_t c149 h
                      refine lv_aload_n hx hb d_M_set_112 rfl (lv_at hl 0 rfl) ?_
                      refine lv_iconst (v := 0) hx hb d_M_set_113 (by decide) ?_
                      obtain ⟨g150, h⟩ := gd_some h
                      refine va_put (D := D) (ci := 8) (v := .int 0) (ty := .boolean) (C := "ConeForgeModel") (T := FM) (N := 46) hx hb hts iM tM tM_ok nmM hown hK hP hD hS 0 rfl rfl 37 (by decide) (hts _ (bgc bw721)) (fun _ h9 => h9) rfl (by decide +kernel) (isb_n g150) (isb_f g150) (Nat.le_of_ble_eq_true rfl) d_M_set_114 (fun H locs hP hD hS => ?_)
                      have hP : va_P D CL (w_M_set T q0 q0_a q0_b q0_c q0_rowScale q0_columnScale q0_sa q0_sb q0_sc q0_x q0_s q0_y q0_p q0_d q0_h q0_f q0_mm q0_low q0_dd q0_r q0_big q0_dt q0_dx q0_t q0_cost q0_rowScaleNow q0_columnScaleNow q0_basic q0_text q0_turned q0_na q0_nb q0_nc vq0_m vq0_n vq0_length vq0_where vq0_effort 2 vq0_at vq0_scaled 0 vq0_second vq0_nm vq0_nn vq0_number vq0_bad vq0_a vq0_b vq0_c) H := hP
                      have hD : va_D A (w_M_set T q0 q0_a q0_b q0_c q0_rowScale q0_columnScale q0_sa q0_sb q0_sc q0_x q0_s q0_y q0_p q0_d q0_h q0_f q0_mm q0_low q0_dd q0_r q0_big q0_dt q0_dx q0_t q0_cost q0_rowScaleNow q0_columnScaleNow q0_basic q0_text q0_turned q0_na q0_nb q0_nc vq0_m vq0_n vq0_length vq0_where vq0_effort 2 vq0_at vq0_scaled 0 vq0_second vq0_nm vq0_nn vq0_number vq0_bad vq0_a vq0_b vq0_c) := hD
                      refine lv_iload_n hx hb d_M_set_117 rfl (lv_at hl 1 rfl) ?_
                      refine lv_if_ne (tgt := 135) hx hb d_M_set_118 (by decide) (fun c151 => ?_) (fun c151 => ?_)
                      · have h := it_f c151 h
                        refine lv_iload_n hx hb d_M_set_135 rfl (lv_at hl 1 rfl) ?_
                        refine lv_iconst (v := 1) hx hb d_M_set_136 (by decide) ?_
                        refine lv_icmp_ne (tgt := 149) hx hb d_M_set_137 (by decide) (fun c152 => ?_) (fun c152 => ?_)
                        · have h := it_f c152 h
                          refine lv_aload_n hx hb d_M_set_149 rfl (lv_at hl 0 rfl) ?_
                          refine va_get (D := D) (ci := 8) (v := .ref q0_c) (C := "ConeForgeModel") (T := FM) (N := 46) hx hb hts iM hown hK hP 0 rfl rfl 2 (by decide) (hts _ (bgc bw686)) (fun _ h9 => h9) rfl d_M_set_150 ?_
                          refine lv_iload_n hx hb d_M_set_153 rfl (lv_at hl 3 rfl) ?_
                          obtain ⟨g153, h⟩ := gd_some h
                          refine va_dald hx hb hK hP 3 0 rfl rfl (inb_in g153) d_M_set_154 ?_
                          exact J155 2 0 vq0_a vq0_b vq0_c x1 x2 x3 x4 (vq0_c x3.toNatClampNeg) H locs ls hP hD hS (lv_sub hl [0, 1, 2, 3, 4] rfl) h
                        · have h := it_t c152 h
                          refine lv_aload_n hx hb d_M_set_140 rfl (lv_at hl 0 rfl) ?_
                          refine va_get (D := D) (ci := 8) (v := .ref q0_b) (C := "ConeForgeModel") (T := FM) (N := 46) hx hb hts iM hown hK hP 0 rfl rfl 1 (by decide) (hts _ (bgc bw685)) (fun _ h9 => h9) rfl d_M_set_141 ?_
                          refine lv_iload_n hx hb d_M_set_144 rfl (lv_at hl 2 rfl) ?_
                          obtain ⟨g154, h⟩ := gd_some h
                          refine va_dald hx hb hK hP 2 0 rfl rfl (inb_in g154) d_M_set_145 ?_
                          refine lv_goto (tgt := 155) hx hb d_M_set_146 (by decide) ?_
                          exact J155 2 0 vq0_a vq0_b vq0_c x1 x2 x3 x4 (vq0_b x2.toNatClampNeg) H locs ls hP hD hS (lv_sub hl [0, 1, 2, 3, 4] rfl) h
                      · have h := it_t c151 h
                        refine lv_aload_n hx hb d_M_set_121 rfl (lv_at hl 0 rfl) ?_
                        refine va_get (D := D) (ci := 8) (v := .ref q0_a) (C := "ConeForgeModel") (T := FM) (N := 46) hx hb hts iM hown hK hP 0 rfl rfl 0 (by decide) (hts _ (bgc bw684)) (fun _ h9 => h9) rfl d_M_set_122 ?_
                        refine lv_bipush (v := 8) hx hb d_M_set_125 (by decide) ?_
                        refine lv_iload_n hx hb d_M_set_127 rfl (lv_at hl 2 rfl) ?_
                        refine lv_imul hx hb d_M_set_128 ?_
                        refine lv_iload_n hx hb d_M_set_129 rfl (lv_at hl 3 rfl) ?_
                        refine lv_iadd hx hb d_M_set_130 ?_
                        obtain ⟨g155, h⟩ := gd_some h
                        refine va_dald hx hb hK hP 1 0 rfl rfl (inb_in g155) d_M_set_131 ?_
                        refine lv_goto (tgt := 155) hx hb d_M_set_132 (by decide) ?_
                        exact J155 2 0 vq0_a vq0_b vq0_c x1 x2 x3 x4 (vq0_a ((8 * x2) + x3).toNatClampNeg) H locs ls hP hD hS (lv_sub hl [0, 1, 2, 3, 4] rfl) h
                    · have h := it_f c149 h
                      refine lv_dconst0 hx hb d_M_set_110 ?_
                      exact rtD hx hb hr hlocks hQ (Option.some.inj h) hP hS d_M_set_111 rfl rfl
          · have h := it_f c94 h
            refine lv_dload hx hb d_M_set_44 (lv_at hl 4 rfl) ?_
            refine lv_ldc2d (v := 13740701229962882445) hx hb hown (hts _ (bgc bw795)) d_M_set_46 ?_
            refine lv_dcmp hx hb d_M_set_49 ?_
            refine lv_if_le (tgt := 57) hx hb d_M_set_50 (by decide) (fun c156 => ?_) (fun c156 => ?_)
            · have h := it_t c156 h
              refine lv_iload_n hx hb d_M_set_57 rfl (lv_at hl 1 rfl) ?_
              refine lv_iconst (v := 2) hx hb d_M_set_58 (by decide) ?_
              refine lv_icmp_ge (tgt := 76) hx hb d_M_set_59 (by decide) (fun c157 => ?_) (fun c157 => ?_)
              · have h := it_t c157 h
                refine lv_iload_n hx hb d_M_set_76 rfl (lv_at hl 1 rfl) ?_
                refine lv_iconst (v := 1) hx hb d_M_set_77 (by decide) ?_
                refine lv_icmp_eq (tgt := 99) hx hb d_M_set_78 (by decide) (fun c158 => ?_) (fun c158 => ?_)
                · have h := it_t c158 h
                  refine lv_iconst (v := 0) hx hb d_M_set_99 (by decide) ?_
                  refine va_put (D := D) (ci := 8) (v := .int 0) (ty := .int) (C := "ConeForgeModel") (T := FM) (N := 46) hx hb hts iM tM tM_ok nmM hown hK hP hD hS 0 rfl rfl 34 (by decide) (hts _ (bgc bw718)) (fun _ h9 => h9) rfl (by decide +kernel) rfl rfl (Nat.le_of_ble_eq_true rfl) d_M_set_100 (fun H locs hP hD hS => ?_)
                  have hP : va_P D CL (w_M_set T q0 q0_a q0_b q0_c q0_rowScale q0_columnScale q0_sa q0_sb q0_sc q0_x q0_s q0_y q0_p q0_d q0_h q0_f q0_mm q0_low q0_dd q0_r q0_big q0_dt q0_dx q0_t q0_cost q0_rowScaleNow q0_columnScaleNow q0_basic q0_text q0_turned q0_na q0_nb q0_nc vq0_m vq0_n vq0_length vq0_where vq0_effort 0 vq0_at vq0_scaled vq0_solved vq0_second vq0_nm vq0_nn vq0_number vq0_bad vq0_a vq0_b vq0_c) H := hP
                  have hD : va_D A (w_M_set T q0 q0_a q0_b q0_c q0_rowScale q0_columnScale q0_sa q0_sb q0_sc q0_x q0_s q0_y q0_p q0_d q0_h q0_f q0_mm q0_low q0_dd q0_r q0_big q0_dt q0_dx q0_t q0_cost q0_rowScaleNow q0_columnScaleNow q0_basic q0_text q0_turned q0_na q0_nb q0_nc vq0_m vq0_n vq0_length vq0_where vq0_effort 0 vq0_at vq0_scaled vq0_solved vq0_second vq0_nm vq0_nn vq0_number vq0_bad vq0_a vq0_b vq0_c) := hD
                  refine lv_aload_n hx hb d_M_set_103 rfl (lv_at hl 0 rfl) ?_
                  refine va_get (D := D) (ci := 8) (v := .int 0) (C := "ConeForgeModel") (T := FM) (N := 46) hx hb hts iM hown hK hP 0 rfl rfl 34 (by decide) (hts _ (bgc bw718)) (fun _ h9 => h9) rfl d_M_set_104 ?_
                  refine lv_if_le (tgt := 112) hx hb d_M_set_107 (by decide) (fun c159 => ?_) (fun c159 => ?_)
                  · have h := it_t c159 h
                    refine lv_aload_n hx hb d_M_set_112 rfl (lv_at hl 0 rfl) ?_
                    refine lv_iconst (v := 0) hx hb d_M_set_113 (by decide) ?_
                    obtain ⟨g160, h⟩ := gd_some h
                    refine va_put (D := D) (ci := 8) (v := .int 0) (ty := .boolean) (C := "ConeForgeModel") (T := FM) (N := 46) hx hb hts iM tM tM_ok nmM hown hK hP hD hS 0 rfl rfl 37 (by decide) (hts _ (bgc bw721)) (fun _ h9 => h9) rfl (by decide +kernel) (isb_n g160) (isb_f g160) (Nat.le_of_ble_eq_true rfl) d_M_set_114 (fun H locs hP hD hS => ?_)
                    have hP : va_P D CL (w_M_set T q0 q0_a q0_b q0_c q0_rowScale q0_columnScale q0_sa q0_sb q0_sc q0_x q0_s q0_y q0_p q0_d q0_h q0_f q0_mm q0_low q0_dd q0_r q0_big q0_dt q0_dx q0_t q0_cost q0_rowScaleNow q0_columnScaleNow q0_basic q0_text q0_turned q0_na q0_nb q0_nc vq0_m vq0_n vq0_length vq0_where vq0_effort 0 vq0_at vq0_scaled 0 vq0_second vq0_nm vq0_nn vq0_number vq0_bad vq0_a vq0_b vq0_c) H := hP
                    have hD : va_D A (w_M_set T q0 q0_a q0_b q0_c q0_rowScale q0_columnScale q0_sa q0_sb q0_sc q0_x q0_s q0_y q0_p q0_d q0_h q0_f q0_mm q0_low q0_dd q0_r q0_big q0_dt q0_dx q0_t q0_cost q0_rowScaleNow q0_columnScaleNow q0_basic q0_text q0_turned q0_na q0_nb q0_nc vq0_m vq0_n vq0_length vq0_where vq0_effort 0 vq0_at vq0_scaled 0 vq0_second vq0_nm vq0_nn vq0_number vq0_bad vq0_a vq0_b vq0_c) := hD
                    refine lv_iload_n hx hb d_M_set_117 rfl (lv_at hl 1 rfl) ?_
                    refine lv_if_ne (tgt := 135) hx hb d_M_set_118 (by decide) (fun c161 => ?_) (fun c161 => ?_)
                    · have h := it_f c161 h
                      refine lv_iload_n hx hb d_M_set_135 rfl (lv_at hl 1 rfl) ?_
                      refine lv_iconst (v := 1) hx hb d_M_set_136 (by decide) ?_
                      refine lv_icmp_ne (tgt := 149) hx hb d_M_set_137 (by decide) (fun c162 => ?_) (fun c162 => ?_)
                      · have h := it_f c162 h
                        refine lv_aload_n hx hb d_M_set_149 rfl (lv_at hl 0 rfl) ?_
                        refine va_get (D := D) (ci := 8) (v := .ref q0_c) (C := "ConeForgeModel") (T := FM) (N := 46) hx hb hts iM hown hK hP 0 rfl rfl 2 (by decide) (hts _ (bgc bw686)) (fun _ h9 => h9) rfl d_M_set_150 ?_
                        refine lv_iload_n hx hb d_M_set_153 rfl (lv_at hl 3 rfl) ?_
                        obtain ⟨g163, h⟩ := gd_some h
                        refine va_dald hx hb hK hP 3 0 rfl rfl (inb_in g163) d_M_set_154 ?_
                        exact J155 0 0 vq0_a vq0_b vq0_c x1 x2 x3 x4 (vq0_c x3.toNatClampNeg) H locs ls hP hD hS (lv_sub hl [0, 1, 2, 3, 4] rfl) h
                      · have h := it_t c162 h
                        refine lv_aload_n hx hb d_M_set_140 rfl (lv_at hl 0 rfl) ?_
                        refine va_get (D := D) (ci := 8) (v := .ref q0_b) (C := "ConeForgeModel") (T := FM) (N := 46) hx hb hts iM hown hK hP 0 rfl rfl 1 (by decide) (hts _ (bgc bw685)) (fun _ h9 => h9) rfl d_M_set_141 ?_
                        refine lv_iload_n hx hb d_M_set_144 rfl (lv_at hl 2 rfl) ?_
                        obtain ⟨g164, h⟩ := gd_some h
                        refine va_dald hx hb hK hP 2 0 rfl rfl (inb_in g164) d_M_set_145 ?_
                        refine lv_goto (tgt := 155) hx hb d_M_set_146 (by decide) ?_
                        exact J155 0 0 vq0_a vq0_b vq0_c x1 x2 x3 x4 (vq0_b x2.toNatClampNeg) H locs ls hP hD hS (lv_sub hl [0, 1, 2, 3, 4] rfl) h
                    · have h := it_t c161 h
                      refine lv_aload_n hx hb d_M_set_121 rfl (lv_at hl 0 rfl) ?_
                      refine va_get (D := D) (ci := 8) (v := .ref q0_a) (C := "ConeForgeModel") (T := FM) (N := 46) hx hb hts iM hown hK hP 0 rfl rfl 0 (by decide) (hts _ (bgc bw684)) (fun _ h9 => h9) rfl d_M_set_122 ?_
                      refine lv_bipush (v := 8) hx hb d_M_set_125 (by decide) ?_
                      refine lv_iload_n hx hb d_M_set_127 rfl (lv_at hl 2 rfl) ?_
                      refine lv_imul hx hb d_M_set_128 ?_
                      refine lv_iload_n hx hb d_M_set_129 rfl (lv_at hl 3 rfl) ?_
                      refine lv_iadd hx hb d_M_set_130 ?_
                      obtain ⟨g165, h⟩ := gd_some h
                      refine va_dald hx hb hK hP 1 0 rfl rfl (inb_in g165) d_M_set_131 ?_
                      refine lv_goto (tgt := 155) hx hb d_M_set_132 (by decide) ?_
                      exact J155 0 0 vq0_a vq0_b vq0_c x1 x2 x3 x4 (vq0_a ((8 * x2) + x3).toNatClampNeg) H locs ls hP hD hS (lv_sub hl [0, 1, 2, 3, 4] rfl) h
                  · have h := it_f c159 h
                    refine lv_dconst0 hx hb d_M_set_110 ?_
                    exact rtD hx hb hr hlocks hQ (Option.some.inj h) hP hS d_M_set_111 rfl rfl
                · have h := it_f c158 h
                  refine lv_iload_n hx hb d_M_set_81 rfl (lv_at hl 3 rfl) ?_
                  refine lv_iconst (v := 0) hx hb d_M_set_82 (by decide) ?_
                  refine lv_aload_n hx hb d_M_set_83 rfl (lv_at hl 0 rfl) ?_
                  refine va_get (D := D) (ci := 8) (v := .int vq0_n) (C := "ConeForgeModel") (T := FM) (N := 46) hx hb hts iM hown hK hP 0 rfl rfl 30 (by decide) (hts _ (bgc bw714)) (fun _ h9 => h9) rfl d_M_set_84 ?_
                  refine lv_iconst (v := 1) hx hb d_M_set_87 (by decide) ?_
                  refine lv_isub hx hb d_M_set_88 ?_
                  obtain ⟨u166, hu166, h⟩ := bi_some h
                  have jj167 := j_M_set_89 T q0 q0_a q0_b q0_c q0_rowScale q0_columnScale q0_sa q0_sb q0_sc q0_x q0_s q0_y q0_p q0_d q0_h q0_f q0_mm q0_low q0_dd q0_r q0_big q0_dt q0_dx q0_t q0_cost q0_rowScaleNow q0_columnScaleNow q0_basic q0_text q0_turned q0_na q0_nb q0_nc vq0_m vq0_n vq0_length vq0_where vq0_effort vq0_thrown vq0_at vq0_scaled vq0_solved vq0_second vq0_nm vq0_nn vq0_number vq0_bad vq0_a vq0_b vq0_c
                  refine kI2 (v := u166) (wc := (w_M_in T  )) (wc' := (w_M_in T  )) (w_M_set T q0 q0_a q0_b q0_c q0_rowScale q0_columnScale q0_sa q0_sb q0_sc q0_x q0_s q0_y q0_p q0_d q0_h q0_f q0_mm q0_low q0_dd q0_r q0_big q0_dt q0_dx q0_t q0_cost q0_rowScaleNow q0_columnScaleNow q0_basic q0_text q0_turned q0_na q0_nb q0_nc vq0_m vq0_n vq0_length vq0_where vq0_effort vq0_thrown vq0_at vq0_scaled vq0_solved vq0_second vq0_nm vq0_nn vq0_number vq0_bad vq0_a vq0_b vq0_c) (runOS (As := [.int x3, .int 0, .int (vq0_n - 1)]) (rest := [.ref q0]) ((c_M_in l D T   x3 0 (vq0_n - 1) u166 hu166) H.size) ⟨hx, hb, hml, hown, hts⟩ (cwOS bw785 bw786 bw105 bw787 dd_M_in hts ⟨Nat.le_of_ble_eq_true rfl, Nat.le_of_ble_eq_true rfl⟩)  hNW hK hP hD [] jj167.1 (by decide) rfl hl.1 rfl (lv_room (Nat.le_of_ble_eq_true rfl)) d_M_set_89 ⟨Nat.le_of_ble_eq_true rfl, Nat.le_of_ble_eq_true rfl⟩) hP hD hS hA [] [0, 1, 2, 3] jj167.1 jj167.2.1 jj167.2.2.1 (N := 4) jj167.2.2.2.2 (by decide) jj167.2.2.2.1 (fun H locs hP hD hS => ?_)
                  refine lv_if_ne (tgt := 99) hx hb d_M_set_92 (by decide) (fun c168 => ?_) (fun c168 => ?_)
                  · have h := it_f c168 h
                    refine lv_iconst (v := 0) hx hb d_M_set_99 (by decide) ?_
                    refine va_put (D := D) (ci := 8) (v := .int 0) (ty := .int) (C := "ConeForgeModel") (T := FM) (N := 46) hx hb hts iM tM tM_ok nmM hown hK hP hD hS 0 rfl rfl 34 (by decide) (hts _ (bgc bw718)) (fun _ h9 => h9) rfl (by decide +kernel) rfl rfl (Nat.le_of_ble_eq_true rfl) d_M_set_100 (fun H locs hP hD hS => ?_)
                    have hP : va_P D CL (w_M_set T q0 q0_a q0_b q0_c q0_rowScale q0_columnScale q0_sa q0_sb q0_sc q0_x q0_s q0_y q0_p q0_d q0_h q0_f q0_mm q0_low q0_dd q0_r q0_big q0_dt q0_dx q0_t q0_cost q0_rowScaleNow q0_columnScaleNow q0_basic q0_text q0_turned q0_na q0_nb q0_nc vq0_m vq0_n vq0_length vq0_where vq0_effort 0 vq0_at vq0_scaled vq0_solved vq0_second vq0_nm vq0_nn vq0_number vq0_bad vq0_a vq0_b vq0_c) H := hP
                    have hD : va_D A (w_M_set T q0 q0_a q0_b q0_c q0_rowScale q0_columnScale q0_sa q0_sb q0_sc q0_x q0_s q0_y q0_p q0_d q0_h q0_f q0_mm q0_low q0_dd q0_r q0_big q0_dt q0_dx q0_t q0_cost q0_rowScaleNow q0_columnScaleNow q0_basic q0_text q0_turned q0_na q0_nb q0_nc vq0_m vq0_n vq0_length vq0_where vq0_effort 0 vq0_at vq0_scaled vq0_solved vq0_second vq0_nm vq0_nn vq0_number vq0_bad vq0_a vq0_b vq0_c) := hD
                    refine lv_aload_n hx hb d_M_set_103 rfl (lv_at hl 0 rfl) ?_
                    refine va_get (D := D) (ci := 8) (v := .int 0) (C := "ConeForgeModel") (T := FM) (N := 46) hx hb hts iM hown hK hP 0 rfl rfl 34 (by decide) (hts _ (bgc bw718)) (fun _ h9 => h9) rfl d_M_set_104 ?_
                    refine lv_if_le (tgt := 112) hx hb d_M_set_107 (by decide) (fun c169 => ?_) (fun c169 => ?_)
                    · have h := it_t c169 h
                      refine lv_aload_n hx hb d_M_set_112 rfl (lv_at hl 0 rfl) ?_
                      refine lv_iconst (v := 0) hx hb d_M_set_113 (by decide) ?_
                      obtain ⟨g170, h⟩ := gd_some h
                      refine va_put (D := D) (ci := 8) (v := .int 0) (ty := .boolean) (C := "ConeForgeModel") (T := FM) (N := 46) hx hb hts iM tM tM_ok nmM hown hK hP hD hS 0 rfl rfl 37 (by decide) (hts _ (bgc bw721)) (fun _ h9 => h9) rfl (by decide +kernel) (isb_n g170) (isb_f g170) (Nat.le_of_ble_eq_true rfl) d_M_set_114 (fun H locs hP hD hS => ?_)
                      have hP : va_P D CL (w_M_set T q0 q0_a q0_b q0_c q0_rowScale q0_columnScale q0_sa q0_sb q0_sc q0_x q0_s q0_y q0_p q0_d q0_h q0_f q0_mm q0_low q0_dd q0_r q0_big q0_dt q0_dx q0_t q0_cost q0_rowScaleNow q0_columnScaleNow q0_basic q0_text q0_turned q0_na q0_nb q0_nc vq0_m vq0_n vq0_length vq0_where vq0_effort 0 vq0_at vq0_scaled 0 vq0_second vq0_nm vq0_nn vq0_number vq0_bad vq0_a vq0_b vq0_c) H := hP
                      have hD : va_D A (w_M_set T q0 q0_a q0_b q0_c q0_rowScale q0_columnScale q0_sa q0_sb q0_sc q0_x q0_s q0_y q0_p q0_d q0_h q0_f q0_mm q0_low q0_dd q0_r q0_big q0_dt q0_dx q0_t q0_cost q0_rowScaleNow q0_columnScaleNow q0_basic q0_text q0_turned q0_na q0_nb q0_nc vq0_m vq0_n vq0_length vq0_where vq0_effort 0 vq0_at vq0_scaled 0 vq0_second vq0_nm vq0_nn vq0_number vq0_bad vq0_a vq0_b vq0_c) := hD
                      refine lv_iload_n hx hb d_M_set_117 rfl (lv_at hl 1 rfl) ?_
                      refine lv_if_ne (tgt := 135) hx hb d_M_set_118 (by decide) (fun c171 => ?_) (fun c171 => ?_)
                      · have h := it_f c171 h
                        refine lv_iload_n hx hb d_M_set_135 rfl (lv_at hl 1 rfl) ?_
                        refine lv_iconst (v := 1) hx hb d_M_set_136 (by decide) ?_
                        refine lv_icmp_ne (tgt := 149) hx hb d_M_set_137 (by decide) (fun c172 => ?_) (fun c172 => ?_)
                        · have h := it_f c172 h
                          refine lv_aload_n hx hb d_M_set_149 rfl (lv_at hl 0 rfl) ?_
                          refine va_get (D := D) (ci := 8) (v := .ref q0_c) (C := "ConeForgeModel") (T := FM) (N := 46) hx hb hts iM hown hK hP 0 rfl rfl 2 (by decide) (hts _ (bgc bw686)) (fun _ h9 => h9) rfl d_M_set_150 ?_
                          refine lv_iload_n hx hb d_M_set_153 rfl (lv_at hl 3 rfl) ?_
                          obtain ⟨g173, h⟩ := gd_some h
                          refine va_dald hx hb hK hP 3 0 rfl rfl (inb_in g173) d_M_set_154 ?_
                          exact J155 0 0 vq0_a vq0_b vq0_c x1 x2 x3 x4 (vq0_c x3.toNatClampNeg) H locs ls hP hD hS (lv_sub hl [0, 1, 2, 3, 4] rfl) h
                        · have h := it_t c172 h
                          refine lv_aload_n hx hb d_M_set_140 rfl (lv_at hl 0 rfl) ?_
                          refine va_get (D := D) (ci := 8) (v := .ref q0_b) (C := "ConeForgeModel") (T := FM) (N := 46) hx hb hts iM hown hK hP 0 rfl rfl 1 (by decide) (hts _ (bgc bw685)) (fun _ h9 => h9) rfl d_M_set_141 ?_
                          refine lv_iload_n hx hb d_M_set_144 rfl (lv_at hl 2 rfl) ?_
                          obtain ⟨g174, h⟩ := gd_some h
                          refine va_dald hx hb hK hP 2 0 rfl rfl (inb_in g174) d_M_set_145 ?_
                          refine lv_goto (tgt := 155) hx hb d_M_set_146 (by decide) ?_
                          exact J155 0 0 vq0_a vq0_b vq0_c x1 x2 x3 x4 (vq0_b x2.toNatClampNeg) H locs ls hP hD hS (lv_sub hl [0, 1, 2, 3, 4] rfl) h
                      · have h := it_t c171 h
                        refine lv_aload_n hx hb d_M_set_121 rfl (lv_at hl 0 rfl) ?_
                        refine va_get (D := D) (ci := 8) (v := .ref q0_a) (C := "ConeForgeModel") (T := FM) (N := 46) hx hb hts iM hown hK hP 0 rfl rfl 0 (by decide) (hts _ (bgc bw684)) (fun _ h9 => h9) rfl d_M_set_122 ?_
                        refine lv_bipush (v := 8) hx hb d_M_set_125 (by decide) ?_
                        refine lv_iload_n hx hb d_M_set_127 rfl (lv_at hl 2 rfl) ?_
                        refine lv_imul hx hb d_M_set_128 ?_
                        refine lv_iload_n hx hb d_M_set_129 rfl (lv_at hl 3 rfl) ?_
                        refine lv_iadd hx hb d_M_set_130 ?_
                        obtain ⟨g175, h⟩ := gd_some h
                        refine va_dald hx hb hK hP 1 0 rfl rfl (inb_in g175) d_M_set_131 ?_
                        refine lv_goto (tgt := 155) hx hb d_M_set_132 (by decide) ?_
                        exact J155 0 0 vq0_a vq0_b vq0_c x1 x2 x3 x4 (vq0_a ((8 * x2) + x3).toNatClampNeg) H locs ls hP hD hS (lv_sub hl [0, 1, 2, 3, 4] rfl) h
                    · have h := it_f c169 h
                      refine lv_dconst0 hx hb d_M_set_110 ?_
                      exact rtD hx hb hr hlocks hQ (Option.some.inj h) hP hS d_M_set_111 rfl rfl
                  · have h := it_t c168 h
                    refine lv_iconst (v := 2) hx hb d_M_set_95 (by decide) ?_
                    refine lv_goto (tgt := 100) hx hb d_M_set_96 (by decide) ?_
                    refine va_put (D := D) (ci := 8) (v := .int 2) (ty := .int) (C := "ConeForgeModel") (T := FM) (N := 46) hx hb hts iM tM tM_ok nmM hown hK hP hD hS 0 rfl rfl 34 (by decide) (hts _ (bgc bw718)) (fun _ h9 => h9) rfl (by decide +kernel) rfl rfl (Nat.le_of_ble_eq_true rfl) d_M_set_100 (fun H locs hP hD hS => ?_)
                    have hP : va_P D CL (w_M_set T q0 q0_a q0_b q0_c q0_rowScale q0_columnScale q0_sa q0_sb q0_sc q0_x q0_s q0_y q0_p q0_d q0_h q0_f q0_mm q0_low q0_dd q0_r q0_big q0_dt q0_dx q0_t q0_cost q0_rowScaleNow q0_columnScaleNow q0_basic q0_text q0_turned q0_na q0_nb q0_nc vq0_m vq0_n vq0_length vq0_where vq0_effort 2 vq0_at vq0_scaled vq0_solved vq0_second vq0_nm vq0_nn vq0_number vq0_bad vq0_a vq0_b vq0_c) H := hP
                    have hD : va_D A (w_M_set T q0 q0_a q0_b q0_c q0_rowScale q0_columnScale q0_sa q0_sb q0_sc q0_x q0_s q0_y q0_p q0_d q0_h q0_f q0_mm q0_low q0_dd q0_r q0_big q0_dt q0_dx q0_t q0_cost q0_rowScaleNow q0_columnScaleNow q0_basic q0_text q0_turned q0_na q0_nb q0_nc vq0_m vq0_n vq0_length vq0_where vq0_effort 2 vq0_at vq0_scaled vq0_solved vq0_second vq0_nm vq0_nn vq0_number vq0_bad vq0_a vq0_b vq0_c) := hD
                    refine lv_aload_n hx hb d_M_set_103 rfl (lv_at hl 0 rfl) ?_
                    refine va_get (D := D) (ci := 8) (v := .int 2) (C := "ConeForgeModel") (T := FM) (N := 46) hx hb hts iM hown hK hP 0 rfl rfl 34 (by decide) (hts _ (bgc bw718)) (fun _ h9 => h9) rfl d_M_set_104 ?_
                    refine lv_if_le (tgt := 112) hx hb d_M_set_107 (by decide) (fun c176 => ?_) (fun c176 => ?_)
                    · have h := it_t c176 h
                      refine lv_aload_n hx hb d_M_set_112 rfl (lv_at hl 0 rfl) ?_
                      refine lv_iconst (v := 0) hx hb d_M_set_113 (by decide) ?_
                      obtain ⟨g177, h⟩ := gd_some h
                      refine va_put (D := D) (ci := 8) (v := .int 0) (ty := .boolean) (C := "ConeForgeModel") (T := FM) (N := 46) hx hb hts iM tM tM_ok nmM hown hK hP hD hS 0 rfl rfl 37 (by decide) (hts _ (bgc bw721)) (fun _ h9 => h9) rfl (by decide +kernel) (isb_n g177) (isb_f g177) (Nat.le_of_ble_eq_true rfl) d_M_set_114 (fun H locs hP hD hS => ?_)
                      have hP : va_P D CL (w_M_set T q0 q0_a q0_b q0_c q0_rowScale q0_columnScale q0_sa q0_sb q0_sc q0_x q0_s q0_y q0_p q0_d q0_h q0_f q0_mm q0_low q0_dd q0_r q0_big q0_dt q0_dx q0_t q0_cost q0_rowScaleNow q0_columnScaleNow q0_basic q0_text q0_turned q0_na q0_nb q0_nc vq0_m vq0_n vq0_length vq0_where vq0_effort 2 vq0_at vq0_scaled 0 vq0_second vq0_nm vq0_nn vq0_number vq0_bad vq0_a vq0_b vq0_c) H := hP
                      have hD : va_D A (w_M_set T q0 q0_a q0_b q0_c q0_rowScale q0_columnScale q0_sa q0_sb q0_sc q0_x q0_s q0_y q0_p q0_d q0_h q0_f q0_mm q0_low q0_dd q0_r q0_big q0_dt q0_dx q0_t q0_cost q0_rowScaleNow q0_columnScaleNow q0_basic q0_text q0_turned q0_na q0_nb q0_nc vq0_m vq0_n vq0_length vq0_where vq0_effort 2 vq0_at vq0_scaled 0 vq0_second vq0_nm vq0_nn vq0_number vq0_bad vq0_a vq0_b vq0_c) := hD
                      refine lv_iload_n hx hb d_M_set_117 rfl (lv_at hl 1 rfl) ?_
                      refine lv_if_ne (tgt := 135) hx hb d_M_set_118 (by decide) (fun c178 => ?_) (fun c178 => ?_)
                      · have h := it_f c178 h
                        refine lv_iload_n hx hb d_M_set_135 rfl (lv_at hl 1 rfl) ?_
                        refine lv_iconst (v := 1) hx hb d_M_set_136 (by decide) ?_
                        refine lv_icmp_ne (tgt := 149) hx hb d_M_set_137 (by decide) (fun c179 => ?_) (fun c179 => ?_)
                        · have h := it_f c179 h
                          refine lv_aload_n hx hb d_M_set_149 rfl (lv_at hl 0 rfl) ?_
                          refine va_get (D := D) (ci := 8) (v := .ref q0_c) (C := "ConeForgeModel") (T := FM) (N := 46) hx hb hts iM hown hK hP 0 rfl rfl 2 (by decide) (hts _ (bgc bw686)) (fun _ h9 => h9) rfl d_M_set_150 ?_
                          refine lv_iload_n hx hb d_M_set_153 rfl (lv_at hl 3 rfl) ?_
                          obtain ⟨g180, h⟩ := gd_some h
                          refine va_dald hx hb hK hP 3 0 rfl rfl (inb_in g180) d_M_set_154 ?_
                          exact J155 2 0 vq0_a vq0_b vq0_c x1 x2 x3 x4 (vq0_c x3.toNatClampNeg) H locs ls hP hD hS (lv_sub hl [0, 1, 2, 3, 4] rfl) h
                        · have h := it_t c179 h
                          refine lv_aload_n hx hb d_M_set_140 rfl (lv_at hl 0 rfl) ?_
                          refine va_get (D := D) (ci := 8) (v := .ref q0_b) (C := "ConeForgeModel") (T := FM) (N := 46) hx hb hts iM hown hK hP 0 rfl rfl 1 (by decide) (hts _ (bgc bw685)) (fun _ h9 => h9) rfl d_M_set_141 ?_
                          refine lv_iload_n hx hb d_M_set_144 rfl (lv_at hl 2 rfl) ?_
                          obtain ⟨g181, h⟩ := gd_some h
                          refine va_dald hx hb hK hP 2 0 rfl rfl (inb_in g181) d_M_set_145 ?_
                          refine lv_goto (tgt := 155) hx hb d_M_set_146 (by decide) ?_
                          exact J155 2 0 vq0_a vq0_b vq0_c x1 x2 x3 x4 (vq0_b x2.toNatClampNeg) H locs ls hP hD hS (lv_sub hl [0, 1, 2, 3, 4] rfl) h
                      · have h := it_t c178 h
                        refine lv_aload_n hx hb d_M_set_121 rfl (lv_at hl 0 rfl) ?_
                        refine va_get (D := D) (ci := 8) (v := .ref q0_a) (C := "ConeForgeModel") (T := FM) (N := 46) hx hb hts iM hown hK hP 0 rfl rfl 0 (by decide) (hts _ (bgc bw684)) (fun _ h9 => h9) rfl d_M_set_122 ?_
                        refine lv_bipush (v := 8) hx hb d_M_set_125 (by decide) ?_
                        refine lv_iload_n hx hb d_M_set_127 rfl (lv_at hl 2 rfl) ?_
                        refine lv_imul hx hb d_M_set_128 ?_
                        refine lv_iload_n hx hb d_M_set_129 rfl (lv_at hl 3 rfl) ?_
                        refine lv_iadd hx hb d_M_set_130 ?_
                        obtain ⟨g182, h⟩ := gd_some h
                        refine va_dald hx hb hK hP 1 0 rfl rfl (inb_in g182) d_M_set_131 ?_
                        refine lv_goto (tgt := 155) hx hb d_M_set_132 (by decide) ?_
                        exact J155 2 0 vq0_a vq0_b vq0_c x1 x2 x3 x4 (vq0_a ((8 * x2) + x3).toNatClampNeg) H locs ls hP hD hS (lv_sub hl [0, 1, 2, 3, 4] rfl) h
                    · have h := it_f c176 h
                      refine lv_dconst0 hx hb d_M_set_110 ?_
                      exact rtD hx hb hr hlocks hQ (Option.some.inj h) hP hS d_M_set_111 rfl rfl
              · have h := it_f c157 h
                refine lv_iload_n hx hb d_M_set_62 rfl (lv_at hl 2 rfl) ?_
                refine lv_iconst (v := 0) hx hb d_M_set_63 (by decide) ?_
                refine lv_aload_n hx hb d_M_set_64 rfl (lv_at hl 0 rfl) ?_
                refine va_get (D := D) (ci := 8) (v := .int vq0_m) (C := "ConeForgeModel") (T := FM) (N := 46) hx hb hts iM hown hK hP 0 rfl rfl 29 (by decide) (hts _ (bgc bw713)) (fun _ h9 => h9) rfl d_M_set_65 ?_
                refine lv_iconst (v := 1) hx hb d_M_set_68 (by decide) ?_
                refine lv_isub hx hb d_M_set_69 ?_
                obtain ⟨u183, hu183, h⟩ := bi_some h
                have jj184 := j_M_set_70 T q0 q0_a q0_b q0_c q0_rowScale q0_columnScale q0_sa q0_sb q0_sc q0_x q0_s q0_y q0_p q0_d q0_h q0_f q0_mm q0_low q0_dd q0_r q0_big q0_dt q0_dx q0_t q0_cost q0_rowScaleNow q0_columnScaleNow q0_basic q0_text q0_turned q0_na q0_nb q0_nc vq0_m vq0_n vq0_length vq0_where vq0_effort vq0_thrown vq0_at vq0_scaled vq0_solved vq0_second vq0_nm vq0_nn vq0_number vq0_bad vq0_a vq0_b vq0_c
                refine kI2 (v := u183) (wc := (w_M_in T  )) (wc' := (w_M_in T  )) (w_M_set T q0 q0_a q0_b q0_c q0_rowScale q0_columnScale q0_sa q0_sb q0_sc q0_x q0_s q0_y q0_p q0_d q0_h q0_f q0_mm q0_low q0_dd q0_r q0_big q0_dt q0_dx q0_t q0_cost q0_rowScaleNow q0_columnScaleNow q0_basic q0_text q0_turned q0_na q0_nb q0_nc vq0_m vq0_n vq0_length vq0_where vq0_effort vq0_thrown vq0_at vq0_scaled vq0_solved vq0_second vq0_nm vq0_nn vq0_number vq0_bad vq0_a vq0_b vq0_c) (runOS (As := [.int x2, .int 0, .int (vq0_m - 1)]) (rest := [.ref q0]) ((c_M_in l D T   x2 0 (vq0_m - 1) u183 hu183) H.size) ⟨hx, hb, hml, hown, hts⟩ (cwOS bw785 bw786 bw105 bw787 dd_M_in hts ⟨Nat.le_of_ble_eq_true rfl, Nat.le_of_ble_eq_true rfl⟩)  hNW hK hP hD [] jj184.1 (by decide) rfl hl.1 rfl (lv_room (Nat.le_of_ble_eq_true rfl)) d_M_set_70 ⟨Nat.le_of_ble_eq_true rfl, Nat.le_of_ble_eq_true rfl⟩) hP hD hS hA [] [0, 1, 2, 3] jj184.1 jj184.2.1 jj184.2.2.1 (N := 4) jj184.2.2.2.2 (by decide) jj184.2.2.2.1 (fun H locs hP hD hS => ?_)
                refine lv_if_eq (tgt := 95) hx hb d_M_set_73 (by decide) (fun c185 => ?_) (fun c185 => ?_)
                · have h := it_t c185 h
                  refine lv_iconst (v := 2) hx hb d_M_set_95 (by decide) ?_
                  refine lv_goto (tgt := 100) hx hb d_M_set_96 (by decide) ?_
                  refine va_put (D := D) (ci := 8) (v := .int 2) (ty := .int) (C := "ConeForgeModel") (T := FM) (N := 46) hx hb hts iM tM tM_ok nmM hown hK hP hD hS 0 rfl rfl 34 (by decide) (hts _ (bgc bw718)) (fun _ h9 => h9) rfl (by decide +kernel) rfl rfl (Nat.le_of_ble_eq_true rfl) d_M_set_100 (fun H locs hP hD hS => ?_)
                  have hP : va_P D CL (w_M_set T q0 q0_a q0_b q0_c q0_rowScale q0_columnScale q0_sa q0_sb q0_sc q0_x q0_s q0_y q0_p q0_d q0_h q0_f q0_mm q0_low q0_dd q0_r q0_big q0_dt q0_dx q0_t q0_cost q0_rowScaleNow q0_columnScaleNow q0_basic q0_text q0_turned q0_na q0_nb q0_nc vq0_m vq0_n vq0_length vq0_where vq0_effort 2 vq0_at vq0_scaled vq0_solved vq0_second vq0_nm vq0_nn vq0_number vq0_bad vq0_a vq0_b vq0_c) H := hP
                  have hD : va_D A (w_M_set T q0 q0_a q0_b q0_c q0_rowScale q0_columnScale q0_sa q0_sb q0_sc q0_x q0_s q0_y q0_p q0_d q0_h q0_f q0_mm q0_low q0_dd q0_r q0_big q0_dt q0_dx q0_t q0_cost q0_rowScaleNow q0_columnScaleNow q0_basic q0_text q0_turned q0_na q0_nb q0_nc vq0_m vq0_n vq0_length vq0_where vq0_effort 2 vq0_at vq0_scaled vq0_solved vq0_second vq0_nm vq0_nn vq0_number vq0_bad vq0_a vq0_b vq0_c) := hD
                  refine lv_aload_n hx hb d_M_set_103 rfl (lv_at hl 0 rfl) ?_
                  refine va_get (D := D) (ci := 8) (v := .int 2) (C := "ConeForgeModel") (T := FM) (N := 46) hx hb hts iM hown hK hP 0 rfl rfl 34 (by decide) (hts _ (bgc bw718)) (fun _ h9 => h9) rfl d_M_set_104 ?_
                  refine lv_if_le (tgt := 112) hx hb d_M_set_107 (by decide) (fun c186 => ?_) (fun c186 => ?_)
                  · have h := it_t c186 h
                    refine lv_aload_n hx hb d_M_set_112 rfl (lv_at hl 0 rfl) ?_
                    refine lv_iconst (v := 0) hx hb d_M_set_113 (by decide) ?_
                    obtain ⟨g187, h⟩ := gd_some h
                    refine va_put (D := D) (ci := 8) (v := .int 0) (ty := .boolean) (C := "ConeForgeModel") (T := FM) (N := 46) hx hb hts iM tM tM_ok nmM hown hK hP hD hS 0 rfl rfl 37 (by decide) (hts _ (bgc bw721)) (fun _ h9 => h9) rfl (by decide +kernel) (isb_n g187) (isb_f g187) (Nat.le_of_ble_eq_true rfl) d_M_set_114 (fun H locs hP hD hS => ?_)
                    have hP : va_P D CL (w_M_set T q0 q0_a q0_b q0_c q0_rowScale q0_columnScale q0_sa q0_sb q0_sc q0_x q0_s q0_y q0_p q0_d q0_h q0_f q0_mm q0_low q0_dd q0_r q0_big q0_dt q0_dx q0_t q0_cost q0_rowScaleNow q0_columnScaleNow q0_basic q0_text q0_turned q0_na q0_nb q0_nc vq0_m vq0_n vq0_length vq0_where vq0_effort 2 vq0_at vq0_scaled 0 vq0_second vq0_nm vq0_nn vq0_number vq0_bad vq0_a vq0_b vq0_c) H := hP
                    have hD : va_D A (w_M_set T q0 q0_a q0_b q0_c q0_rowScale q0_columnScale q0_sa q0_sb q0_sc q0_x q0_s q0_y q0_p q0_d q0_h q0_f q0_mm q0_low q0_dd q0_r q0_big q0_dt q0_dx q0_t q0_cost q0_rowScaleNow q0_columnScaleNow q0_basic q0_text q0_turned q0_na q0_nb q0_nc vq0_m vq0_n vq0_length vq0_where vq0_effort 2 vq0_at vq0_scaled 0 vq0_second vq0_nm vq0_nn vq0_number vq0_bad vq0_a vq0_b vq0_c) := hD
                    refine lv_iload_n hx hb d_M_set_117 rfl (lv_at hl 1 rfl) ?_
                    refine lv_if_ne (tgt := 135) hx hb d_M_set_118 (by decide) (fun c188 => ?_) (fun c188 => ?_)
                    · have h := it_f c188 h
                      refine lv_iload_n hx hb d_M_set_135 rfl (lv_at hl 1 rfl) ?_
                      refine lv_iconst (v := 1) hx hb d_M_set_136 (by decide) ?_
                      refine lv_icmp_ne (tgt := 149) hx hb d_M_set_137 (by decide) (fun c189 => ?_) (fun c189 => ?_)
                      · have h := it_f c189 h
                        refine lv_aload_n hx hb d_M_set_149 rfl (lv_at hl 0 rfl) ?_
                        refine va_get (D := D) (ci := 8) (v := .ref q0_c) (C := "ConeForgeModel") (T := FM) (N := 46) hx hb hts iM hown hK hP 0 rfl rfl 2 (by decide) (hts _ (bgc bw686)) (fun _ h9 => h9) rfl d_M_set_150 ?_
                        refine lv_iload_n hx hb d_M_set_153 rfl (lv_at hl 3 rfl) ?_
                        obtain ⟨g190, h⟩ := gd_some h
                        refine va_dald hx hb hK hP 3 0 rfl rfl (inb_in g190) d_M_set_154 ?_
                        exact J155 2 0 vq0_a vq0_b vq0_c x1 x2 x3 x4 (vq0_c x3.toNatClampNeg) H locs ls hP hD hS (lv_sub hl [0, 1, 2, 3, 4] rfl) h
                      · have h := it_t c189 h
                        refine lv_aload_n hx hb d_M_set_140 rfl (lv_at hl 0 rfl) ?_
                        refine va_get (D := D) (ci := 8) (v := .ref q0_b) (C := "ConeForgeModel") (T := FM) (N := 46) hx hb hts iM hown hK hP 0 rfl rfl 1 (by decide) (hts _ (bgc bw685)) (fun _ h9 => h9) rfl d_M_set_141 ?_
                        refine lv_iload_n hx hb d_M_set_144 rfl (lv_at hl 2 rfl) ?_
                        obtain ⟨g191, h⟩ := gd_some h
                        refine va_dald hx hb hK hP 2 0 rfl rfl (inb_in g191) d_M_set_145 ?_
                        refine lv_goto (tgt := 155) hx hb d_M_set_146 (by decide) ?_
                        exact J155 2 0 vq0_a vq0_b vq0_c x1 x2 x3 x4 (vq0_b x2.toNatClampNeg) H locs ls hP hD hS (lv_sub hl [0, 1, 2, 3, 4] rfl) h
                    · have h := it_t c188 h
                      refine lv_aload_n hx hb d_M_set_121 rfl (lv_at hl 0 rfl) ?_
                      refine va_get (D := D) (ci := 8) (v := .ref q0_a) (C := "ConeForgeModel") (T := FM) (N := 46) hx hb hts iM hown hK hP 0 rfl rfl 0 (by decide) (hts _ (bgc bw684)) (fun _ h9 => h9) rfl d_M_set_122 ?_
                      refine lv_bipush (v := 8) hx hb d_M_set_125 (by decide) ?_
                      refine lv_iload_n hx hb d_M_set_127 rfl (lv_at hl 2 rfl) ?_
                      refine lv_imul hx hb d_M_set_128 ?_
                      refine lv_iload_n hx hb d_M_set_129 rfl (lv_at hl 3 rfl) ?_
                      refine lv_iadd hx hb d_M_set_130 ?_
                      obtain ⟨g192, h⟩ := gd_some h
                      refine va_dald hx hb hK hP 1 0 rfl rfl (inb_in g192) d_M_set_131 ?_
                      refine lv_goto (tgt := 155) hx hb d_M_set_132 (by decide) ?_
                      exact J155 2 0 vq0_a vq0_b vq0_c x1 x2 x3 x4 (vq0_a ((8 * x2) + x3).toNatClampNeg) H locs ls hP hD hS (lv_sub hl [0, 1, 2, 3, 4] rfl) h
                  · have h := it_f c186 h
                    refine lv_dconst0 hx hb d_M_set_110 ?_
                    exact rtD hx hb hr hlocks hQ (Option.some.inj h) hP hS d_M_set_111 rfl rfl
                · have h := it_f c185 h
                  refine lv_iload_n hx hb d_M_set_76 rfl (lv_at hl 1 rfl) ?_
                  refine lv_iconst (v := 1) hx hb d_M_set_77 (by decide) ?_
                  refine lv_icmp_eq (tgt := 99) hx hb d_M_set_78 (by decide) (fun c193 => ?_) (fun c193 => ?_)
                  · have h := it_t c193 h
                    refine lv_iconst (v := 0) hx hb d_M_set_99 (by decide) ?_
                    refine va_put (D := D) (ci := 8) (v := .int 0) (ty := .int) (C := "ConeForgeModel") (T := FM) (N := 46) hx hb hts iM tM tM_ok nmM hown hK hP hD hS 0 rfl rfl 34 (by decide) (hts _ (bgc bw718)) (fun _ h9 => h9) rfl (by decide +kernel) rfl rfl (Nat.le_of_ble_eq_true rfl) d_M_set_100 (fun H locs hP hD hS => ?_)
                    have hP : va_P D CL (w_M_set T q0 q0_a q0_b q0_c q0_rowScale q0_columnScale q0_sa q0_sb q0_sc q0_x q0_s q0_y q0_p q0_d q0_h q0_f q0_mm q0_low q0_dd q0_r q0_big q0_dt q0_dx q0_t q0_cost q0_rowScaleNow q0_columnScaleNow q0_basic q0_text q0_turned q0_na q0_nb q0_nc vq0_m vq0_n vq0_length vq0_where vq0_effort 0 vq0_at vq0_scaled vq0_solved vq0_second vq0_nm vq0_nn vq0_number vq0_bad vq0_a vq0_b vq0_c) H := hP
                    have hD : va_D A (w_M_set T q0 q0_a q0_b q0_c q0_rowScale q0_columnScale q0_sa q0_sb q0_sc q0_x q0_s q0_y q0_p q0_d q0_h q0_f q0_mm q0_low q0_dd q0_r q0_big q0_dt q0_dx q0_t q0_cost q0_rowScaleNow q0_columnScaleNow q0_basic q0_text q0_turned q0_na q0_nb q0_nc vq0_m vq0_n vq0_length vq0_where vq0_effort 0 vq0_at vq0_scaled vq0_solved vq0_second vq0_nm vq0_nn vq0_number vq0_bad vq0_a vq0_b vq0_c) := hD
                    refine lv_aload_n hx hb d_M_set_103 rfl (lv_at hl 0 rfl) ?_
                    refine va_get (D := D) (ci := 8) (v := .int 0) (C := "ConeForgeModel") (T := FM) (N := 46) hx hb hts iM hown hK hP 0 rfl rfl 34 (by decide) (hts _ (bgc bw718)) (fun _ h9 => h9) rfl d_M_set_104 ?_
                    refine lv_if_le (tgt := 112) hx hb d_M_set_107 (by decide) (fun c194 => ?_) (fun c194 => ?_)
                    · have h := it_t c194 h
                      refine lv_aload_n hx hb d_M_set_112 rfl (lv_at hl 0 rfl) ?_
                      refine lv_iconst (v := 0) hx hb d_M_set_113 (by decide) ?_
                      obtain ⟨g195, h⟩ := gd_some h
                      refine va_put (D := D) (ci := 8) (v := .int 0) (ty := .boolean) (C := "ConeForgeModel") (T := FM) (N := 46) hx hb hts iM tM tM_ok nmM hown hK hP hD hS 0 rfl rfl 37 (by decide) (hts _ (bgc bw721)) (fun _ h9 => h9) rfl (by decide +kernel) (isb_n g195) (isb_f g195) (Nat.le_of_ble_eq_true rfl) d_M_set_114 (fun H locs hP hD hS => ?_)
                      have hP : va_P D CL (w_M_set T q0 q0_a q0_b q0_c q0_rowScale q0_columnScale q0_sa q0_sb q0_sc q0_x q0_s q0_y q0_p q0_d q0_h q0_f q0_mm q0_low q0_dd q0_r q0_big q0_dt q0_dx q0_t q0_cost q0_rowScaleNow q0_columnScaleNow q0_basic q0_text q0_turned q0_na q0_nb q0_nc vq0_m vq0_n vq0_length vq0_where vq0_effort 0 vq0_at vq0_scaled 0 vq0_second vq0_nm vq0_nn vq0_number vq0_bad vq0_a vq0_b vq0_c) H := hP
                      have hD : va_D A (w_M_set T q0 q0_a q0_b q0_c q0_rowScale q0_columnScale q0_sa q0_sb q0_sc q0_x q0_s q0_y q0_p q0_d q0_h q0_f q0_mm q0_low q0_dd q0_r q0_big q0_dt q0_dx q0_t q0_cost q0_rowScaleNow q0_columnScaleNow q0_basic q0_text q0_turned q0_na q0_nb q0_nc vq0_m vq0_n vq0_length vq0_where vq0_effort 0 vq0_at vq0_scaled 0 vq0_second vq0_nm vq0_nn vq0_number vq0_bad vq0_a vq0_b vq0_c) := hD
                      refine lv_iload_n hx hb d_M_set_117 rfl (lv_at hl 1 rfl) ?_
                      refine lv_if_ne (tgt := 135) hx hb d_M_set_118 (by decide) (fun c196 => ?_) (fun c196 => ?_)
                      · have h := it_f c196 h
                        refine lv_iload_n hx hb d_M_set_135 rfl (lv_at hl 1 rfl) ?_
                        refine lv_iconst (v := 1) hx hb d_M_set_136 (by decide) ?_
                        refine lv_icmp_ne (tgt := 149) hx hb d_M_set_137 (by decide) (fun c197 => ?_) (fun c197 => ?_)
                        · have h := it_f c197 h
                          refine lv_aload_n hx hb d_M_set_149 rfl (lv_at hl 0 rfl) ?_
                          refine va_get (D := D) (ci := 8) (v := .ref q0_c) (C := "ConeForgeModel") (T := FM) (N := 46) hx hb hts iM hown hK hP 0 rfl rfl 2 (by decide) (hts _ (bgc bw686)) (fun _ h9 => h9) rfl d_M_set_150 ?_
                          refine lv_iload_n hx hb d_M_set_153 rfl (lv_at hl 3 rfl) ?_
                          obtain ⟨g198, h⟩ := gd_some h
                          refine va_dald hx hb hK hP 3 0 rfl rfl (inb_in g198) d_M_set_154 ?_
                          exact J155 0 0 vq0_a vq0_b vq0_c x1 x2 x3 x4 (vq0_c x3.toNatClampNeg) H locs ls hP hD hS (lv_sub hl [0, 1, 2, 3, 4] rfl) h
                        · have h := it_t c197 h
                          refine lv_aload_n hx hb d_M_set_140 rfl (lv_at hl 0 rfl) ?_
                          refine va_get (D := D) (ci := 8) (v := .ref q0_b) (C := "ConeForgeModel") (T := FM) (N := 46) hx hb hts iM hown hK hP 0 rfl rfl 1 (by decide) (hts _ (bgc bw685)) (fun _ h9 => h9) rfl d_M_set_141 ?_
                          refine lv_iload_n hx hb d_M_set_144 rfl (lv_at hl 2 rfl) ?_
                          obtain ⟨g199, h⟩ := gd_some h
                          refine va_dald hx hb hK hP 2 0 rfl rfl (inb_in g199) d_M_set_145 ?_
                          refine lv_goto (tgt := 155) hx hb d_M_set_146 (by decide) ?_
                          exact J155 0 0 vq0_a vq0_b vq0_c x1 x2 x3 x4 (vq0_b x2.toNatClampNeg) H locs ls hP hD hS (lv_sub hl [0, 1, 2, 3, 4] rfl) h
                      · have h := it_t c196 h
                        refine lv_aload_n hx hb d_M_set_121 rfl (lv_at hl 0 rfl) ?_
                        refine va_get (D := D) (ci := 8) (v := .ref q0_a) (C := "ConeForgeModel") (T := FM) (N := 46) hx hb hts iM hown hK hP 0 rfl rfl 0 (by decide) (hts _ (bgc bw684)) (fun _ h9 => h9) rfl d_M_set_122 ?_
                        refine lv_bipush (v := 8) hx hb d_M_set_125 (by decide) ?_
                        refine lv_iload_n hx hb d_M_set_127 rfl (lv_at hl 2 rfl) ?_
                        refine lv_imul hx hb d_M_set_128 ?_
                        refine lv_iload_n hx hb d_M_set_129 rfl (lv_at hl 3 rfl) ?_
                        refine lv_iadd hx hb d_M_set_130 ?_
                        obtain ⟨g200, h⟩ := gd_some h
                        refine va_dald hx hb hK hP 1 0 rfl rfl (inb_in g200) d_M_set_131 ?_
                        refine lv_goto (tgt := 155) hx hb d_M_set_132 (by decide) ?_
                        exact J155 0 0 vq0_a vq0_b vq0_c x1 x2 x3 x4 (vq0_a ((8 * x2) + x3).toNatClampNeg) H locs ls hP hD hS (lv_sub hl [0, 1, 2, 3, 4] rfl) h
                    · have h := it_f c194 h
                      refine lv_dconst0 hx hb d_M_set_110 ?_
                      exact rtD hx hb hr hlocks hQ (Option.some.inj h) hP hS d_M_set_111 rfl rfl
                  · have h := it_f c193 h
                    refine lv_iload_n hx hb d_M_set_81 rfl (lv_at hl 3 rfl) ?_
                    refine lv_iconst (v := 0) hx hb d_M_set_82 (by decide) ?_
                    refine lv_aload_n hx hb d_M_set_83 rfl (lv_at hl 0 rfl) ?_
                    refine va_get (D := D) (ci := 8) (v := .int vq0_n) (C := "ConeForgeModel") (T := FM) (N := 46) hx hb hts iM hown hK hP 0 rfl rfl 30 (by decide) (hts _ (bgc bw714)) (fun _ h9 => h9) rfl d_M_set_84 ?_
                    refine lv_iconst (v := 1) hx hb d_M_set_87 (by decide) ?_
                    refine lv_isub hx hb d_M_set_88 ?_
                    obtain ⟨u201, hu201, h⟩ := bi_some h
                    have jj202 := j_M_set_89 T q0 q0_a q0_b q0_c q0_rowScale q0_columnScale q0_sa q0_sb q0_sc q0_x q0_s q0_y q0_p q0_d q0_h q0_f q0_mm q0_low q0_dd q0_r q0_big q0_dt q0_dx q0_t q0_cost q0_rowScaleNow q0_columnScaleNow q0_basic q0_text q0_turned q0_na q0_nb q0_nc vq0_m vq0_n vq0_length vq0_where vq0_effort vq0_thrown vq0_at vq0_scaled vq0_solved vq0_second vq0_nm vq0_nn vq0_number vq0_bad vq0_a vq0_b vq0_c
                    refine kI2 (v := u201) (wc := (w_M_in T  )) (wc' := (w_M_in T  )) (w_M_set T q0 q0_a q0_b q0_c q0_rowScale q0_columnScale q0_sa q0_sb q0_sc q0_x q0_s q0_y q0_p q0_d q0_h q0_f q0_mm q0_low q0_dd q0_r q0_big q0_dt q0_dx q0_t q0_cost q0_rowScaleNow q0_columnScaleNow q0_basic q0_text q0_turned q0_na q0_nb q0_nc vq0_m vq0_n vq0_length vq0_where vq0_effort vq0_thrown vq0_at vq0_scaled vq0_solved vq0_second vq0_nm vq0_nn vq0_number vq0_bad vq0_a vq0_b vq0_c) (runOS (As := [.int x3, .int 0, .int (vq0_n - 1)]) (rest := [.ref q0]) ((c_M_in l D T   x3 0 (vq0_n - 1) u201 hu201) H.size) ⟨hx, hb, hml, hown, hts⟩ (cwOS bw785 bw786 bw105 bw787 dd_M_in hts ⟨Nat.le_of_ble_eq_true rfl, Nat.le_of_ble_eq_true rfl⟩)  hNW hK hP hD [] jj202.1 (by decide) rfl hl.1 rfl (lv_room (Nat.le_of_ble_eq_true rfl)) d_M_set_89 ⟨Nat.le_of_ble_eq_true rfl, Nat.le_of_ble_eq_true rfl⟩) hP hD hS hA [] [0, 1, 2, 3] jj202.1 jj202.2.1 jj202.2.2.1 (N := 4) jj202.2.2.2.2 (by decide) jj202.2.2.2.1 (fun H locs hP hD hS => ?_)
                    refine lv_if_ne (tgt := 99) hx hb d_M_set_92 (by decide) (fun c203 => ?_) (fun c203 => ?_)
                    · have h := it_f c203 h
                      refine lv_iconst (v := 0) hx hb d_M_set_99 (by decide) ?_
                      refine va_put (D := D) (ci := 8) (v := .int 0) (ty := .int) (C := "ConeForgeModel") (T := FM) (N := 46) hx hb hts iM tM tM_ok nmM hown hK hP hD hS 0 rfl rfl 34 (by decide) (hts _ (bgc bw718)) (fun _ h9 => h9) rfl (by decide +kernel) rfl rfl (Nat.le_of_ble_eq_true rfl) d_M_set_100 (fun H locs hP hD hS => ?_)
                      have hP : va_P D CL (w_M_set T q0 q0_a q0_b q0_c q0_rowScale q0_columnScale q0_sa q0_sb q0_sc q0_x q0_s q0_y q0_p q0_d q0_h q0_f q0_mm q0_low q0_dd q0_r q0_big q0_dt q0_dx q0_t q0_cost q0_rowScaleNow q0_columnScaleNow q0_basic q0_text q0_turned q0_na q0_nb q0_nc vq0_m vq0_n vq0_length vq0_where vq0_effort 0 vq0_at vq0_scaled vq0_solved vq0_second vq0_nm vq0_nn vq0_number vq0_bad vq0_a vq0_b vq0_c) H := hP
                      have hD : va_D A (w_M_set T q0 q0_a q0_b q0_c q0_rowScale q0_columnScale q0_sa q0_sb q0_sc q0_x q0_s q0_y q0_p q0_d q0_h q0_f q0_mm q0_low q0_dd q0_r q0_big q0_dt q0_dx q0_t q0_cost q0_rowScaleNow q0_columnScaleNow q0_basic q0_text q0_turned q0_na q0_nb q0_nc vq0_m vq0_n vq0_length vq0_where vq0_effort 0 vq0_at vq0_scaled vq0_solved vq0_second vq0_nm vq0_nn vq0_number vq0_bad vq0_a vq0_b vq0_c) := hD
                      refine lv_aload_n hx hb d_M_set_103 rfl (lv_at hl 0 rfl) ?_
                      refine va_get (D := D) (ci := 8) (v := .int 0) (C := "ConeForgeModel") (T := FM) (N := 46) hx hb hts iM hown hK hP 0 rfl rfl 34 (by decide) (hts _ (bgc bw718)) (fun _ h9 => h9) rfl d_M_set_104 ?_
                      refine lv_if_le (tgt := 112) hx hb d_M_set_107 (by decide) (fun c204 => ?_) (fun c204 => ?_)
                      · have h := it_t c204 h
                        refine lv_aload_n hx hb d_M_set_112 rfl (lv_at hl 0 rfl) ?_
                        refine lv_iconst (v := 0) hx hb d_M_set_113 (by decide) ?_
                        obtain ⟨g205, h⟩ := gd_some h
                        refine va_put (D := D) (ci := 8) (v := .int 0) (ty := .boolean) (C := "ConeForgeModel") (T := FM) (N := 46) hx hb hts iM tM tM_ok nmM hown hK hP hD hS 0 rfl rfl 37 (by decide) (hts _ (bgc bw721)) (fun _ h9 => h9) rfl (by decide +kernel) (isb_n g205) (isb_f g205) (Nat.le_of_ble_eq_true rfl) d_M_set_114 (fun H locs hP hD hS => ?_)
                        have hP : va_P D CL (w_M_set T q0 q0_a q0_b q0_c q0_rowScale q0_columnScale q0_sa q0_sb q0_sc q0_x q0_s q0_y q0_p q0_d q0_h q0_f q0_mm q0_low q0_dd q0_r q0_big q0_dt q0_dx q0_t q0_cost q0_rowScaleNow q0_columnScaleNow q0_basic q0_text q0_turned q0_na q0_nb q0_nc vq0_m vq0_n vq0_length vq0_where vq0_effort 0 vq0_at vq0_scaled 0 vq0_second vq0_nm vq0_nn vq0_number vq0_bad vq0_a vq0_b vq0_c) H := hP
                        have hD : va_D A (w_M_set T q0 q0_a q0_b q0_c q0_rowScale q0_columnScale q0_sa q0_sb q0_sc q0_x q0_s q0_y q0_p q0_d q0_h q0_f q0_mm q0_low q0_dd q0_r q0_big q0_dt q0_dx q0_t q0_cost q0_rowScaleNow q0_columnScaleNow q0_basic q0_text q0_turned q0_na q0_nb q0_nc vq0_m vq0_n vq0_length vq0_where vq0_effort 0 vq0_at vq0_scaled 0 vq0_second vq0_nm vq0_nn vq0_number vq0_bad vq0_a vq0_b vq0_c) := hD
                        refine lv_iload_n hx hb d_M_set_117 rfl (lv_at hl 1 rfl) ?_
                        refine lv_if_ne (tgt := 135) hx hb d_M_set_118 (by decide) (fun c206 => ?_) (fun c206 => ?_)
                        · have h := it_f c206 h
                          refine lv_iload_n hx hb d_M_set_135 rfl (lv_at hl 1 rfl) ?_
                          refine lv_iconst (v := 1) hx hb d_M_set_136 (by decide) ?_
                          refine lv_icmp_ne (tgt := 149) hx hb d_M_set_137 (by decide) (fun c207 => ?_) (fun c207 => ?_)
                          · have h := it_f c207 h
                            refine lv_aload_n hx hb d_M_set_149 rfl (lv_at hl 0 rfl) ?_
                            refine va_get (D := D) (ci := 8) (v := .ref q0_c) (C := "ConeForgeModel") (T := FM) (N := 46) hx hb hts iM hown hK hP 0 rfl rfl 2 (by decide) (hts _ (bgc bw686)) (fun _ h9 => h9) rfl d_M_set_150 ?_
                            refine lv_iload_n hx hb d_M_set_153 rfl (lv_at hl 3 rfl) ?_
                            obtain ⟨g208, h⟩ := gd_some h
                            refine va_dald hx hb hK hP 3 0 rfl rfl (inb_in g208) d_M_set_154 ?_
                            exact J155 0 0 vq0_a vq0_b vq0_c x1 x2 x3 x4 (vq0_c x3.toNatClampNeg) H locs ls hP hD hS (lv_sub hl [0, 1, 2, 3, 4] rfl) h
                          · have h := it_t c207 h
                            refine lv_aload_n hx hb d_M_set_140 rfl (lv_at hl 0 rfl) ?_
                            refine va_get (D := D) (ci := 8) (v := .ref q0_b) (C := "ConeForgeModel") (T := FM) (N := 46) hx hb hts iM hown hK hP 0 rfl rfl 1 (by decide) (hts _ (bgc bw685)) (fun _ h9 => h9) rfl d_M_set_141 ?_
                            refine lv_iload_n hx hb d_M_set_144 rfl (lv_at hl 2 rfl) ?_
                            obtain ⟨g209, h⟩ := gd_some h
                            refine va_dald hx hb hK hP 2 0 rfl rfl (inb_in g209) d_M_set_145 ?_
                            refine lv_goto (tgt := 155) hx hb d_M_set_146 (by decide) ?_
                            exact J155 0 0 vq0_a vq0_b vq0_c x1 x2 x3 x4 (vq0_b x2.toNatClampNeg) H locs ls hP hD hS (lv_sub hl [0, 1, 2, 3, 4] rfl) h
                        · have h := it_t c206 h
                          refine lv_aload_n hx hb d_M_set_121 rfl (lv_at hl 0 rfl) ?_
                          refine va_get (D := D) (ci := 8) (v := .ref q0_a) (C := "ConeForgeModel") (T := FM) (N := 46) hx hb hts iM hown hK hP 0 rfl rfl 0 (by decide) (hts _ (bgc bw684)) (fun _ h9 => h9) rfl d_M_set_122 ?_
                          refine lv_bipush (v := 8) hx hb d_M_set_125 (by decide) ?_
                          refine lv_iload_n hx hb d_M_set_127 rfl (lv_at hl 2 rfl) ?_
                          refine lv_imul hx hb d_M_set_128 ?_
                          refine lv_iload_n hx hb d_M_set_129 rfl (lv_at hl 3 rfl) ?_
                          refine lv_iadd hx hb d_M_set_130 ?_
                          obtain ⟨g210, h⟩ := gd_some h
                          refine va_dald hx hb hK hP 1 0 rfl rfl (inb_in g210) d_M_set_131 ?_
                          refine lv_goto (tgt := 155) hx hb d_M_set_132 (by decide) ?_
                          exact J155 0 0 vq0_a vq0_b vq0_c x1 x2 x3 x4 (vq0_a ((8 * x2) + x3).toNatClampNeg) H locs ls hP hD hS (lv_sub hl [0, 1, 2, 3, 4] rfl) h
                      · have h := it_f c204 h
                        refine lv_dconst0 hx hb d_M_set_110 ?_
                        exact rtD hx hb hr hlocks hQ (Option.some.inj h) hP hS d_M_set_111 rfl rfl
                    · have h := it_t c203 h
                      refine lv_iconst (v := 2) hx hb d_M_set_95 (by decide) ?_
                      refine lv_goto (tgt := 100) hx hb d_M_set_96 (by decide) ?_
                      refine va_put (D := D) (ci := 8) (v := .int 2) (ty := .int) (C := "ConeForgeModel") (T := FM) (N := 46) hx hb hts iM tM tM_ok nmM hown hK hP hD hS 0 rfl rfl 34 (by decide) (hts _ (bgc bw718)) (fun _ h9 => h9) rfl (by decide +kernel) rfl rfl (Nat.le_of_ble_eq_true rfl) d_M_set_100 (fun H locs hP hD hS => ?_)
                      have hP : va_P D CL (w_M_set T q0 q0_a q0_b q0_c q0_rowScale q0_columnScale q0_sa q0_sb q0_sc q0_x q0_s q0_y q0_p q0_d q0_h q0_f q0_mm q0_low q0_dd q0_r q0_big q0_dt q0_dx q0_t q0_cost q0_rowScaleNow q0_columnScaleNow q0_basic q0_text q0_turned q0_na q0_nb q0_nc vq0_m vq0_n vq0_length vq0_where vq0_effort 2 vq0_at vq0_scaled vq0_solved vq0_second vq0_nm vq0_nn vq0_number vq0_bad vq0_a vq0_b vq0_c) H := hP
                      have hD : va_D A (w_M_set T q0 q0_a q0_b q0_c q0_rowScale q0_columnScale q0_sa q0_sb q0_sc q0_x q0_s q0_y q0_p q0_d q0_h q0_f q0_mm q0_low q0_dd q0_r q0_big q0_dt q0_dx q0_t q0_cost q0_rowScaleNow q0_columnScaleNow q0_basic q0_text q0_turned q0_na q0_nb q0_nc vq0_m vq0_n vq0_length vq0_where vq0_effort 2 vq0_at vq0_scaled vq0_solved vq0_second vq0_nm vq0_nn vq0_number vq0_bad vq0_a vq0_b vq0_c) := hD
                      refine lv_aload_n hx hb d_M_set_103 rfl (lv_at hl 0 rfl) ?_
                      refine va_get (D := D) (ci := 8) (v := .int 2) (C := "ConeForgeModel") (T := FM) (N := 46) hx hb hts iM hown hK hP 0 rfl rfl 34 (by decide) (hts _ (bgc bw718)) (fun _ h9 => h9) rfl d_M_set_104 ?_
                      refine lv_if_le (tgt := 112) hx hb d_M_set_107 (by decide) (fun c211 => ?_) (fun c211 => ?_)
                      · have h := it_t c211 h
                        refine lv_aload_n hx hb d_M_set_112 rfl (lv_at hl 0 rfl) ?_
                        refine lv_iconst (v := 0) hx hb d_M_set_113 (by decide) ?_
                        obtain ⟨g212, h⟩ := gd_some h
                        refine va_put (D := D) (ci := 8) (v := .int 0) (ty := .boolean) (C := "ConeForgeModel") (T := FM) (N := 46) hx hb hts iM tM tM_ok nmM hown hK hP hD hS 0 rfl rfl 37 (by decide) (hts _ (bgc bw721)) (fun _ h9 => h9) rfl (by decide +kernel) (isb_n g212) (isb_f g212) (Nat.le_of_ble_eq_true rfl) d_M_set_114 (fun H locs hP hD hS => ?_)
                        have hP : va_P D CL (w_M_set T q0 q0_a q0_b q0_c q0_rowScale q0_columnScale q0_sa q0_sb q0_sc q0_x q0_s q0_y q0_p q0_d q0_h q0_f q0_mm q0_low q0_dd q0_r q0_big q0_dt q0_dx q0_t q0_cost q0_rowScaleNow q0_columnScaleNow q0_basic q0_text q0_turned q0_na q0_nb q0_nc vq0_m vq0_n vq0_length vq0_where vq0_effort 2 vq0_at vq0_scaled 0 vq0_second vq0_nm vq0_nn vq0_number vq0_bad vq0_a vq0_b vq0_c) H := hP
                        have hD : va_D A (w_M_set T q0 q0_a q0_b q0_c q0_rowScale q0_columnScale q0_sa q0_sb q0_sc q0_x q0_s q0_y q0_p q0_d q0_h q0_f q0_mm q0_low q0_dd q0_r q0_big q0_dt q0_dx q0_t q0_cost q0_rowScaleNow q0_columnScaleNow q0_basic q0_text q0_turned q0_na q0_nb q0_nc vq0_m vq0_n vq0_length vq0_where vq0_effort 2 vq0_at vq0_scaled 0 vq0_second vq0_nm vq0_nn vq0_number vq0_bad vq0_a vq0_b vq0_c) := hD
                        refine lv_iload_n hx hb d_M_set_117 rfl (lv_at hl 1 rfl) ?_
                        refine lv_if_ne (tgt := 135) hx hb d_M_set_118 (by decide) (fun c213 => ?_) (fun c213 => ?_)
                        · have h := it_f c213 h
                          refine lv_iload_n hx hb d_M_set_135 rfl (lv_at hl 1 rfl) ?_
                          refine lv_iconst (v := 1) hx hb d_M_set_136 (by decide) ?_
                          refine lv_icmp_ne (tgt := 149) hx hb d_M_set_137 (by decide) (fun c214 => ?_) (fun c214 => ?_)
                          · have h := it_f c214 h
                            refine lv_aload_n hx hb d_M_set_149 rfl (lv_at hl 0 rfl) ?_
                            refine va_get (D := D) (ci := 8) (v := .ref q0_c) (C := "ConeForgeModel") (T := FM) (N := 46) hx hb hts iM hown hK hP 0 rfl rfl 2 (by decide) (hts _ (bgc bw686)) (fun _ h9 => h9) rfl d_M_set_150 ?_
                            refine lv_iload_n hx hb d_M_set_153 rfl (lv_at hl 3 rfl) ?_
                            obtain ⟨g215, h⟩ := gd_some h
                            refine va_dald hx hb hK hP 3 0 rfl rfl (inb_in g215) d_M_set_154 ?_
                            exact J155 2 0 vq0_a vq0_b vq0_c x1 x2 x3 x4 (vq0_c x3.toNatClampNeg) H locs ls hP hD hS (lv_sub hl [0, 1, 2, 3, 4] rfl) h
                          · have h := it_t c214 h
                            refine lv_aload_n hx hb d_M_set_140 rfl (lv_at hl 0 rfl) ?_
                            refine va_get (D := D) (ci := 8) (v := .ref q0_b) (C := "ConeForgeModel") (T := FM) (N := 46) hx hb hts iM hown hK hP 0 rfl rfl 1 (by decide) (hts _ (bgc bw685)) (fun _ h9 => h9) rfl d_M_set_141 ?_
                            refine lv_iload_n hx hb d_M_set_144 rfl (lv_at hl 2 rfl) ?_
                            obtain ⟨g216, h⟩ := gd_some h
                            refine va_dald hx hb hK hP 2 0 rfl rfl (inb_in g216) d_M_set_145 ?_
                            refine lv_goto (tgt := 155) hx hb d_M_set_146 (by decide) ?_
                            exact J155 2 0 vq0_a vq0_b vq0_c x1 x2 x3 x4 (vq0_b x2.toNatClampNeg) H locs ls hP hD hS (lv_sub hl [0, 1, 2, 3, 4] rfl) h
                        · have h := it_t c213 h
                          refine lv_aload_n hx hb d_M_set_121 rfl (lv_at hl 0 rfl) ?_
                          refine va_get (D := D) (ci := 8) (v := .ref q0_a) (C := "ConeForgeModel") (T := FM) (N := 46) hx hb hts iM hown hK hP 0 rfl rfl 0 (by decide) (hts _ (bgc bw684)) (fun _ h9 => h9) rfl d_M_set_122 ?_
                          refine lv_bipush (v := 8) hx hb d_M_set_125 (by decide) ?_
                          refine lv_iload_n hx hb d_M_set_127 rfl (lv_at hl 2 rfl) ?_
                          refine lv_imul hx hb d_M_set_128 ?_
                          refine lv_iload_n hx hb d_M_set_129 rfl (lv_at hl 3 rfl) ?_
                          refine lv_iadd hx hb d_M_set_130 ?_
                          obtain ⟨g217, h⟩ := gd_some h
                          refine va_dald hx hb hK hP 1 0 rfl rfl (inb_in g217) d_M_set_131 ?_
                          refine lv_goto (tgt := 155) hx hb d_M_set_132 (by decide) ?_
                          exact J155 2 0 vq0_a vq0_b vq0_c x1 x2 x3 x4 (vq0_a ((8 * x2) + x3).toNatClampNeg) H locs ls hP hD hS (lv_sub hl [0, 1, 2, 3, 4] rfl) h
                      · have h := it_f c211 h
                        refine lv_dconst0 hx hb d_M_set_110 ?_
                        exact rtD hx hb hr hlocks hQ (Option.some.inj h) hP hS d_M_set_111 rfl rfl
            · have h := it_f c156 h
              refine lv_iconst (v := 1) hx hb d_M_set_53 (by decide) ?_
              refine lv_goto (tgt := 100) hx hb d_M_set_54 (by decide) ?_
              refine va_put (D := D) (ci := 8) (v := .int 1) (ty := .int) (C := "ConeForgeModel") (T := FM) (N := 46) hx hb hts iM tM tM_ok nmM hown hK hP hD hS 0 rfl rfl 34 (by decide) (hts _ (bgc bw718)) (fun _ h9 => h9) rfl (by decide +kernel) rfl rfl (Nat.le_of_ble_eq_true rfl) d_M_set_100 (fun H locs hP hD hS => ?_)
              have hP : va_P D CL (w_M_set T q0 q0_a q0_b q0_c q0_rowScale q0_columnScale q0_sa q0_sb q0_sc q0_x q0_s q0_y q0_p q0_d q0_h q0_f q0_mm q0_low q0_dd q0_r q0_big q0_dt q0_dx q0_t q0_cost q0_rowScaleNow q0_columnScaleNow q0_basic q0_text q0_turned q0_na q0_nb q0_nc vq0_m vq0_n vq0_length vq0_where vq0_effort 1 vq0_at vq0_scaled vq0_solved vq0_second vq0_nm vq0_nn vq0_number vq0_bad vq0_a vq0_b vq0_c) H := hP
              have hD : va_D A (w_M_set T q0 q0_a q0_b q0_c q0_rowScale q0_columnScale q0_sa q0_sb q0_sc q0_x q0_s q0_y q0_p q0_d q0_h q0_f q0_mm q0_low q0_dd q0_r q0_big q0_dt q0_dx q0_t q0_cost q0_rowScaleNow q0_columnScaleNow q0_basic q0_text q0_turned q0_na q0_nb q0_nc vq0_m vq0_n vq0_length vq0_where vq0_effort 1 vq0_at vq0_scaled vq0_solved vq0_second vq0_nm vq0_nn vq0_number vq0_bad vq0_a vq0_b vq0_c) := hD
              refine lv_aload_n hx hb d_M_set_103 rfl (lv_at hl 0 rfl) ?_
              refine va_get (D := D) (ci := 8) (v := .int 1) (C := "ConeForgeModel") (T := FM) (N := 46) hx hb hts iM hown hK hP 0 rfl rfl 34 (by decide) (hts _ (bgc bw718)) (fun _ h9 => h9) rfl d_M_set_104 ?_
              refine lv_if_le (tgt := 112) hx hb d_M_set_107 (by decide) (fun c218 => ?_) (fun c218 => ?_)
              · have h := it_t c218 h
                refine lv_aload_n hx hb d_M_set_112 rfl (lv_at hl 0 rfl) ?_
                refine lv_iconst (v := 0) hx hb d_M_set_113 (by decide) ?_
                obtain ⟨g219, h⟩ := gd_some h
                refine va_put (D := D) (ci := 8) (v := .int 0) (ty := .boolean) (C := "ConeForgeModel") (T := FM) (N := 46) hx hb hts iM tM tM_ok nmM hown hK hP hD hS 0 rfl rfl 37 (by decide) (hts _ (bgc bw721)) (fun _ h9 => h9) rfl (by decide +kernel) (isb_n g219) (isb_f g219) (Nat.le_of_ble_eq_true rfl) d_M_set_114 (fun H locs hP hD hS => ?_)
                have hP : va_P D CL (w_M_set T q0 q0_a q0_b q0_c q0_rowScale q0_columnScale q0_sa q0_sb q0_sc q0_x q0_s q0_y q0_p q0_d q0_h q0_f q0_mm q0_low q0_dd q0_r q0_big q0_dt q0_dx q0_t q0_cost q0_rowScaleNow q0_columnScaleNow q0_basic q0_text q0_turned q0_na q0_nb q0_nc vq0_m vq0_n vq0_length vq0_where vq0_effort 1 vq0_at vq0_scaled 0 vq0_second vq0_nm vq0_nn vq0_number vq0_bad vq0_a vq0_b vq0_c) H := hP
                have hD : va_D A (w_M_set T q0 q0_a q0_b q0_c q0_rowScale q0_columnScale q0_sa q0_sb q0_sc q0_x q0_s q0_y q0_p q0_d q0_h q0_f q0_mm q0_low q0_dd q0_r q0_big q0_dt q0_dx q0_t q0_cost q0_rowScaleNow q0_columnScaleNow q0_basic q0_text q0_turned q0_na q0_nb q0_nc vq0_m vq0_n vq0_length vq0_where vq0_effort 1 vq0_at vq0_scaled 0 vq0_second vq0_nm vq0_nn vq0_number vq0_bad vq0_a vq0_b vq0_c) := hD
                refine lv_iload_n hx hb d_M_set_117 rfl (lv_at hl 1 rfl) ?_
                refine lv_if_ne (tgt := 135) hx hb d_M_set_118 (by decide) (fun c220 => ?_) (fun c220 => ?_)
                · have h := it_f c220 h
                  refine lv_iload_n hx hb d_M_set_135 rfl (lv_at hl 1 rfl) ?_
                  refine lv_iconst (v := 1) hx hb d_M_set_136 (by decide) ?_
                  refine lv_icmp_ne (tgt := 149) hx hb d_M_set_137 (by decide) (fun c221 => ?_) (fun c221 => ?_)
                  · have h := it_f c221 h
                    refine lv_aload_n hx hb d_M_set_149 rfl (lv_at hl 0 rfl) ?_
                    refine va_get (D := D) (ci := 8) (v := .ref q0_c) (C := "ConeForgeModel") (T := FM) (N := 46) hx hb hts iM hown hK hP 0 rfl rfl 2 (by decide) (hts _ (bgc bw686)) (fun _ h9 => h9) rfl d_M_set_150 ?_
                    refine lv_iload_n hx hb d_M_set_153 rfl (lv_at hl 3 rfl) ?_
                    obtain ⟨g222, h⟩ := gd_some h
                    refine va_dald hx hb hK hP 3 0 rfl rfl (inb_in g222) d_M_set_154 ?_
                    exact J155 1 0 vq0_a vq0_b vq0_c x1 x2 x3 x4 (vq0_c x3.toNatClampNeg) H locs ls hP hD hS (lv_sub hl [0, 1, 2, 3, 4] rfl) h
                  · have h := it_t c221 h
                    refine lv_aload_n hx hb d_M_set_140 rfl (lv_at hl 0 rfl) ?_
                    refine va_get (D := D) (ci := 8) (v := .ref q0_b) (C := "ConeForgeModel") (T := FM) (N := 46) hx hb hts iM hown hK hP 0 rfl rfl 1 (by decide) (hts _ (bgc bw685)) (fun _ h9 => h9) rfl d_M_set_141 ?_
                    refine lv_iload_n hx hb d_M_set_144 rfl (lv_at hl 2 rfl) ?_
                    obtain ⟨g223, h⟩ := gd_some h
                    refine va_dald hx hb hK hP 2 0 rfl rfl (inb_in g223) d_M_set_145 ?_
                    refine lv_goto (tgt := 155) hx hb d_M_set_146 (by decide) ?_
                    exact J155 1 0 vq0_a vq0_b vq0_c x1 x2 x3 x4 (vq0_b x2.toNatClampNeg) H locs ls hP hD hS (lv_sub hl [0, 1, 2, 3, 4] rfl) h
                · have h := it_t c220 h
                  refine lv_aload_n hx hb d_M_set_121 rfl (lv_at hl 0 rfl) ?_
                  refine va_get (D := D) (ci := 8) (v := .ref q0_a) (C := "ConeForgeModel") (T := FM) (N := 46) hx hb hts iM hown hK hP 0 rfl rfl 0 (by decide) (hts _ (bgc bw684)) (fun _ h9 => h9) rfl d_M_set_122 ?_
                  refine lv_bipush (v := 8) hx hb d_M_set_125 (by decide) ?_
                  refine lv_iload_n hx hb d_M_set_127 rfl (lv_at hl 2 rfl) ?_
                  refine lv_imul hx hb d_M_set_128 ?_
                  refine lv_iload_n hx hb d_M_set_129 rfl (lv_at hl 3 rfl) ?_
                  refine lv_iadd hx hb d_M_set_130 ?_
                  obtain ⟨g224, h⟩ := gd_some h
                  refine va_dald hx hb hK hP 1 0 rfl rfl (inb_in g224) d_M_set_131 ?_
                  refine lv_goto (tgt := 155) hx hb d_M_set_132 (by decide) ?_
                  exact J155 1 0 vq0_a vq0_b vq0_c x1 x2 x3 x4 (vq0_a ((8 * x2) + x3).toNatClampNeg) H locs ls hP hD hS (lv_sub hl [0, 1, 2, 3, 4] rfl) h
              · have h := it_f c218 h
                refine lv_dconst0 hx hb d_M_set_110 ?_
                exact rtD hx hb hr hlocks hQ (Option.some.inj h) hP hS d_M_set_111 rfl rfl
