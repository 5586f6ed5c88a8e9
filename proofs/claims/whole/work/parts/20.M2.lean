theorem d_M_set_0 : decode prog_10_method_7_code 0 = .ok (.aload_n 0, 1) := by decide +kernel
theorem d_M_set_1 : decode prog_10_method_7_code 1 = .ok (.iload_n 1, 1) := by decide +kernel
theorem d_M_set_2 : decode prog_10_method_7_code 2 = .ok (.iconst 0, 1) := by decide +kernel
theorem d_M_set_3 : decode prog_10_method_7_code 3 = .ok (.iconst 2, 1) := by decide +kernel
theorem d_M_set_4 : decode prog_10_method_7_code 4 = .ok (.invokestatic 125, 3) := by decide +kernel
theorem d_M_set_7 : decode prog_10_method_7_code 7 = .ok (.ifCond .eq 46, 3) := by decide +kernel
theorem d_M_set_10 : decode prog_10_method_7_code 10 = .ok (.dload 4, 2) := by decide +kernel
theorem d_M_set_12 : decode prog_10_method_7_code 12 = .ok (.ldc2_w 132, 3) := by decide +kernel
theorem d_M_set_15 : decode prog_10_method_7_code 15 = .ok (.dcmp .g, 1) := by decide +kernel
theorem d_M_set_16 : decode prog_10_method_7_code 16 = .ok (.ifCond .gt 37, 3) := by decide +kernel
theorem d_M_set_19 : decode prog_10_method_7_code 19 = .ok (.dload 4, 2) := by decide +kernel
theorem d_M_set_21 : decode prog_10_method_7_code 21 = .ok (.ldc2_w 134, 3) := by decide +kernel
theorem d_M_set_24 : decode prog_10_method_7_code 24 = .ok (.dcmp .l, 1) := by decide +kernel
theorem d_M_set_25 : decode prog_10_method_7_code 25 = .ok (.ifCond .lt 28, 3) := by decide +kernel
theorem d_M_set_28 : decode prog_10_method_7_code 28 = .ok (.dload 4, 2) := by decide +kernel
theorem d_M_set_30 : decode prog_10_method_7_code 30 = .ok (.dconst 0, 1) := by decide +kernel
theorem d_M_set_31 : decode prog_10_method_7_code 31 = .ok (.dcmp .l, 1) := by decide +kernel
theorem d_M_set_32 : decode prog_10_method_7_code 32 = .ok (.ifCond .eq 25, 3) := by decide +kernel
theorem d_M_set_35 : decode prog_10_method_7_code 35 = .ok (.dload 4, 2) := by decide +kernel
theorem d_M_set_37 : decode prog_10_method_7_code 37 = .ok (.ldc2_w 136, 3) := by decide +kernel
theorem d_M_set_40 : decode prog_10_method_7_code 40 = .ok (.dcmp .g, 1) := by decide +kernel
theorem d_M_set_41 : decode prog_10_method_7_code 41 = .ok (.ifCond .ge 16, 3) := by decide +kernel
theorem d_M_set_44 : decode prog_10_method_7_code 44 = .ok (.dload 4, 2) := by decide +kernel
theorem d_M_set_46 : decode prog_10_method_7_code 46 = .ok (.ldc2_w 138, 3) := by decide +kernel
theorem d_M_set_49 : decode prog_10_method_7_code 49 = .ok (.dcmp .l, 1) := by decide +kernel
theorem d_M_set_50 : decode prog_10_method_7_code 50 = .ok (.ifCond .le 7, 3) := by decide +kernel
theorem d_M_set_53 : decode prog_10_method_7_code 53 = .ok (.iconst 1, 1) := by decide +kernel
theorem d_M_set_54 : decode prog_10_method_7_code 54 = .ok (.goto 46, 3) := by decide +kernel
theorem d_M_set_57 : decode prog_10_method_7_code 57 = .ok (.iload_n 1, 1) := by decide +kernel
theorem d_M_set_58 : decode prog_10_method_7_code 58 = .ok (.iconst 2, 1) := by decide +kernel
theorem d_M_set_59 : decode prog_10_method_7_code 59 = .ok (.if_icmp .ge 17, 3) := by decide +kernel
theorem d_M_set_62 : decode prog_10_method_7_code 62 = .ok (.iload_n 2, 1) := by decide +kernel
theorem d_M_set_63 : decode prog_10_method_7_code 63 = .ok (.iconst 0, 1) := by decide +kernel
theorem d_M_set_64 : decode prog_10_method_7_code 64 = .ok (.aload_n 0, 1) := by decide +kernel
theorem d_M_set_65 : decode prog_10_method_7_code 65 = .ok (.getfield 99, 3) := by decide +kernel
theorem d_M_set_68 : decode prog_10_method_7_code 68 = .ok (.iconst 1, 1) := by decide +kernel
theorem d_M_set_69 : decode prog_10_method_7_code 69 = .ok (.isub, 1) := by decide +kernel
theorem d_M_set_70 : decode prog_10_method_7_code 70 = .ok (.invokestatic 125, 3) := by decide +kernel
theorem d_M_set_73 : decode prog_10_method_7_code 73 = .ok (.ifCond .eq 22, 3) := by decide +kernel
theorem d_M_set_76 : decode prog_10_method_7_code 76 = .ok (.iload_n 1, 1) := by decide +kernel
theorem d_M_set_77 : decode prog_10_method_7_code 77 = .ok (.iconst 1, 1) := by decide +kernel
theorem d_M_set_78 : decode prog_10_method_7_code 78 = .ok (.if_icmp .eq 21, 3) := by decide +kernel
theorem d_M_set_81 : decode prog_10_method_7_code 81 = .ok (.iload_n 3, 1) := by decide +kernel
theorem d_M_set_82 : decode prog_10_method_7_code 82 = .ok (.iconst 0, 1) := by decide +kernel
theorem d_M_set_83 : decode prog_10_method_7_code 83 = .ok (.aload_n 0, 1) := by decide +kernel
theorem d_M_set_84 : decode prog_10_method_7_code 84 = .ok (.getfield 103, 3) := by decide +kernel
theorem d_M_set_87 : decode prog_10_method_7_code 87 = .ok (.iconst 1, 1) := by decide +kernel
theorem d_M_set_88 : decode prog_10_method_7_code 88 = .ok (.isub, 1) := by decide +kernel
theorem d_M_set_89 : decode prog_10_method_7_code 89 = .ok (.invokestatic 125, 3) := by decide +kernel
theorem d_M_set_92 : decode prog_10_method_7_code 92 = .ok (.ifCond .ne 7, 3) := by decide +kernel
theorem d_M_set_95 : decode prog_10_method_7_code 95 = .ok (.iconst 2, 1) := by decide +kernel
theorem d_M_set_96 : decode prog_10_method_7_code 96 = .ok (.goto 4, 3) := by decide +kernel
theorem d_M_set_99 : decode prog_10_method_7_code 99 = .ok (.iconst 0, 1) := by decide +kernel
theorem d_M_set_100 : decode prog_10_method_7_code 100 = .ok (.putfield 122, 3) := by decide +kernel
theorem d_M_set_103 : decode prog_10_method_7_code 103 = .ok (.aload_n 0, 1) := by decide +kernel
theorem d_M_set_104 : decode prog_10_method_7_code 104 = .ok (.getfield 122, 3) := by decide +kernel
theorem d_M_set_107 : decode prog_10_method_7_code 107 = .ok (.ifCond .le 5, 3) := by decide +kernel
theorem d_M_set_110 : decode prog_10_method_7_code 110 = .ok (.dconst 0, 1) := by decide +kernel
theorem d_M_set_111 : decode prog_10_method_7_code 111 = .ok (.dreturn, 1) := by decide +kernel
theorem d_M_set_112 : decode prog_10_method_7_code 112 = .ok (.aload_n 0, 1) := by decide +kernel
theorem d_M_set_113 : decode prog_10_method_7_code 113 = .ok (.iconst 0, 1) := by decide +kernel
theorem d_M_set_114 : decode prog_10_method_7_code 114 = .ok (.putfield 129, 3) := by decide +kernel
theorem d_M_set_117 : decode prog_10_method_7_code 117 = .ok (.iload_n 1, 1) := by decide +kernel
theorem d_M_set_118 : decode prog_10_method_7_code 118 = .ok (.ifCond .ne 17, 3) := by decide +kernel
theorem d_M_set_121 : decode prog_10_method_7_code 121 = .ok (.aload_n 0, 1) := by decide +kernel
theorem d_M_set_122 : decode prog_10_method_7_code 122 = .ok (.getfield 7, 3) := by decide +kernel
theorem d_M_set_125 : decode prog_10_method_7_code 125 = .ok (.bipush 8, 2) := by decide +kernel
theorem d_M_set_127 : decode prog_10_method_7_code 127 = .ok (.iload_n 2, 1) := by decide +kernel
theorem d_M_set_128 : decode prog_10_method_7_code 128 = .ok (.imul, 1) := by decide +kernel
theorem d_M_set_129 : decode prog_10_method_7_code 129 = .ok (.iload_n 3, 1) := by decide +kernel
theorem d_M_set_130 : decode prog_10_method_7_code 130 = .ok (.iadd, 1) := by decide +kernel
theorem d_M_set_131 : decode prog_10_method_7_code 131 = .ok (.daload, 1) := by decide +kernel
theorem d_M_set_132 : decode prog_10_method_7_code 132 = .ok (.goto 23, 3) := by decide +kernel
theorem d_M_set_135 : decode prog_10_method_7_code 135 = .ok (.iload_n 1, 1) := by decide +kernel
theorem d_M_set_136 : decode prog_10_method_7_code 136 = .ok (.iconst 1, 1) := by decide +kernel
theorem d_M_set_137 : decode prog_10_method_7_code 137 = .ok (.if_icmp .ne 12, 3) := by decide +kernel
theorem d_M_set_140 : decode prog_10_method_7_code 140 = .ok (.aload_n 0, 1) := by decide +kernel
theorem d_M_set_141 : decode prog_10_method_7_code 141 = .ok (.getfield 13, 3) := by decide +kernel
theorem d_M_set_144 : decode prog_10_method_7_code 144 = .ok (.iload_n 2, 1) := by decide +kernel
theorem d_M_set_145 : decode prog_10_method_7_code 145 = .ok (.daload, 1) := by decide +kernel
theorem d_M_set_146 : decode prog_10_method_7_code 146 = .ok (.goto 9, 3) := by decide +kernel
theorem d_M_set_149 : decode prog_10_method_7_code 149 = .ok (.aload_n 0, 1) := by decide +kernel
theorem d_M_set_150 : decode prog_10_method_7_code 150 = .ok (.getfield 16, 3) := by decide +kernel
theorem d_M_set_153 : decode prog_10_method_7_code 153 = .ok (.iload_n 3, 1) := by decide +kernel
theorem d_M_set_154 : decode prog_10_method_7_code 154 = .ok (.daload, 1) := by decide +kernel
theorem d_M_set_155 : decode prog_10_method_7_code 155 = .ok (.dstore 6, 2) := by decide +kernel
theorem d_M_set_157 : decode prog_10_method_7_code 157 = .ok (.iload_n 1, 1) := by decide +kernel
theorem d_M_set_158 : decode prog_10_method_7_code 158 = .ok (.ifCond .ne 19, 3) := by decide +kernel
theorem d_M_set_161 : decode prog_10_method_7_code 161 = .ok (.aload_n 0, 1) := by decide +kernel
theorem d_M_set_162 : decode prog_10_method_7_code 162 = .ok (.getfield 7, 3) := by decide +kernel
theorem d_M_set_165 : decode prog_10_method_7_code 165 = .ok (.bipush 8, 2) := by decide +kernel
theorem d_M_set_167 : decode prog_10_method_7_code 167 = .ok (.iload_n 2, 1) := by decide +kernel
theorem d_M_set_168 : decode prog_10_method_7_code 168 = .ok (.imul, 1) := by decide +kernel
theorem d_M_set_169 : decode prog_10_method_7_code 169 = .ok (.iload_n 3, 1) := by decide +kernel
theorem d_M_set_170 : decode prog_10_method_7_code 170 = .ok (.iadd, 1) := by decide +kernel
theorem d_M_set_171 : decode prog_10_method_7_code 171 = .ok (.dload 4, 2) := by decide +kernel
theorem d_M_set_173 : decode prog_10_method_7_code 173 = .ok (.dastore, 1) := by decide +kernel
theorem d_M_set_174 : decode prog_10_method_7_code 174 = .ok (.goto 27, 3) := by decide +kernel
theorem d_M_set_177 : decode prog_10_method_7_code 177 = .ok (.iload_n 1, 1) := by decide +kernel
theorem d_M_set_178 : decode prog_10_method_7_code 178 = .ok (.iconst 1, 1) := by decide +kernel
theorem d_M_set_179 : decode prog_10_method_7_code 179 = .ok (.if_icmp .ne 14, 3) := by decide +kernel
theorem d_M_set_182 : decode prog_10_method_7_code 182 = .ok (.aload_n 0, 1) := by decide +kernel
theorem d_M_set_183 : decode prog_10_method_7_code 183 = .ok (.getfield 13, 3) := by decide +kernel
theorem d_M_set_186 : decode prog_10_method_7_code 186 = .ok (.iload_n 2, 1) := by decide +kernel
theorem d_M_set_187 : decode prog_10_method_7_code 187 = .ok (.dload 4, 2) := by decide +kernel
theorem d_M_set_189 : decode prog_10_method_7_code 189 = .ok (.dastore, 1) := by decide +kernel
theorem d_M_set_190 : decode prog_10_method_7_code 190 = .ok (.goto 11, 3) := by decide +kernel
theorem d_M_set_193 : decode prog_10_method_7_code 193 = .ok (.aload_n 0, 1) := by decide +kernel
theorem d_M_set_194 : decode prog_10_method_7_code 194 = .ok (.getfield 16, 3) := by decide +kernel
theorem d_M_set_197 : decode prog_10_method_7_code 197 = .ok (.iload_n 3, 1) := by decide +kernel
theorem d_M_set_198 : decode prog_10_method_7_code 198 = .ok (.dload 4, 2) := by decide +kernel
theorem d_M_set_200 : decode prog_10_method_7_code 200 = .ok (.dastore, 1) := by decide +kernel
theorem d_M_set_201 : decode prog_10_method_7_code 201 = .ok (.dload 6, 2) := by decide +kernel
theorem d_M_set_203 : decode prog_10_method_7_code 203 = .ok (.dreturn, 1) := by decide +kernel
abbrev w_M_set (T : Nat → ClassId) (q0 : Nat) (q0_a : Nat) (q0_b : Nat) (q0_c : Nat) (q0_rowScale : Nat) (q0_columnScale : Nat) (q0_sa : Nat) (q0_sb : Nat) (q0_sc : Nat) (q0_x : Nat) (q0_s : Nat) (q0_y : Nat) (q0_p : Nat) (q0_d : Nat) (q0_h : Nat) (q0_f : Nat) (q0_mm : Nat) (q0_low : Nat) (q0_dd : Nat) (q0_r : Nat) (q0_big : Nat) (q0_dt : Nat) (q0_dx : Nat) (q0_t : Nat) (q0_cost : Nat) (q0_rowScaleNow : Nat) (q0_columnScaleNow : Nat) (q0_basic : Nat) (q0_text : Nat) (q0_turned : Nat) (q0_na : Nat) (q0_nb : Nat) (q0_nc : Nat) (vq0_m : Int32) (vq0_n : Int32) (vq0_length : Int32) (vq0_where : Int32) (vq0_effort : Int32) (vq0_thrown : Int32) (vq0_at : Int32) (vq0_scaled : Int32) (vq0_solved : Int32) (vq0_second : Int32) (vq0_nm : Int32) (vq0_nn : Int32) (vq0_number : UInt64) (vq0_bad : Int32) (vq0_a : Nat → UInt64) (vq0_b : Nat → UInt64) (vq0_c : Nat → UInt64) : va_W := [(q0, .inr (8, [.ref q0_a, .ref q0_b, .ref q0_c, .ref q0_rowScale, .ref q0_columnScale, .ref q0_sa, .ref q0_sb, .ref q0_sc, .ref q0_x, .ref q0_s, .ref q0_y, .ref q0_p, .ref q0_d, .ref q0_h, .ref q0_f, .ref q0_mm, .ref q0_low, .ref q0_dd, .ref q0_r, .ref q0_big, .ref q0_dt, .ref q0_dx, .ref q0_t, .ref q0_cost, .ref q0_rowScaleNow, .ref q0_columnScaleNow, .ref q0_basic, .ref q0_text, .ref q0_turned, .int vq0_m, .int vq0_n, .int vq0_length, .int vq0_where, .int vq0_effort, .int vq0_thrown, .int vq0_at, .int vq0_scaled, .int vq0_solved, .int vq0_second, .ref q0_na, .ref q0_nb, .ref q0_nc, .int vq0_nm, .int vq0_nn, .double vq0_number, .int vq0_bad])), (q0_a, .inl (T 0, 40, .inr (.inr (.inr (.inl vq0_a))))), (q0_b, .inl (T 0, 5, .inr (.inr (.inr (.inl vq0_b))))), (q0_c, .inl (T 0, 8, .inr (.inr (.inr (.inl vq0_c)))))]
def s_M_set_J155 (vq0_m : Int32) (vq0_n : Int32) (vq0_length : Int32) (vq0_where : Int32) (vq0_effort : Int32) (vq0_thrown : Int32) (vq0_at : Int32) (vq0_scaled : Int32) (vq0_solved : Int32) (vq0_second : Int32) (vq0_nm : Int32) (vq0_nn : Int32) (vq0_number : UInt64) (vq0_bad : Int32) (vq0_a : Nat → UInt64) (vq0_b : Nat → UInt64) (vq0_c : Nat → UInt64) (x1 : Int32) (x2 : Int32) (x3 : Int32) (x4 : UInt64) (y0 : UInt64) : Option (UInt64 × Int32 × Int32 × (Nat → UInt64) × (Nat → UInt64) × (Nat → UInt64)) :=
  if x1 = 0 then (gd (inb ((8 * x2) + x3) 40) <| some (y0, vq0_thrown, vq0_solved, vf_upd vq0_a ((8 * x2) + x3).toNatClampNeg x4, vq0_b, vq0_c)) else (if x1 = 1 then (gd (inb x2 5) <| some (y0, vq0_thrown, vq0_solved, vq0_a, vf_upd vq0_b x2.toNatClampNeg x4, vq0_c)) else (gd (inb x3 8) <| some (y0, vq0_thrown, vq0_solved, vq0_a, vq0_b, vf_upd vq0_c x3.toNatClampNeg x4)))
def s_M_set (vq0_m : Int32) (vq0_n : Int32) (vq0_length : Int32) (vq0_where : Int32) (vq0_effort : Int32) (vq0_thrown : Int32) (vq0_at : Int32) (vq0_scaled : Int32) (vq0_solved : Int32) (vq0_second : Int32) (vq0_nm : Int32) (vq0_nn : Int32) (vq0_number : UInt64) (vq0_bad : Int32) (vq0_a : Nat → UInt64) (vq0_b : Nat → UInt64) (vq0_c : Nat → UInt64) (x1 : Int32) (x2 : Int32) (x3 : Int32) (x4 : UInt64) : Option (UInt64 × Int32 × Int32 × (Nat → UInt64) × (Nat → UInt64) × (Nat → UInt64)) :=
  (s_M_in x1 0 2).bind fun u6 => if u6 = 0 then (if 1 ≤ 0 then (gd (isb 0) <| if x1 = 0 then (gd (inb ((8 * x2) + x3) 40) <| s_M_set_J155 vq0_m vq0_n vq0_length vq0_where vq0_effort 1 vq0_at vq0_scaled 0 vq0_second vq0_nm vq0_nn vq0_number vq0_bad vq0_a vq0_b vq0_c x1 x2 x3 x4 (vq0_a ((8 * x2) + x3).toNatClampNeg)) else (if x1 = 1 then (gd (inb x2 5) <| s_M_set_J155 vq0_m vq0_n vq0_length vq0_where vq0_effort 1 vq0_at vq0_scaled 0 vq0_second vq0_nm vq0_nn vq0_number vq0_bad vq0_a vq0_b vq0_c x1 x2 x3 x4 (vq0_b x2.toNatClampNeg)) else (gd (inb x3 8) <| s_M_set_J155 vq0_m vq0_n vq0_length vq0_where vq0_effort 1 vq0_at vq0_scaled 0 vq0_second vq0_nm vq0_nn vq0_number vq0_bad vq0_a vq0_b vq0_c x1 x2 x3 x4 (vq0_c x3.toNatClampNeg)))) else (some (FP.dconst0, 1, vq0_solved, vq0_a, vq0_b, vq0_c))) else (if 0 < (Op.cmpValue (FP.dcmp x4 4652007308841189376) .g) then (if 1 ≤ 0 then (gd (isb 0) <| if x1 = 0 then (gd (inb ((8 * x2) + x3) 40) <| s_M_set_J155 vq0_m vq0_n vq0_length vq0_where vq0_effort 1 vq0_at vq0_scaled 0 vq0_second vq0_nm vq0_nn vq0_number vq0_bad vq0_a vq0_b vq0_c x1 x2 x3 x4 (vq0_a ((8 * x2) + x3).toNatClampNeg)) else (if x1 = 1 then (gd (inb x2 5) <| s_M_set_J155 vq0_m vq0_n vq0_length vq0_where vq0_effort 1 vq0_at vq0_scaled 0 vq0_second vq0_nm vq0_nn vq0_number vq0_bad vq0_a vq0_b vq0_c x1 x2 x3 x4 (vq0_b x2.toNatClampNeg)) else (gd (inb x3 8) <| s_M_set_J155 vq0_m vq0_n vq0_length vq0_where vq0_effort 1 vq0_at vq0_scaled 0 vq0_second vq0_nm vq0_nn vq0_number vq0_bad vq0_a vq0_b vq0_c x1 x2 x3 x4 (vq0_c x3.toNatClampNeg)))) else (some (FP.dconst0, 1, vq0_solved, vq0_a, vq0_b, vq0_c))) else (if (Op.cmpValue (FP.dcmp x4 13875379345695965184) .l) < 0 then (if 1 ≤ 0 then (gd (isb 0) <| if x1 = 0 then (gd (inb ((8 * x2) + x3) 40) <| s_M_set_J155 vq0_m vq0_n vq0_length vq0_where vq0_effort 1 vq0_at vq0_scaled 0 vq0_second vq0_nm vq0_nn vq0_number vq0_bad vq0_a vq0_b vq0_c x1 x2 x3 x4 (vq0_a ((8 * x2) + x3).toNatClampNeg)) else (if x1 = 1 then (gd (inb x2 5) <| s_M_set_J155 vq0_m vq0_n vq0_length vq0_where vq0_effort 1 vq0_at vq0_scaled 0 vq0_second vq0_nm vq0_nn vq0_number vq0_bad vq0_a vq0_b vq0_c x1 x2 x3 x4 (vq0_b x2.toNatClampNeg)) else (gd (inb x3 8) <| s_M_set_J155 vq0_m vq0_n vq0_length vq0_where vq0_effort 1 vq0_at vq0_scaled 0 vq0_second vq0_nm vq0_nn vq0_number vq0_bad vq0_a vq0_b vq0_c x1 x2 x3 x4 (vq0_c x3.toNatClampNeg)))) else (some (FP.dconst0, 1, vq0_solved, vq0_a, vq0_b, vq0_c))) else (if (Op.cmpValue (FP.dcmp x4 FP.dconst0) .l) = 0 then (if 2 ≤ x1 then (if x1 = 1 then (if 0 ≤ 0 then (gd (isb 0) <| if x1 = 0 then (gd (inb ((8 * x2) + x3) 40) <| s_M_set_J155 vq0_m vq0_n vq0_length vq0_where vq0_effort 0 vq0_at vq0_scaled 0 vq0_second vq0_nm vq0_nn vq0_number vq0_bad vq0_a vq0_b vq0_c x1 x2 x3 x4 (vq0_a ((8 * x2) + x3).toNatClampNeg)) else (if x1 = 1 then (gd (inb x2 5) <| s_M_set_J155 vq0_m vq0_n vq0_length vq0_where vq0_effort 0 vq0_at vq0_scaled 0 vq0_second vq0_nm vq0_nn vq0_number vq0_bad vq0_a vq0_b vq0_c x1 x2 x3 x4 (vq0_b x2.toNatClampNeg)) else (gd (inb x3 8) <| s_M_set_J155 vq0_m vq0_n vq0_length vq0_where vq0_effort 0 vq0_at vq0_scaled 0 vq0_second vq0_nm vq0_nn vq0_number vq0_bad vq0_a vq0_b vq0_c x1 x2 x3 x4 (vq0_c x3.toNatClampNeg)))) else (some (FP.dconst0, 0, vq0_solved, vq0_a, vq0_b, vq0_c))) else ((s_M_in x3 0 (vq0_n - 1)).bind fun u41 => if u41 = 0 then (if 2 ≤ 0 then (gd (isb 0) <| if x1 = 0 then (gd (inb ((8 * x2) + x3) 40) <| s_M_set_J155 vq0_m vq0_n vq0_length vq0_where vq0_effort 2 vq0_at vq0_scaled 0 vq0_second vq0_nm vq0_nn vq0_number vq0_bad vq0_a vq0_b vq0_c x1 x2 x3 x4 (vq0_a ((8 * x2) + x3).toNatClampNeg)) else (if x1 = 1 then (gd (inb x2 5) <| s_M_set_J155 vq0_m vq0_n vq0_length vq0_where vq0_effort 2 vq0_at vq0_scaled 0 vq0_second vq0_nm vq0_nn vq0_number vq0_bad vq0_a vq0_b vq0_c x1 x2 x3 x4 (vq0_b x2.toNatClampNeg)) else (gd (inb x3 8) <| s_M_set_J155 vq0_m vq0_n vq0_length vq0_where vq0_effort 2 vq0_at vq0_scaled 0 vq0_second vq0_nm vq0_nn vq0_number vq0_bad vq0_a vq0_b vq0_c x1 x2 x3 x4 (vq0_c x3.toNatClampNeg)))) else (some (FP.dconst0, 2, vq0_solved, vq0_a, vq0_b, vq0_c))) else (if 0 ≤ 0 then (gd (isb 0) <| if x1 = 0 then (gd (inb ((8 * x2) + x3) 40) <| s_M_set_J155 vq0_m vq0_n vq0_length vq0_where vq0_effort 0 vq0_at vq0_scaled 0 vq0_second vq0_nm vq0_nn vq0_number vq0_bad vq0_a vq0_b vq0_c x1 x2 x3 x4 (vq0_a ((8 * x2) + x3).toNatClampNeg)) else (if x1 = 1 then (gd (inb x2 5) <| s_M_set_J155 vq0_m vq0_n vq0_length vq0_where vq0_effort 0 vq0_at vq0_scaled 0 vq0_second vq0_nm vq0_nn vq0_number vq0_bad vq0_a vq0_b vq0_c x1 x2 x3 x4 (vq0_b x2.toNatClampNeg)) else (gd (inb x3 8) <| s_M_set_J155 vq0_m vq0_n vq0_length vq0_where vq0_effort 0 vq0_at vq0_scaled 0 vq0_second vq0_nm vq0_nn vq0_number vq0_bad vq0_a vq0_b vq0_c x1 x2 x3 x4 (vq0_c x3.toNatClampNeg)))) else (some (FP.dconst0, 0, vq0_solved, vq0_a, vq0_b, vq0_c))))) else ((s_M_in x2 0 (vq0_m - 1)).bind fun u57 => if u57 = 0 then (if 2 ≤ 0 then (gd (isb 0) <| if x1 = 0 then (gd (inb ((8 * x2) + x3) 40) <| s_M_set_J155 vq0_m vq0_n vq0_length vq0_where vq0_effort 2 vq0_at vq0_scaled 0 vq0_second vq0_nm vq0_nn vq0_number vq0_bad vq0_a vq0_b vq0_c x1 x2 x3 x4 (vq0_a ((8 * x2) + x3).toNatClampNeg)) else (if x1 = 1 then (gd (inb x2 5) <| s_M_set_J155 vq0_m vq0_n vq0_length vq0_where vq0_effort 2 vq0_at vq0_scaled 0 vq0_second vq0_nm vq0_nn vq0_number vq0_bad vq0_a vq0_b vq0_c x1 x2 x3 x4 (vq0_b x2.toNatClampNeg)) else (gd (inb x3 8) <| s_M_set_J155 vq0_m vq0_n vq0_length vq0_where vq0_effort 2 vq0_at vq0_scaled 0 vq0_second vq0_nm vq0_nn vq0_number vq0_bad vq0_a vq0_b vq0_c x1 x2 x3 x4 (vq0_c x3.toNatClampNeg)))) else (some (FP.dconst0, 2, vq0_solved, vq0_a, vq0_b, vq0_c))) else (if x1 = 1 then (if 0 ≤ 0 then (gd (isb 0) <| if x1 = 0 then (gd (inb ((8 * x2) + x3) 40) <| s_M_set_J155 vq0_m vq0_n vq0_length vq0_where vq0_effort 0 vq0_at vq0_scaled 0 vq0_second vq0_nm vq0_nn vq0_number vq0_bad vq0_a vq0_b vq0_c x1 x2 x3 x4 (vq0_a ((8 * x2) + x3).toNatClampNeg)) else (if x1 = 1 then (gd (inb x2 5) <| s_M_set_J155 vq0_m vq0_n vq0_length vq0_where vq0_effort 0 vq0_at vq0_scaled 0 vq0_second vq0_nm vq0_nn vq0_number vq0_bad vq0_a vq0_b vq0_c x1 x2 x3 x4 (vq0_b x2.toNatClampNeg)) else (gd (inb x3 8) <| s_M_set_J155 vq0_m vq0_n vq0_length vq0_where vq0_effort 0 vq0_at vq0_scaled 0 vq0_second vq0_nm vq0_nn vq0_number vq0_bad vq0_a vq0_b vq0_c x1 x2 x3 x4 (vq0_c x3.toNatClampNeg)))) else (some (FP.dconst0, 0, vq0_solved, vq0_a, vq0_b, vq0_c))) else ((s_M_in x3 0 (vq0_n - 1)).bind fun u74 => if u74 = 0 then (if 2 ≤ 0 then (gd (isb 0) <| if x1 = 0 then (gd (inb ((8 * x2) + x3) 40) <| s_M_set_J155 vq0_m vq0_n vq0_length vq0_where vq0_effort 2 vq0_at vq0_scaled 0 vq0_second vq0_nm vq0_nn vq0_number vq0_bad vq0_a vq0_b vq0_c x1 x2 x3 x4 (vq0_a ((8 * x2) + x3).toNatClampNeg)) else (if x1 = 1 then (gd (inb x2 5) <| s_M_set_J155 vq0_m vq0_n vq0_length vq0_where vq0_effort 2 vq0_at vq0_scaled 0 vq0_second vq0_nm vq0_nn vq0_number vq0_bad vq0_a vq0_b vq0_c x1 x2 x3 x4 (vq0_b x2.toNatClampNeg)) else (gd (inb x3 8) <| s_M_set_J155 vq0_m vq0_n vq0_length vq0_where vq0_effort 2 vq0_at vq0_scaled 0 vq0_second vq0_nm vq0_nn vq0_number vq0_bad vq0_a vq0_b vq0_c x1 x2 x3 x4 (vq0_c x3.toNatClampNeg)))) else (some (FP.dconst0, 2, vq0_solved, vq0_a, vq0_b, vq0_c))) else (if 0 ≤ 0 then (gd (isb 0) <| if x1 = 0 then (gd (inb ((8 * x2) + x3) 40) <| s_M_set_J155 vq0_m vq0_n vq0_length vq0_where vq0_effort 0 vq0_at vq0_scaled 0 vq0_second vq0_nm vq0_nn vq0_number vq0_bad vq0_a vq0_b vq0_c x1 x2 x3 x4 (vq0_a ((8 * x2) + x3).toNatClampNeg)) else (if x1 = 1 then (gd (inb x2 5) <| s_M_set_J155 vq0_m vq0_n vq0_length vq0_where vq0_effort 0 vq0_at vq0_scaled 0 vq0_second vq0_nm vq0_nn vq0_number vq0_bad vq0_a vq0_b vq0_c x1 x2 x3 x4 (vq0_b x2.toNatClampNeg)) else (gd (inb x3 8) <| s_M_set_J155 vq0_m vq0_n vq0_length vq0_where vq0_effort 0 vq0_at vq0_scaled 0 vq0_second vq0_nm vq0_nn vq0_number vq0_bad vq0_a vq0_b vq0_c x1 x2 x3 x4 (vq0_c x3.toNatClampNeg)))) else (some (FP.dconst0, 0, vq0_solved, vq0_a, vq0_b, vq0_c))))))) else (if 0 ≤ (Op.cmpValue (FP.dcmp x4 4517329193108106637) .g) then (if 2 ≤ x1 then (if x1 = 1 then (if 0 ≤ 0 then (gd (isb 0) <| if x1 = 0 then (gd (inb ((8 * x2) + x3) 40) <| s_M_set_J155 vq0_m vq0_n vq0_length vq0_where vq0_effort 0 vq0_at vq0_scaled 0 vq0_second vq0_nm vq0_nn vq0_number vq0_bad vq0_a vq0_b vq0_c x1 x2 x3 x4 (vq0_a ((8 * x2) + x3).toNatClampNeg)) else (if x1 = 1 then (gd (inb x2 5) <| s_M_set_J155 vq0_m vq0_n vq0_length vq0_where vq0_effort 0 vq0_at vq0_scaled 0 vq0_second vq0_nm vq0_nn vq0_number vq0_bad vq0_a vq0_b vq0_c x1 x2 x3 x4 (vq0_b x2.toNatClampNeg)) else (gd (inb x3 8) <| s_M_set_J155 vq0_m vq0_n vq0_length vq0_where vq0_effort 0 vq0_at vq0_scaled 0 vq0_second vq0_nm vq0_nn vq0_number vq0_bad vq0_a vq0_b vq0_c x1 x2 x3 x4 (vq0_c x3.toNatClampNeg)))) else (some (FP.dconst0, 0, vq0_solved, vq0_a, vq0_b, vq0_c))) else ((s_M_in x3 0 (vq0_n - 1)).bind fun u100 => if u100 = 0 then (if 2 ≤ 0 then (gd (isb 0) <| if x1 = 0 then (gd (inb ((8 * x2) + x3) 40) <| s_M_set_J155 vq0_m vq0_n vq0_length vq0_where vq0_effort 2 vq0_at vq0_scaled 0 vq0_second vq0_nm vq0_nn vq0_number vq0_bad vq0_a vq0_b vq0_c x1 x2 x3 x4 (vq0_a ((8 * x2) + x3).toNatClampNeg)) else (if x1 = 1 then (gd (inb x2 5) <| s_M_set_J155 vq0_m vq0_n vq0_length vq0_where vq0_effort 2 vq0_at vq0_scaled 0 vq0_second vq0_nm vq0_nn vq0_number vq0_bad vq0_a vq0_b vq0_c x1 x2 x3 x4 (vq0_b x2.toNatClampNeg)) else (gd (inb x3 8) <| s_M_set_J155 vq0_m vq0_n vq0_length vq0_where vq0_effort 2 vq0_at vq0_scaled 0 vq0_second vq0_nm vq0_nn vq0_number vq0_bad vq0_a vq0_b vq0_c x1 x2 x3 x4 (vq0_c x3.toNatClampNeg)))) else (some (FP.dconst0, 2, vq0_solved, vq0_a, vq0_b, vq0_c))) else (if 0 ≤ 0 then (gd (isb 0) <| if x1 = 0 then (gd (inb ((8 * x2) + x3) 40) <| s_M_set_J155 vq0_m vq0_n vq0_length vq0_where vq0_effort 0 vq0_at vq0_scaled 0 vq0_second vq0_nm vq0_nn vq0_number vq0_bad vq0_a vq0_b vq0_c x1 x2 x3 x4 (vq0_a ((8 * x2) + x3).toNatClampNeg)) else (if x1 = 1 then (gd (inb x2 5) <| s_M_set_J155 vq0_m vq0_n vq0_length vq0_where vq0_effort 0 vq0_at vq0_scaled 0 vq0_second vq0_nm vq0_nn vq0_number vq0_bad vq0_a vq0_b vq0_c x1 x2 x3 x4 (vq0_b x2.toNatClampNeg)) else (gd (inb x3 8) <| s_M_set_J155 vq0_m vq0_n vq0_length vq0_where vq0_effort 0 vq0_at vq0_scaled 0 vq0_second vq0_nm vq0_nn vq0_number vq0_bad vq0_a vq0_b vq0_c x1 x2 x3 x4 (vq0_c x3.toNatClampNeg)))) else (some (FP.dconst0, 0, vq0_solved, vq0_a, vq0_b, vq0_c))))) else ((s_M_in x2 0 (vq0_m - 1)).bind fun u116 => if u116 = 0 then (if 2 ≤ 0 then (gd (isb 0) <| if x1 = 0 then (gd (inb ((8 * x2) + x3) 40) <| s_M_set_J155 vq0_m vq0_n vq0_length vq0_where vq0_effort 2 vq0_at vq0_scaled 0 vq0_second vq0_nm vq0_nn vq0_number vq0_bad vq0_a vq0_b vq0_c x1 x2 x3 x4 (vq0_a ((8 * x2) + x3).toNatClampNeg)) else (if x1 = 1 then (gd (inb x2 5) <| s_M_set_J155 vq0_m vq0_n vq0_length vq0_where vq0_effort 2 vq0_at vq0_scaled 0 vq0_second vq0_nm vq0_nn vq0_number vq0_bad vq0_a vq0_b vq0_c x1 x2 x3 x4 (vq0_b x2.toNatClampNeg)) else (gd (inb x3 8) <| s_M_set_J155 vq0_m vq0_n vq0_length vq0_where vq0_effort 2 vq0_at vq0_scaled 0 vq0_second vq0_nm vq0_nn vq0_number vq0_bad vq0_a vq0_b vq0_c x1 x2 x3 x4 (vq0_c x3.toNatClampNeg)))) else (some (FP.dconst0, 2, vq0_solved, vq0_a, vq0_b, vq0_c))) else (if x1 = 1 then (if 0 ≤ 0 then (gd (isb 0) <| if x1 = 0 then (gd (inb ((8 * x2) + x3) 40) <| s_M_set_J155 vq0_m vq0_n vq0_length vq0_where vq0_effort 0 vq0_at vq0_scaled 0 vq0_second vq0_nm vq0_nn vq0_number vq0_bad vq0_a vq0_b vq0_c x1 x2 x3 x4 (vq0_a ((8 * x2) + x3).toNatClampNeg)) else (if x1 = 1 then (gd (inb x2 5) <| s_M_set_J155 vq0_m vq0_n vq0_length vq0_where vq0_effort 0 vq0_at vq0_scaled 0 vq0_second vq0_nm vq0_nn vq0_number vq0_bad vq0_a vq0_b vq0_c x1 x2 x3 x4 (vq0_b x2.toNatClampNeg)) else (gd (inb x3 8) <| s_M_set_J155 vq0_m vq0_n vq0_length vq0_where vq0_effort 0 vq0_at vq0_scaled 0 vq0_second vq0_nm vq0_nn vq0_number vq0_bad vq0_a vq0_b vq0_c x1 x2 x3 x4 (vq0_c x3.toNatClampNeg)))) else (some (FP.dconst0, 0, vq0_solved, vq0_a, vq0_b, vq0_c))) else ((s_M_in x3 0 (vq0_n - 1)).bind fun u133 => if u133 = 0 then (if 2 ≤ 0 then (gd (isb 0) <| if x1 = 0 then (gd (inb ((8 * x2) + x3) 40) <| s_M_set_J155 vq0_m vq0_n vq0_length vq0_where vq0_effort 2 vq0_at vq0_scaled 0 vq0_second vq0_nm vq0_nn vq0_number vq0_bad vq0_a vq0_b vq0_c x1 x2 x3 x4 (vq0_a ((8 * x2) + x3).toNatClampNeg)) else (if x1 = 1 then (gd (inb x2 5) <| s_M_set_J155 vq0_m vq0_n vq0_length vq0_where vq0_effort 2 vq0_at vq0_scaled 0 vq0_second vq0_nm vq0_nn vq0_number vq0_bad vq0_a vq0_b vq0_c x1 x2 x3 x4 (vq0_b x2.toNatClampNeg)) else (gd (inb x3 8) <| s_M_set_J155 vq0_m vq0_n vq0_length vq0_where vq0_effort 2 vq0_at vq0_scaled 0 vq0_second vq0_nm vq0_nn vq0_number vq0_bad vq0_a vq0_b vq0_c x1 x2 x3 x4 (vq0_c x3.toNatClampNeg)))) else (some (FP.dconst0, 2, vq0_solved, vq0_a, vq0_b, vq0_c))) else (if 0 ≤ 0 then (gd (isb 0) <| if x1 = 0 then (gd (inb ((8 * x2) + x3) 40) <| s_M_set_J155 vq0_m vq0_n vq0_length vq0_where vq0_effort 0 vq0_at vq0_scaled 0 vq0_second vq0_nm vq0_nn vq0_number vq0_bad vq0_a vq0_b vq0_c x1 x2 x3 x4 (vq0_a ((8 * x2) + x3).toNatClampNeg)) else (if x1 = 1 then (gd (inb x2 5) <| s_M_set_J155 vq0_m vq0_n vq0_length vq0_where vq0_effort 0 vq0_at vq0_scaled 0 vq0_second vq0_nm vq0_nn vq0_number vq0_bad vq0_a vq0_b vq0_c x1 x2 x3 x4 (vq0_b x2.toNatClampNeg)) else (gd (inb x3 8) <| s_M_set_J155 vq0_m vq0_n vq0_length vq0_where vq0_effort 0 vq0_at vq0_scaled 0 vq0_second vq0_nm vq0_nn vq0_number vq0_bad vq0_a vq0_b vq0_c x1 x2 x3 x4 (vq0_c x3.toNatClampNeg)))) else (some (FP.dconst0, 0, vq0_solved, vq0_a, vq0_b, vq0_c))))))) else (if (Op.cmpValue (FP.dcmp x4 13740701229962882445) .l) ≤ 0 then (if 2 ≤ x1 then (if x1 = 1 then (if 0 ≤ 0 then (gd (isb 0) <| if x1 = 0 then (gd (inb ((8 * x2) + x3) 40) <| s_M_set_J155 vq0_m vq0_n vq0_length vq0_where vq0_effort 0 vq0_at vq0_scaled 0 vq0_second vq0_nm vq0_nn vq0_number vq0_bad vq0_a vq0_b vq0_c x1 x2 x3 x4 (vq0_a ((8 * x2) + x3).toNatClampNeg)) else (if x1 = 1 then (gd (inb x2 5) <| s_M_set_J155 vq0_m vq0_n vq0_length vq0_where vq0_effort 0 vq0_at vq0_scaled 0 vq0_second vq0_nm vq0_nn vq0_number vq0_bad vq0_a vq0_b vq0_c x1 x2 x3 x4 (vq0_b x2.toNatClampNeg)) else (gd (inb x3 8) <| s_M_set_J155 vq0_m vq0_n vq0_length vq0_where vq0_effort 0 vq0_at vq0_scaled 0 vq0_second vq0_nm vq0_nn vq0_number vq0_bad vq0_a vq0_b vq0_c x1 x2 x3 x4 (vq0_c x3.toNatClampNeg)))) else (some (FP.dconst0, 0, vq0_solved, vq0_a, vq0_b, vq0_c))) else ((s_M_in x3 0 (vq0_n - 1)).bind fun u159 => if u159 = 0 then (if 2 ≤ 0 then (gd (isb 0) <| if x1 = 0 then (gd (inb ((8 * x2) + x3) 40) <| s_M_set_J155 vq0_m vq0_n vq0_length vq0_where vq0_effort 2 vq0_at vq0_scaled 0 vq0_second vq0_nm vq0_nn vq0_number vq0_bad vq0_a vq0_b vq0_c x1 x2 x3 x4 (vq0_a ((8 * x2) + x3).toNatClampNeg)) else (if x1 = 1 then (gd (inb x2 5) <| s_M_set_J155 vq0_m vq0_n vq0_length vq0_where vq0_effort 2 vq0_at vq0_scaled 0 vq0_second vq0_nm vq0_nn vq0_number vq0_bad vq0_a vq0_b vq0_c x1 x2 x3 x4 (vq0_b x2.toNatClampNeg)) else (gd (inb x3 8) <| s_M_set_J155 vq0_m vq0_n vq0_length vq0_where vq0_effort 2 vq0_at vq0_scaled 0 vq0_second vq0_nm vq0_nn vq0_number vq0_bad vq0_a vq0_b vq0_c x1 x2 x3 x4 (vq0_c x3.toNatClampNeg)))) else (some (FP.dconst0, 2, vq0_solved, vq0_a, vq0_b, vq0_c))) else (if 0 ≤ 0 then (gd (isb 0) <| if x1 = 0 then (gd (inb ((8 * x2) + x3) 40) <| s_M_set_J155 vq0_m vq0_n vq0_length vq0_where vq0_effort 0 vq0_at vq0_scaled 0 vq0_second vq0_nm vq0_nn vq0_number vq0_bad vq0_a vq0_b vq0_c x1 x2 x3 x4 (vq0_a ((8 * x2) + x3).toNatClampNeg)) else (if x1 = 1 then (gd (inb x2 5) <| s_M_set_J155 vq0_m vq0_n vq0_length vq0_where vq0_effort 0 vq0_at vq0_scaled 0 vq0_second vq0_nm vq0_nn vq0_number vq0_bad vq0_a vq0_b vq0_c x1 x2 x3 x4 (vq0_b x2.toNatClampNeg)) else (gd (inb x3 8) <| s_M_set_J155 vq0_m vq0_n vq0_length vq0_where vq0_effort 0 vq0_at vq0_scaled 0 vq0_second vq0_nm vq0_nn vq0_number vq0_bad vq0_a vq0_b vq0_c x1 x2 x3 x4 (vq0_c x3.toNatClampNeg)))) else (some (FP.dconst0, 0, vq0_solved, vq0_a, vq0_b, vq0_c))))) else ((s_M_in x2 0 (vq0_m - 1)).bind fun u175 => if u175 = 0 then (if 2 ≤ 0 then (gd (isb 0) <| if x1 = 0 then (gd (inb ((8 * x2) + x3) 40) <| s_M_set_J155 vq0_m vq0_n vq0_length vq0_where vq0_effort 2 vq0_at vq0_scaled 0 vq0_second vq0_nm vq0_nn vq0_number vq0_bad vq0_a vq0_b vq0_c x1 x2 x3 x4 (vq0_a ((8 * x2) + x3).toNatClampNeg)) else (if x1 = 1 then (gd (inb x2 5) <| s_M_set_J155 vq0_m vq0_n vq0_length vq0_where vq0_effort 2 vq0_at vq0_scaled 0 vq0_second vq0_nm vq0_nn vq0_number vq0_bad vq0_a vq0_b vq0_c x1 x2 x3 x4 (vq0_b x2.toNatClampNeg)) else (gd (inb x3 8) <| s_M_set_J155 vq0_m vq0_n vq0_length vq0_where vq0_effort 2 vq0_at vq0_scaled 0 vq0_second vq0_nm vq0_nn vq0_number vq0_bad vq0_a vq0_b vq0_c x1 x2 x3 x4 (vq0_c x3.toNatClampNeg)))) else (some (FP.dconst0, 2, vq0_solved, vq0_a, vq0_b, vq0_c))) else (if x1 = 1 then (if 0 ≤ 0 then (gd (isb 0) <| if x1 = 0 then (gd (inb ((8 * x2) + x3) 40) <| s_M_set_J155 vq0_m vq0_n vq0_length vq0_where vq0_effort 0 vq0_at vq0_scaled 0 vq0_second vq0_nm vq0_nn vq0_number vq0_bad vq0_a vq0_b vq0_c x1 x2 x3 x4 (vq0_a ((8 * x2) + x3).toNatClampNeg)) else (if x1 = 1 then (gd (inb x2 5) <| s_M_set_J155 vq0_m vq0_n vq0_length vq0_where vq0_effort 0 vq0_at vq0_scaled 0 vq0_second vq0_nm vq0_nn vq0_number vq0_bad vq0_a vq0_b vq0_c x1 x2 x3 x4 (vq0_b x2.toNatClampNeg)) else (gd (inb x3 8) <| s_M_set_J155 vq0_m vq0_n vq0_length vq0_where vq0_effort 0 vq0_at vq0_scaled 0 vq0_second vq0_nm vq0_nn vq0_number vq0_bad vq0_a vq0_b vq0_c x1 x2 x3 x4 (vq0_c x3.toNatClampNeg)))) else (some (FP.dconst0, 0, vq0_solved, vq0_a, vq0_b, vq0_c))) else ((s_M_in x3 0 (vq0_n - 1)).bind fun u192 => if u192 = 0 then (if 2 ≤ 0 then (gd (isb 0) <| if x1 = 0 then (gd (inb ((8 * x2) + x3) 40) <| s_M_set_J155 vq0_m vq0_n vq0_length vq0_where vq0_effort 2 vq0_at vq0_scaled 0 vq0_second vq0_nm vq0_nn vq0_number vq0_bad vq0_a vq0_b vq0_c x1 x2 x3 x4 (vq0_a ((8 * x2) + x3).toNatClampNeg)) else (if x1 = 1 then (gd (inb x2 5) <| s_M_set_J155 vq0_m vq0_n vq0_length vq0_where vq0_effort 2 vq0_at vq0_scaled 0 vq0_second vq0_nm vq0_nn vq0_number vq0_bad vq0_a vq0_b vq0_c x1 x2 x3 x4 (vq0_b x2.toNatClampNeg)) else (gd (inb x3 8) <| s_M_set_J155 vq0_m vq0_n vq0_length vq0_where vq0_effort 2 vq0_at vq0_scaled 0 vq0_second vq0_nm vq0_nn vq0_number vq0_bad vq0_a vq0_b vq0_c x1 x2 x3 x4 (vq0_c x3.toNatClampNeg)))) else (some (FP.dconst0, 2, vq0_solved, vq0_a, vq0_b, vq0_c))) else (if 0 ≤ 0 then (gd (isb 0) <| if x1 = 0 then (gd (inb ((8 * x2) + x3) 40) <| s_M_set_J155 vq0_m vq0_n vq0_length vq0_where vq0_effort 0 vq0_at vq0_scaled 0 vq0_second vq0_nm vq0_nn vq0_number vq0_bad vq0_a vq0_b vq0_c x1 x2 x3 x4 (vq0_a ((8 * x2) + x3).toNatClampNeg)) else (if x1 = 1 then (gd (inb x2 5) <| s_M_set_J155 vq0_m vq0_n vq0_length vq0_where vq0_effort 0 vq0_at vq0_scaled 0 vq0_second vq0_nm vq0_nn vq0_number vq0_bad vq0_a vq0_b vq0_c x1 x2 x3 x4 (vq0_b x2.toNatClampNeg)) else (gd (inb x3 8) <| s_M_set_J155 vq0_m vq0_n vq0_length vq0_where vq0_effort 0 vq0_at vq0_scaled 0 vq0_second vq0_nm vq0_nn vq0_number vq0_bad vq0_a vq0_b vq0_c x1 x2 x3 x4 (vq0_c x3.toNatClampNeg)))) else (some (FP.dconst0, 0, vq0_solved, vq0_a, vq0_b, vq0_c))))))) else (if 1 ≤ 0 then (gd (isb 0) <| if x1 = 0 then (gd (inb ((8 * x2) + x3) 40) <| s_M_set_J155 vq0_m vq0_n vq0_length vq0_where vq0_effort 1 vq0_at vq0_scaled 0 vq0_second vq0_nm vq0_nn vq0_number vq0_bad vq0_a vq0_b vq0_c x1 x2 x3 x4 (vq0_a ((8 * x2) + x3).toNatClampNeg)) else (if x1 = 1 then (gd (inb x2 5) <| s_M_set_J155 vq0_m vq0_n vq0_length vq0_where vq0_effort 1 vq0_at vq0_scaled 0 vq0_second vq0_nm vq0_nn vq0_number vq0_bad vq0_a vq0_b vq0_c x1 x2 x3 x4 (vq0_b x2.toNatClampNeg)) else (gd (inb x3 8) <| s_M_set_J155 vq0_m vq0_n vq0_length vq0_where vq0_effort 1 vq0_at vq0_scaled 0 vq0_second vq0_nm vq0_nn vq0_number vq0_bad vq0_a vq0_b vq0_c x1 x2 x3 x4 (vq0_c x3.toNatClampNeg)))) else (some (FP.dconst0, 1, vq0_solved, vq0_a, vq0_b, vq0_c))))))))
set_option maxHeartbeats 4000000 in
set_option maxRecDepth 100000 in
theorem c_M_set (l : Launch) (D : va_G) (T : Nat → ClassId) (q0 : Nat) (q0_a : Nat) (q0_b : Nat) (q0_c : Nat) (q0_rowScale : Nat) (q0_columnScale : Nat) (q0_sa : Nat) (q0_sb : Nat) (q0_sc : Nat) (q0_x : Nat) (q0_s : Nat) (q0_y : Nat) (q0_p : Nat) (q0_d : Nat) (q0_h : Nat) (q0_f : Nat) (q0_mm : Nat) (q0_low : Nat) (q0_dd : Nat) (q0_r : Nat) (q0_big : Nat) (q0_dt : Nat) (q0_dx : Nat) (q0_t : Nat) (q0_cost : Nat) (q0_rowScaleNow : Nat) (q0_columnScaleNow : Nat) (q0_basic : Nat) (q0_text : Nat) (q0_turned : Nat) (q0_na : Nat) (q0_nb : Nat) (q0_nc : Nat) (vq0_m : Int32) (vq0_n : Int32) (vq0_length : Int32) (vq0_where : Int32) (vq0_effort : Int32) (vq0_thrown : Int32) (vq0_at : Int32) (vq0_scaled : Int32) (vq0_solved : Int32) (vq0_second : Int32) (vq0_nm : Int32) (vq0_nn : Int32) (vq0_number : UInt64) (vq0_bad : Int32) (vq0_a : Nat → UInt64) (vq0_b : Nat → UInt64) (vq0_c : Nat → UInt64) (x1 : Int32) (x2 : Int32) (x3 : Int32) (x4 : UInt64) (rm : UInt64 × Int32 × Int32 × (Nat → UInt64) × (Nat → UInt64) × (Nat → UInt64)) (h : s_M_set vq0_m vq0_n vq0_length vq0_where vq0_effort vq0_thrown vq0_at vq0_scaled vq0_solved vq0_second vq0_nm vq0_nn vq0_number vq0_bad vq0_a vq0_b vq0_c x1 x2 x3 x4 = some rm) : CtD l y_M_set (Cond.code y_M_set prog_10_method_7_code 8 (some .double) :: BIG) 1 22 D T [.ref q0, .int x1, .int x2, .int x3, .double x4] (w_M_set T q0 q0_a q0_b q0_c q0_rowScale q0_columnScale q0_sa q0_sb q0_sc q0_x q0_s q0_y q0_p q0_d q0_h q0_f q0_mm q0_low q0_dd q0_r q0_big q0_dt q0_dx q0_t q0_cost q0_rowScaleNow q0_columnScaleNow q0_basic q0_text q0_turned q0_na q0_nb q0_nc vq0_m vq0_n vq0_length vq0_where vq0_effort vq0_thrown vq0_at vq0_scaled vq0_solved vq0_second vq0_nm vq0_nn vq0_number vq0_bad vq0_a vq0_b vq0_c) (fun r => r.1) (fun r => (w_M_set T q0 q0_a q0_b q0_c q0_rowScale q0_columnScale q0_sa q0_sb q0_sc q0_x q0_s q0_y q0_p q0_d q0_h q0_f q0_mm q0_low q0_dd q0_r q0_big q0_dt q0_dx q0_t q0_cost q0_rowScaleNow q0_columnScaleNow q0_basic q0_text q0_turned q0_na q0_nb q0_nc vq0_m vq0_n vq0_length vq0_where vq0_effort r.2.1 vq0_at vq0_scaled r.2.2.1 vq0_second vq0_nm vq0_nn vq0_number vq0_bad r.2.2.2.1 r.2.2.2.2.1 r.2.2.2.2.2)) rm := by
  refine cf_entry (y := y_M_set) (cc := prog_10_method_7_code) (nL := 8) (ret := (some .double)) (fr := 1) (lo := 22) (T := T) (av := [.ref q0, .int x1, .int x2, .int x3, .double x4]) (w := (w_M_set T q0 q0_a q0_b q0_c q0_rowScale q0_columnScale q0_sa q0_sb q0_sc q0_x q0_s q0_y q0_p q0_d q0_h q0_f q0_mm q0_low q0_dd q0_r q0_big q0_dt q0_dx q0_t q0_cost q0_rowScaleNow q0_columnScaleNow q0_basic q0_text q0_turned q0_na q0_nb q0_nc vq0_m vq0_n vq0_length vq0_where vq0_effort vq0_thrown vq0_at vq0_scaled vq0_solved vq0_second vq0_nm vq0_nn vq0_number vq0_bad vq0_a vq0_b vq0_c)) (Qc := cfQd D (fun r => r.1) (fun r => (w_M_set T q0 q0_a q0_b q0_c q0_rowScale q0_columnScale q0_sa q0_sb q0_sc q0_x q0_s q0_y q0_p q0_d q0_h q0_f q0_mm q0_low q0_dd q0_r q0_big q0_dt q0_dx q0_t q0_cost q0_rowScaleNow q0_columnScaleNow q0_basic q0_text q0_turned q0_na q0_nb q0_nc vq0_m vq0_n vq0_length vq0_where vq0_effort r.2.1 vq0_at vq0_scaled r.2.2.1 vq0_second vq0_nm vq0_nn vq0_number vq0_bad r.2.2.2.1 r.2.2.2.2.1 r.2.2.2.2.2)) rm) (by decide) rfl (Nat.le_of_ble_eq_true rfl) ?_
  intro p e s m args below meth c A Q H locs ls hx hb hr hlocks hml hown hts hNW hK hA hQ hP hD hS hl
  have hown : s.vm.findClass "ConeForgeModel" = some m.cls := hown
  have hl : lv_has ls 8 [(0, .ref q0), (1, .int x1), (2, .int x2), (3, .int x3), (4, .double x4)] := hl
  have J155 : ∀ (vq0_thrown : Int32) (vq0_solved : Int32) (vq0_a : Nat → UInt64) (vq0_b : Nat → UInt64) (vq0_c : Nat → UInt64) (x1 : Int32) (x2 : Int32) (x3 : Int32) (x4 : UInt64) (y0 : UInt64), ∀ (H : Heap) (locs : List Loc) (ls : Array Slot), va_P D CL (w_M_set T q0 q0_a q0_b q0_c q0_rowScale q0_columnScale q0_sa q0_sb q0_sc q0_x q0_s q0_y q0_p q0_d q0_h q0_f q0_mm q0_low q0_dd q0_r q0_big q0_dt q0_dx q0_t q0_cost q0_rowScaleNow q0_columnScaleNow q0_basic q0_text q0_turned q0_na q0_nb q0_nc vq0_m vq0_n vq0_length vq0_where vq0_effort vq0_thrown vq0_at vq0_scaled vq0_solved vq0_second vq0_nm vq0_nn vq0_number vq0_bad vq0_a vq0_b vq0_c) H → va_D A (w_M_set T q0 q0_a q0_b q0_c q0_rowScale q0_columnScale q0_sa q0_sb q0_sc q0_x q0_s q0_y q0_p q0_d q0_h q0_f q0_mm q0_low q0_dd q0_r q0_big q0_dt q0_dx q0_t q0_cost q0_rowScaleNow q0_columnScaleNow q0_basic q0_text q0_turned q0_na q0_nb q0_nc vq0_m vq0_n vq0_length vq0_where vq0_effort vq0_thrown vq0_at vq0_scaled vq0_solved vq0_second vq0_nm vq0_nn vq0_number vq0_bad vq0_a vq0_b vq0_c) → va_S A s.heap H locs → lv_has ls 8 [(0, .ref q0), (1, .int x1), (2, .int x2), (3, .int x3), (4, .double x4)] → s_M_set_J155 vq0_m vq0_n vq0_length vq0_where vq0_effort vq0_thrown vq0_at vq0_scaled vq0_solved vq0_second vq0_nm vq0_nn vq0_number vq0_bad vq0_a vq0_b vq0_c x1 x2 x3 x4 y0 = some rm → W p l e (rmk 1 22) s m args below meth c H locs 0 0 Q (F0 m 155 ls [.double y0]) := by
    intro vq0_thrown vq0_solved vq0_a vq0_b vq0_c x1 x2 x3 x4 y0 H locs ls hP hD hS hl h
    unfold s_M_set_J155 at h
    refine lv_dstore (lv' := [(6, .double y0), (0, .ref q0), (1, .int x1), (2, .int x2), (3, .int x3), (4, .double x4)]) hx hb d_M_set_155 hl (by decide) rfl (fun ls hl => ?_)
    refine lv_iload_n hx hb d_M_set_157 rfl (lv_at hl 2 rfl) ?_
    refine lv_if_ne (tgt := 177) hx hb d_M_set_158 (by decide) (fun c1 => ?_) (fun c1 => ?_)
    · have h := it_f c1 h
      refine lv_iload_n hx hb d_M_set_177 rfl (lv_at hl 2 rfl) ?_
      refine lv_iconst (v := 1) hx hb d_M_set_178 (by decide) ?_
      refine lv_icmp_ne (tgt := 193) hx hb d_M_set_179 (by decide) (fun c2 => ?_) (fun c2 => ?_)
      · have h := it_f c2 h
        refine lv_aload_n hx hb d_M_set_193 rfl (lv_at hl 1 rfl) ?_
        refine va_get (D := D) (ci := 8) (v := .ref q0_c) (C := "ConeForgeModel") (T := FM) (N := 46) hx hb hts iM hown hK hP 0 rfl rfl 2 (by decide) (hts _ (bgc bw686)) (fun _ h9 => h9) rfl d_M_set_194 ?_
        refine lv_iload_n hx hb d_M_set_197 rfl (lv_at hl 4 rfl) ?_
        refine lv_dload hx hb d_M_set_198 (lv_at hl 5 rfl) ?_
        obtain ⟨g3, h⟩ := gd_some h
        refine va_dast hx hb hK hP hD hS 3 0 rfl rfl (inb_in g3) d_M_set_200 (fun H locs hP hD hS => ?_)
        have hP : va_P D CL (w_M_set T q0 q0_a q0_b q0_c q0_rowScale q0_columnScale q0_sa q0_sb q0_sc q0_x q0_s q0_y q0_p q0_d q0_h q0_f q0_mm q0_low q0_dd q0_r q0_big q0_dt q0_dx q0_t q0_cost q0_rowScaleNow q0_columnScaleNow q0_basic q0_text q0_turned q0_na q0_nb q0_nc vq0_m vq0_n vq0_length vq0_where vq0_effort vq0_thrown vq0_at vq0_scaled vq0_solved vq0_second vq0_nm vq0_nn vq0_number vq0_bad vq0_a vq0_b (vf_upd vq0_c x3.toNatClampNeg x4)) H := hP
        have hD : va_D A (w_M_set T q0 q0_a q0_b q0_c q0_rowScale q0_columnScale q0_sa q0_sb q0_sc q0_x q0_s q0_y q0_p q0_d q0_h q0_f q0_mm q0_low q0_dd q0_r q0_big q0_dt q0_dx q0_t q0_cost q0_rowScaleNow q0_columnScaleNow q0_basic q0_text q0_turned q0_na q0_nb q0_nc vq0_m vq0_n vq0_length vq0_where vq0_effort vq0_thrown vq0_at vq0_scaled vq0_solved vq0_second vq0_nm vq0_nn vq0_number vq0_bad vq0_a vq0_b (vf_upd vq0_c x3.toNatClampNeg x4)) := hD
        refine lv_dload hx hb d_M_set_201 (lv_at hl 0 rfl) ?_
        exact rtD hx hb hr hlocks hQ (Option.some.inj h) hP hS d_M_set_203 rfl rfl
      · have h := it_t c2 h
        refine lv_aload_n hx hb d_M_set_182 rfl (lv_at hl 1 rfl) ?_
        refine va_get (D := D) (ci := 8) (v := .ref q0_b) (C := "ConeForgeModel") (T := FM) (N := 46) hx hb hts iM hown hK hP 0 rfl rfl 1 (by decide) (hts _ (bgc bw685)) (fun _ h9 => h9) rfl d_M_set_183 ?_
        refine lv_iload_n hx hb d_M_set_186 rfl (lv_at hl 3 rfl) ?_
        refine lv_dload hx hb d_M_set_187 (lv_at hl 5 rfl) ?_
        obtain ⟨g4, h⟩ := gd_some h
        refine va_dast hx hb hK hP hD hS 2 0 rfl rfl (inb_in g4) d_M_set_189 (fun H locs hP hD hS => ?_)
        have hP : va_P D CL (w_M_set T q0 q0_a q0_b q0_c q0_rowScale q0_columnScale q0_sa q0_sb q0_sc q0_x q0_s q0_y q0_p q0_d q0_h q0_f q0_mm q0_low q0_dd q0_r q0_big q0_dt q0_dx q0_t q0_cost q0_rowScaleNow q0_columnScaleNow q0_basic q0_text q0_turned q0_na q0_nb q0_nc vq0_m vq0_n vq0_length vq0_where vq0_effort vq0_thrown vq0_at vq0_scaled vq0_solved vq0_second vq0_nm vq0_nn vq0_number vq0_bad vq0_a (vf_upd vq0_b x2.toNatClampNeg x4) vq0_c) H := hP
        have hD : va_D A (w_M_set T q0 q0_a q0_b q0_c q0_rowScale q0_columnScale q0_sa q0_sb q0_sc q0_x q0_s q0_y q0_p q0_d q0_h q0_f q0_mm q0_low q0_dd q0_r q0_big q0_dt q0_dx q0_t q0_cost q0_rowScaleNow q0_columnScaleNow q0_basic q0_text q0_turned q0_na q0_nb q0_nc vq0_m vq0_n vq0_length vq0_where vq0_effort vq0_thrown vq0_at vq0_scaled vq0_solved vq0_second vq0_nm vq0_nn vq0_number vq0_bad vq0_a (vf_upd vq0_b x2.toNatClampNeg x4) vq0_c) := hD
        refine lv_goto (tgt := 201) hx hb d_M_set_190 (by decide) ?_
        refine lv_dload hx hb d_M_set_201 (lv_at hl 0 rfl) ?_
        exact rtD hx hb hr hlocks hQ (Option.some.inj h) hP hS d_M_set_203 rfl rfl
    · have h := it_t c1 h
      refine lv_aload_n hx hb d_M_set_161 rfl (lv_at hl 1 rfl) ?_
      refine va_get (D := D) (ci := 8) (v := .ref q0_a) (C := "ConeForgeModel") (T := FM) (N := 46) hx hb hts iM hown hK hP 0 rfl rfl 0 (by decide) (hts _ (bgc bw684)) (fun _ h9 => h9) rfl d_M_set_162 ?_
      refine lv_bipush (v := 8) hx hb d_M_set_165 (by decide) ?_
      refine lv_iload_n hx hb d_M_set_167 rfl (lv_at hl 3 rfl) ?_
      refine lv_imul hx hb d_M_set_168 ?_
      refine lv_iload_n hx hb d_M_set_169 rfl (lv_at hl 4 rfl) ?_
      refine lv_iadd hx hb d_M_set_170 ?_
      refine lv_dload hx hb d_M_set_171 (lv_at hl 5 rfl) ?_
      obtain ⟨g5, h⟩ := gd_some h
      refine va_dast hx hb hK hP hD hS 1 0 rfl rfl (inb_in g5) d_M_set_173 (fun H locs hP hD hS => ?_)
      have hP : va_P D CL (w_M_set T q0 q0_a q0_b q0_c q0_rowScale q0_columnScale q0_sa q0_sb q0_sc q0_x q0_s q0_y q0_p q0_d q0_h q0_f q0_mm q0_low q0_dd q0_r q0_big q0_dt q0_dx q0_t q0_cost q0_rowScaleNow q0_columnScaleNow q0_basic q0_text q0_turned q0_na q0_nb q0_nc vq0_m vq0_n vq0_length vq0_where vq0_effort vq0_thrown vq0_at vq0_scaled vq0_solved vq0_second vq0_nm vq0_nn vq0_number vq0_bad (vf_upd vq0_a ((8 * x2) + x3).toNatClampNeg x4) vq0_b vq0_c) H := hP
      have hD : va_D A (w_M_set T q0 q0_a q0_b q0_c q0_rowScale q0_columnScale q0_sa q0_sb q0_sc q0_x q0_s q0_y q0_p q0_d q0_h q0_f q0_mm q0_low q0_dd q0_r q0_big q0_dt q0_dx q0_t q0_cost q0_rowScaleNow q0_columnScaleNow q0_basic q0_text q0_turned q0_na q0_nb q0_nc vq0_m vq0_n vq0_length vq0_where vq0_effort vq0_thrown vq0_at vq0_scaled vq0_solved vq0_second vq0_nm vq0_nn vq0_number vq0_bad (vf_upd vq0_a ((8 * x2) + x3).toNatClampNeg x4) vq0_b vq0_c) := hD
      refine lv_goto (tgt := 201) hx hb d_M_set_174 (by decide) ?_
      refine lv_dload hx hb d_M_set_201 (lv_at hl 0 rfl) ?_
      exact rtD hx hb hr hlocks hQ (Option.some.inj h) hP hS d_M_set_203 rfl rfl
  unfold s_M_set at h
  refine lv_aload_n hx hb d_M_set_0 rfl (lv_at hl 0 rfl) ?_
  refine lv_iload_n hx hb d_M_set_1 rfl (lv_at hl 1 rfl) ?_
  refine lv_iconst (v := 0) hx hb d_M_set_2 (by decide) ?_
  refine lv_iconst (v := 2) hx hb d_M_set_3 (by decide) ?_
  obtain ⟨u6, hu6, h⟩ := bi_some h
  refine kI (v := u6) (wc := (w_M_in T  )) (wc' := (w_M_in T  )) (runOS (As := [.int x1, .int 0, .int 2]) (rest := [.ref q0]) ((c_M_in l D T   x1 0 2 u6 hu6) H.size) ⟨hx, hb, hml, hown, hts⟩ (cwOS bw785 bw786 bw105 bw787 dd_M_in hts ⟨Nat.le_of_ble_eq_true rfl, Nat.le_of_ble_eq_true rfl⟩)  hNW hK hP hD [] rfl (by decide) rfl hl.1 rfl (lv_room (Nat.le_of_ble_eq_true rfl)) d_M_set_4 ⟨Nat.le_of_ble_eq_true rfl, Nat.le_of_ble_eq_true rfl⟩) hP hD hS hA [] rfl rfl (fun H locs hP hD hS => ?_)
  have hP : va_P D CL (w_M_set T q0 q0_a q0_b q0_c q0_rowScale q0_columnScale q0_sa q0_sb q0_sc q0_x q0_s q0_y q0_p q0_d q0_h q0_f q0_mm q0_low q0_dd q0_r q0_big q0_dt q0_dx q0_t q0_cost q0_rowScaleNow q0_columnScaleNow q0_basic q0_text q0_turned q0_na q0_nb q0_nc vq0_m vq0_n vq0_length vq0_where vq0_effort vq0_thrown vq0_at vq0_scaled vq0_solved vq0_second vq0_nm vq0_nn vq0_number vq0_bad vq0_a vq0_b vq0_c) H := hP
  have hD : va_D A (w_M_set T q0 q0_a q0_b q0_c q0_rowScale q0_columnScale q0_sa q0_sb q0_sc q0_x q0_s q0_y q0_p q0_d q0_h q0_f q0_mm q0_low q0_dd q0_r q0_big q0_dt q0_dx q0_t q0_cost q0_rowScaleNow q0_columnScaleNow q0_basic q0_text q0_turned q0_na q0_nb q0_nc vq0_m vq0_n vq0_length vq0_where vq0_effort vq0_thrown vq0_at vq0_scaled vq0_solved vq0_second vq0_nm vq0_nn vq0_number vq0_bad vq0_a vq0_b vq0_c) := hD
  refine lv_if_eq (tgt := 53) hx hb d_M_set_7 (by decide) (fun c7 => ?_) (fun c7 => ?_)
  · have h := it_t c7 h
    refine lv_iconst (v := 1) hx hb d_M_set_53 (by decide) ?_
    refine lv_goto (tgt := 100) hx hb d_M_set_54 (by decide) ?_
    refine va_put (D := D) (ci := 8) (v := .int 1) (ty := .int) (C := "ConeForgeModel") (T := FM) (N := 46) hx hb hts iM tM tM_ok nmM hown hK hP hD hS 0 rfl rfl 34 (by decide) (hts _ (bgc bw718)) (fun _ h9 => h9) rfl (by decide +kernel) rfl rfl (Nat.le_of_ble_eq_true rfl) d_M_set_100 (fun H locs hP hD hS => ?_)
    have hP : va_P D CL (w_M_set T q0 q0_a q0_b q0_c q0_rowScale q0_columnScale q0_sa q0_sb q0_sc q0_x q0_s q0_y q0_p q0_d q0_h q0_f q0_mm q0_low q0_dd q0_r q0_big q0_dt q0_dx q0_t q0_cost q0_rowScaleNow q0_columnScaleNow q0_basic q0_text q0_turned q0_na q0_nb q0_nc vq0_m vq0_n vq0_length vq0_where vq0_effort 1 vq0_at vq0_scaled vq0_solved vq0_second vq0_nm vq0_nn vq0_number vq0_bad vq0_a vq0_b vq0_c) H := hP
    have hD : va_D A (w_M_set T q0 q0_a q0_b q0_c q0_rowScale q0_columnScale q0_sa q0_sb q0_sc q0_x q0_s q0_y q0_p q0_d q0_h q0_f q0_mm q0_low q0_dd q0_r q0_big q0_dt q0_dx q0_t q0_cost q0_rowScaleNow q0_columnScaleNow q0_basic q0_text q0_turned q0_na q0_nb q0_nc vq0_m vq0_n vq0_length vq0_where vq0_effort 1 vq0_at vq0_scaled vq0_solved vq0_second vq0_nm vq0_nn vq0_number vq0_bad vq0_a vq0_b vq0_c) := hD
    refine lv_aload_n hx hb d_M_set_103 rfl (lv_at hl 0 rfl) ?_
    refine va_get (D := D) (ci := 8) (v := .int 1) (C := "ConeForgeModel") (T := FM) (N := 46) hx hb hts iM hown hK hP 0 rfl rfl 34 (by decide) (hts _ (bgc bw718)) (fun _ h9 => h9) rfl d_M_set_104 ?_
    refine lv_if_le (tgt := 112) hx hb d_M_set_107 (by decide) (fun c8 => ?_) (fun c8 => ?_)
    · have h := it_t c8 h
      refine lv_aload_n hx hb d_M_set_112 rfl (lv_at hl 0 rfl) ?_
      refine lv_iconst (v := 0) hx hb d_M_set_113 (by decide) ?_
      obtain ⟨g9, h⟩ := gd_some h
      refine va_put (D := D) (ci := 8) (v := .int 0) (ty := .boolean) (C := "ConeForgeModel") (T := FM) (N := 46) hx hb hts iM tM tM_ok nmM hown hK hP hD hS 0 rfl rfl 37 (by decide) (hts _ (bgc bw721)) (fun _ h9 => h9) rfl (by decide +kernel) (isb_n g9) (isb_f g9) (Nat.le_of_ble_eq_true rfl) d_M_set_114 (fun H locs hP hD hS => ?_)
      have hP : va_P D CL (w_M_set T q0 q0_a q0_b q0_c q0_rowScale q0_columnScale q0_sa q0_sb q0_sc q0_x q0_s q0_y q0_p q0_d q0_h q0_f q0_mm q0_low q0_dd q0_r q0_big q0_dt q0_dx q0_t q0_cost q0_rowScaleNow q0_columnScaleNow q0_basic q0_text q0_turned q0_na q0_nb q0_nc vq0_m vq0_n vq0_length vq0_where vq0_effort 1 vq0_at vq0_scaled 0 vq0_second vq0_nm vq0_nn vq0_number vq0_bad vq0_a vq0_b vq0_c) H := hP
      have hD : va_D A (w_M_set T q0 q0_a q0_b q0_c q0_rowScale q0_columnScale q0_sa q0_sb q0_sc q0_x q0_s q0_y q0_p q0_d q0_h q0_f q0_mm q0_low q0_dd q0_r q0_big q0_dt q0_dx q0_t q0_cost q0_rowScaleNow q0_columnScaleNow q0_basic q0_text q0_turned q0_na q0_nb q0_nc vq0_m vq0_n vq0_length vq0_where vq0_effort 1 vq0_at vq0_scaled 0 vq0_second vq0_nm vq0_nn vq0_number vq0_bad vq0_a vq0_b vq0_c) := hD
      refine lv_iload_n hx hb d_M_set_117 rfl (lv_at hl 1 rfl) ?_
      refine lv_if_ne (tgt := 135) hx hb d_M_set_118 (by decide) (fun c10 => ?_) (fun c10 => ?_)
      · have h := it_f c10 h
        refine lv_iload_n hx hb d_M_set_135 rfl (lv_at hl 1 rfl) ?_
        refine lv_iconst (v := 1) hx hb d_M_set_136 (by decide) ?_
        refine lv_icmp_ne (tgt := 149) hx hb d_M_set_137 (by decide) (fun c11 => ?_) (fun c11 => ?_)
        · have h := it_f c11 h
          refine lv_aload_n hx hb d_M_set_149 rfl (lv_at hl 0 rfl) ?_
          refine va_get (D := D) (ci := 8) (v := .ref q0_c) (C := "ConeForgeModel") (T := FM) (N := 46) hx hb hts iM hown hK hP 0 rfl rfl 2 (by decide) (hts _ (bgc bw686)) (fun _ h9 => h9) rfl d_M_set_150 ?_
          refine lv_iload_n hx hb d_M_set_153 rfl (lv_at hl 3 rfl) ?_
          obtain ⟨g12, h⟩ := gd_some h
          refine va_dald hx hb hK hP 3 0 rfl rfl (inb_in g12) d_M_set_154 ?_
          exact J155 1 0 vq0_a vq0_b vq0_c x1 x2 x3 x4 (vq0_c x3.toNatClampNeg) H locs ls hP hD hS (lv_sub hl [0, 1, 2, 3, 4] rfl) h
        · have h := it_t c11 h
          refine lv_aload_n hx hb d_M_set_140 rfl (lv_at hl 0 rfl) ?_
          refine va_get (D := D) (ci := 8) (v := .ref q0_b) (C := "ConeForgeModel") (T := FM) (N := 46) hx hb hts iM hown hK hP 0 rfl rfl 1 (by decide) (hts _ (bgc bw685)) (fun _ h9 => h9) rfl d_M_set_141 ?_
          refine lv_iload_n hx hb d_M_set_144 rfl (lv_at hl 2 rfl) ?_
          obtain ⟨g13, h⟩ := gd_some h
          refine va_dald hx hb hK hP 2 0 rfl rfl (inb_in g13) d_M_set_145 ?_
          refine lv_goto (tgt := 155) hx hb d_M_set_146 (by decide) ?_
          exact J155 1 0 vq0_a vq0_b vq0_c x1 x2 x3 x4 (vq0_b x2.toNatClampNeg) H locs ls hP hD hS (lv_sub hl [0, 1, 2, 3, 4] rfl) h
      · have h := it_t c10 h
        refine lv_aload_n hx hb d_M_set_121 rfl (lv_at hl 0 rfl) ?_
        refine va_get (D := D) (ci := 8) (v := .ref q0_a) (C := "ConeForgeModel") (T := FM) (N := 46) hx hb hts iM hown hK hP 0 rfl rfl 0 (by decide) (hts _ (bgc bw684)) (fun _ h9 => h9) rfl d_M_set_122 ?_
        refine lv_bipush (v := 8) hx hb d_M_set_125 (by decide) ?_
        refine lv_iload_n hx hb d_M_set_127 rfl (lv_at hl 2 rfl) ?_
        refine lv_imul hx hb d_M_set_128 ?_
        refine lv_iload_n hx hb d_M_set_129 rfl (lv_at hl 3 rfl) ?_
        refine lv_iadd hx hb d_M_set_130 ?_
        obtain ⟨g14, h⟩ := gd_some h
        refine va_dald hx hb hK hP 1 0 rfl rfl (inb_in g14) d_M_set_131 ?_
        refine lv_goto (tgt := 155) hx hb d_M_set_132 (by decide) ?_
        exact J155 1 0 vq0_a vq0_b vq0_c x1 x2 x3 x4 (vq0_a ((8 * x2) + x3).toNatClampNeg) H locs ls hP hD hS (lv_sub hl [0, 1, 2, 3, 4] rfl) h
    · have h := it_f c8 h
      refine lv_dconst0 hx hb d_M_set_110 ?_
      exact rtD hx hb hr hlocks hQ (Option.some.inj h) hP hS d_M_set_111 rfl rfl
  · have h := it_f c7 h
    refine lv_dload hx hb d_M_set_10 (lv_at hl 4 rfl) ?_
    refine lv_ldc2d (v := 4652007308841189376) hx hb hown (hts _ (bgc bw792)) d_M_set_12 ?_
    refine lv_dcmp hx hb d_M_set_15 ?_
    refine lv_if_gt (tgt := 53) hx hb d_M_set_16 (by decide) (fun c15 => ?_) (fun c15 => ?_)
    · have h := it_t c15 h
      refine lv_iconst (v := 1) hx hb d_M_set_53 (by decide) ?_
      refine lv_goto (tgt := 100) hx hb d_M_set_54 (by decide) ?_
      refine va_put (D := D) (ci := 8) (v := .int 1) (ty := .int) (C := "ConeForgeModel") (T := FM) (N := 46) hx hb hts iM tM tM_ok nmM hown hK hP hD hS 0 rfl rfl 34 (by decide) (hts _ (bgc bw718)) (fun _ h9 => h9) rfl (by decide +kernel) rfl rfl (Nat.le_of_ble_eq_true rfl) d_M_set_100 (fun H locs hP hD hS => ?_)
      have hP : va_P D CL (w_M_set T q0 q0_a q0_b q0_c q0_rowScale q0_columnScale q0_sa q0_sb q0_sc q0_x q0_s q0_y q0_p q0_d q0_h q0_f q0_mm q0_low q0_dd q0_r q0_big q0_dt q0_dx q0_t q0_cost q0_rowScaleNow q0_columnScaleNow q0_basic q0_text q0_turned q0_na q0_nb q0_nc vq0_m vq0_n vq0_length vq0_where vq0_effort 1 vq0_at vq0_scaled vq0_solved vq0_second vq0_nm vq0_nn vq0_number vq0_bad vq0_a vq0_b vq0_c) H := hP
      have hD : va_D A (w_M_set T q0 q0_a q0_b q0_c q0_rowScale q0_columnScale q0_sa q0_sb q0_sc q0_x q0_s q0_y q0_p q0_d q0_h q0_f q0_mm q0_low q0_dd q0_r q0_big q0_dt q0_dx q0_t q0_cost q0_rowScaleNow q0_columnScaleNow q0_basic q0_text q0_turned q0_na q0_nb q0_nc vq0_m vq0_n vq0_length vq0_where vq0_effort 1 vq0_at vq0_scaled vq0_solved vq0_second vq0_nm vq0_nn vq0_number vq0_bad vq0_a vq0_b vq0_c) := hD
      refine lv_aload_n hx hb d_M_set_103 rfl (lv_at hl 0 rfl) ?_
      refine va_get (D := D) (ci := 8) (v := .int 1) (C := "ConeForgeModel") (T := FM) (N := 46) hx hb hts iM hown hK hP 0 rfl rfl 34 (by decide) (hts _ (bgc bw718)) (fun _ h9 => h9) rfl d_M_set_104 ?_
      refine lv_if_le (tgt := 112) hx hb d_M_set_107 (by decide) (fun c16 => ?_) (fun c16 => ?_)
      · have h := it_t c16 h
        refine lv_aload_n hx hb d_M_set_112 rfl (lv_at hl 0 rfl) ?_
        refine lv_iconst (v := 0) hx hb d_M_set_113 (by decide) ?_
        obtain ⟨g17, h⟩ := gd_some h
        refine va_put (D := D) (ci := 8) (v := .int 0) (ty := .boolean) (C := "ConeForgeModel") (T := FM) (N := 46) hx hb hts iM tM tM_ok nmM hown hK hP hD hS 0 rfl rfl 37 (by decide) (hts _ (bgc bw721)) (fun _ h9 => h9) rfl (by decide +kernel) (isb_n g17) (isb_f g17) (Nat.le_of_ble_eq_true rfl) d_M_set_114 (fun H locs hP hD hS => ?_)
        have hP : va_P D CL (w_M_set T q0 q0_a q0_b q0_c q0_rowScale q0_columnScale q0_sa q0_sb q0_sc q0_x q0_s q0_y q0_p q0_d q0_h q0_f q0_mm q0_low q0_dd q0_r q0_big q0_dt q0_dx q0_t q0_cost q0_rowScaleNow q0_columnScaleNow q0_basic q0_text q0_turned q0_na q0_nb q0_nc vq0_m vq0_n vq0_length vq0_where vq0_effort 1 vq0_at vq0_scaled 0 vq0_second vq0_nm vq0_nn vq0_number vq0_bad vq0_a vq0_b vq0_c) H := hP
        have hD : va_D A (w_M_set T q0 q0_a q0_b q0_c q0_rowScale q0_columnScale q0_sa q0_sb q0_sc q0_x q0_s q0_y q0_p q0_d q0_h q0_f q0_mm q0_low q0_dd q0_r q0_big q0_dt q0_dx q0_t q0_cost q0_rowScaleNow q0_columnScaleNow q0_basic q0_text q0_turned q0_na q0_nb q0_nc vq0_m vq0_n vq0_length vq0_where vq0_effort 1 vq0_at vq0_scaled 0 vq0_second vq0_nm vq0_nn vq0_number vq0_bad vq0_a vq0_b vq0_c) := hD
        refine lv_iload_n hx hb d_M_set_117 rfl (lv_at hl 1 rfl) ?_
        refine lv_if_ne (tgt := 135) hx hb d_M_set_118 (by decide) (fun c18 => ?_) (fun c18 => ?_)
        · have h := it_f c18 h
          refine lv_iload_n hx hb d_M_set_135 rfl (lv_at hl 1 rfl) ?_
          refine lv_iconst (v := 1) hx hb d_M_set_136 (by decide) ?_
          refine lv_icmp_ne (tgt := 149) hx hb d_M_set_137 (by decide) (fun c19 => ?_) (fun c19 => ?_)
          · have h := it_f c19 h
            refine lv_aload_n hx hb d_M_set_149 rfl (lv_at hl 0 rfl) ?_
            refine va_get (D := D) (ci := 8) (v := .ref q0_c) (C := "ConeForgeModel") (T := FM) (N := 46) hx hb hts iM hown hK hP 0 rfl rfl 2 (by decide) (hts _ (bgc bw686)) (fun _ h9 => h9) rfl d_M_set_150 ?_
            refine lv_iload_n hx hb d_M_set_153 rfl (lv_at hl 3 rfl) ?_
            obtain ⟨g20, h⟩ := gd_some h
            refine va_dald hx hb hK hP 3 0 rfl rfl (inb_in g20) d_M_set_154 ?_
            exact J155 1 0 vq0_a vq0_b vq0_c x1 x2 x3 x4 (vq0_c x3.toNatClampNeg) H locs ls hP hD hS (lv_sub hl [0, 1, 2, 3, 4] rfl) h
          · have h := it_t c19 h
            refine lv_aload_n hx hb d_M_set_140 rfl (lv_at hl 0 rfl) ?_
            refine va_get (D := D) (ci := 8) (v := .ref q0_b) (C := "ConeForgeModel") (T := FM) (N := 46) hx hb hts iM hown hK hP 0 rfl rfl 1 (by decide) (hts _ (bgc bw685)) (fun _ h9 => h9) rfl d_M_set_141 ?_
            refine lv_iload_n hx hb d_M_set_144 rfl (lv_at hl 2 rfl) ?_
            obtain ⟨g21, h⟩ := gd_some h
            refine va_dald hx hb hK hP 2 0 rfl rfl (inb_in g21) d_M_set_145 ?_
            refine lv_goto (tgt := 155) hx hb d_M_set_146 (by decide) ?_
            exact J155 1 0 vq0_a vq0_b vq0_c x1 x2 x3 x4 (vq0_b x2.toNatClampNeg) H locs ls hP hD hS (lv_sub hl [0, 1, 2, 3, 4] rfl) h
        · have h := it_t c18 h
          refine lv_aload_n hx hb d_M_set_121 rfl (lv_at hl 0 rfl) ?_
          refine va_get (D := D) (ci := 8) (v := .ref q0_a) (C := "ConeForgeModel") (T := FM) (N := 46) hx hb hts iM hown hK hP 0 rfl rfl 0 (by decide) (hts _ (bgc bw684)) (fun _ h9 => h9) rfl d_M_set_122 ?_
          refine lv_bipush (v := 8) hx hb d_M_set_125 (by decide) ?_
          refine lv_iload_n hx hb d_M_set_127 rfl (lv_at hl 2 rfl) ?_
          refine lv_imul hx hb d_M_set_128 ?_
          refine lv_iload_n hx hb d_M_set_129 rfl (lv_at hl 3 rfl) ?_
          refine lv_iadd hx hb d_M_set_130 ?_
          obtain ⟨g22, h⟩ := gd_some h
          refine va_dald hx hb hK hP 1 0 rfl rfl (inb_in g22) d_M_set_131 ?_
          refine lv_goto (tgt := 155) hx hb d_M_set_132 (by decide) ?_
          exact J155 1 0 vq0_a vq0_b vq0_c x1 x2 x3 x4 (vq0_a ((8 * x2) + x3).toNatClampNeg) H locs ls hP hD hS (lv_sub hl [0, 1, 2, 3, 4] rfl) h
      · have h := it_f c16 h
        refine lv_dconst0 hx hb d_M_set_110 ?_
        exact rtD hx hb hr hlocks hQ (Option.some.inj h) hP hS d_M_set_111 rfl rfl
    · have h := it_f c15 h
      refine lv_dload hx hb d_M_set_19 (lv_at hl 4 rfl) ?_
      refine lv_ldc2d (v := 13875379345695965184) hx hb hown (hts _ (bgc bw793)) d_M_set_21 ?_
      refine lv_dcmp hx hb d_M_set_24 ?_
      refine lv_if_lt (tgt := 53) hx hb d_M_set_25 (by decide) (fun c23 => ?_) (fun c23 => ?_)
      · have h := it_t c23 h
        refine lv_iconst (v := 1) hx hb d_M_set_53 (by decide) ?_
        refine lv_goto (tgt := 100) hx hb d_M_set_54 (by decide) ?_
        refine va_put (D := D) (ci := 8) (v := .int 1) (ty := .int) (C := "ConeForgeModel") (T := FM) (N := 46) hx hb hts iM tM tM_ok nmM hown hK hP hD hS 0 rfl rfl 34 (by decide) (hts _ (bgc bw718)) (fun _ h9 => h9) rfl (by decide +kernel) rfl rfl (Nat.le_of_ble_eq_true rfl) d_M_set_100 (fun H locs hP hD hS => ?_)
        have hP : va_P D CL (w_M_set T q0 q0_a q0_b q0_c q0_rowScale q0_columnScale q0_sa q0_sb q0_sc q0_x q0_s q0_y q0_p q0_d q0_h q0_f q0_mm q0_low q0_dd q0_r q0_big q0_dt q0_dx q0_t q0_cost q0_rowScaleNow q0_columnScaleNow q0_basic q0_text q0_turned q0_na q0_nb q0_nc vq0_m vq0_n vq0_length vq0_where vq0_effort 1 vq0_at vq0_scaled vq0_solved vq0_second vq0_nm vq0_nn vq0_number vq0_bad vq0_a vq0_b vq0_c) H := hP
        have hD : va_D A (w_M_set T q0 q0_a q0_b q0_c q0_rowScale q0_columnScale q0_sa q0_sb q0_sc q0_x q0_s q0_y q0_p q0_d q0_h q0_f q0_mm q0_low q0_dd q0_r q0_big q0_dt q0_dx q0_t q0_cost q0_rowScaleNow q0_columnScaleNow q0_basic q0_text q0_turned q0_na q0_nb q0_nc vq0_m vq0_n vq0_length vq0_where vq0_effort 1 vq0_at vq0_scaled vq0_solved vq0_second vq0_nm vq0_nn vq0_number vq0_bad vq0_a vq0_b vq0_c) := hD
        refine lv_aload_n hx hb d_M_set_103 rfl (lv_at hl 0 rfl) ?_
        refine va_get (D := D) (ci := 8) (v := .int 1) (C := "ConeForgeModel") (T := FM) (N := 46) hx hb hts iM hown hK hP 0 rfl rfl 34 (by decide) (hts _ (bgc bw718)) (fun _ h9 => h9) rfl d_M_set_104 ?_
        refine lv_if_le (tgt := 112) hx hb d_M_set_107 (by decide) (fun c24 => ?_) (fun c24 => ?_)
        · have h := it_t c24 h
          refine lv_aload_n hx hb d_M_set_112 rfl (lv_at hl 0 rfl) ?_
          refine lv_iconst (v := 0) hx hb d_M_set_113 (by decide) ?_
          obtain ⟨g25, h⟩ := gd_some h
          refine va_put (D := D) (ci := 8) (v := .int 0) (ty := .boolean) (C := "ConeForgeModel") (T := FM) (N := 46) hx hb hts iM tM tM_ok nmM hown hK hP hD hS 0 rfl rfl 37 (by decide) (hts _ (bgc bw721)) (fun _ h9 => h9) rfl (by decide +kernel) (isb_n g25) (isb_f g25) (Nat.le_of_ble_eq_true rfl) d_M_set_114 (fun H locs hP hD hS => ?_)
          have hP : va_P D CL (w_M_set T q0 q0_a q0_b q0_c q0_rowScale q0_columnScale q0_sa q0_sb q0_sc q0_x q0_s q0_y q0_p q0_d q0_h q0_f q0_mm q0_low q0_dd q0_r q0_big q0_dt q0_dx q0_t q0_cost q0_rowScaleNow q0_columnScaleNow q0_basic q0_text q0_turned q0_na q0_nb q0_nc vq0_m vq0_n vq0_length vq0_where vq0_effort 1 vq0_at vq0_scaled 0 vq0_second vq0_nm vq0_nn vq0_number vq0_bad vq0_a vq0_b vq0_c) H := hP
          have hD : va_D A (w_M_set T q0 q0_a q0_b q0_c q0_rowScale q0_columnScale q0_sa q0_sb q0_sc q0_x q0_s q0_y q0_p q0_d q0_h q0_f q0_mm q0_low q0_dd q0_r q0_big q0_dt q0_dx q0_t q0_cost q0_rowScaleNow q0_columnScaleNow q0_basic q0_text q0_turned q0_na q0_nb q0_nc vq0_m vq0_n vq0_length vq0_where vq0_effort 1 vq0_at vq0_scaled 0 vq0_second vq0_nm vq0_nn vq0_number vq0_bad vq0_a vq0_b vq0_c) := hD
          refine lv_iload_n hx hb d_M_set_117 rfl (lv_at hl 1 rfl) ?_
          refine lv_if_ne (tgt := 135) hx hb d_M_set_118 (by decide) (fun c26 => ?_) (fun c26 => ?_)
          · have h := it_f c26 h
            refine lv_iload_n hx hb d_M_set_135 rfl (lv_at hl 1 rfl) ?_
            refine lv_iconst (v := 1) hx hb d_M_set_136 (by decide) ?_
            refine lv_icmp_ne (tgt := 149) hx hb d_M_set_137 (by decide) (fun c27 => ?_) (fun c27 => ?_)
            · have h := it_f c27 h
              refine lv_aload_n hx hb d_M_set_149 rfl (lv_at hl 0 rfl) ?_
              refine va_get (D := D) (ci := 8) (v := .ref q0_c) (C := "ConeForgeModel") (T := FM) (N := 46) hx hb hts iM hown hK hP 0 rfl rfl 2 (by decide) (hts _ (bgc bw686)) (fun _ h9 => h9) rfl d_M_set_150 ?_
              refine lv_iload_n hx hb d_M_set_153 rfl (lv_at hl 3 rfl) ?_
              obtain ⟨g28, h⟩ := gd_some h
              refine va_dald hx hb hK hP 3 0 rfl rfl (inb_in g28) d_M_set_154 ?_
              exact J155 1 0 vq0_a vq0_b vq0_c x1 x2 x3 x4 (vq0_c x3.toNatClampNeg) H locs ls hP hD hS (lv_sub hl [0, 1, 2, 3, 4] rfl) h
            · have h := it_t c27 h
              refine lv_aload_n hx hb d_M_set_140 rfl (lv_at hl 0 rfl) ?_
              refine va_get (D := D) (ci := 8) (v := .ref q0_b) (C := "ConeForgeModel") (T := FM) (N := 46) hx hb hts iM hown hK hP 0 rfl rfl 1 (by decide) (hts _ (bgc bw685)) (fun _ h9 => h9) rfl d_M_set_141 ?_
              refine lv_iload_n hx hb d_M_set_144 rfl (lv_at hl 2 rfl) ?_
              obtain ⟨g29, h⟩ := gd_some h
              refine va_dald hx hb hK hP 2 0 rfl rfl (inb_in g29) d_M_set_145 ?_
              refine lv_goto (tgt := 155) hx hb d_M_set_146 (by decide) ?_
              exact J155 1 0 vq0_a vq0_b vq0_c x1 x2 x3 x4 (vq0_b x2.toNatClampNeg) H locs ls hP hD hS (lv_sub hl [0, 1, 2, 3, 4] rfl) h
          · have h := it_t c26 h
            refine lv_aload_n hx hb d_M_set_121 rfl (lv_at hl 0 rfl) ?_
            refine va_get (D := D) (ci := 8) (v := .ref q0_a) (C := "ConeForgeModel") (T := FM) (N := 46) hx hb hts iM hown hK hP 0 rfl rfl 0 (by decide) (hts _ (bgc bw684)) (fun _ h9 => h9) rfl d_M_set_122 ?_
            refine lv_bipush (v := 8) hx hb d_M_set_125 (by decide) ?_
            refine lv_iload_n hx hb d_M_set_127 rfl (lv_at hl 2 rfl) ?_
            refine lv_imul hx hb d_M_set_128 ?_
            refine lv_iload_n hx hb d_M_set_129 rfl (lv_at hl 3 rfl) ?_
            refine lv_iadd hx hb d_M_set_130 ?_
            obtain ⟨g30, h⟩ := gd_some h
            refine va_dald hx hb hK hP 1 0 rfl rfl (inb_in g30) d_M_set_131 ?_
            refine lv_goto (tgt := 155) hx hb d_M_set_132 (by decide) ?_
            exact J155 1 0 vq0_a vq0_b vq0_c x1 x2 x3 x4 (vq0_a ((8 * x2) + x3).toNatClampNeg) H locs ls hP hD hS (lv_sub hl [0, 1, 2, 3, 4] rfl) h
        · have h := it_f c24 h
          refine lv_dconst0 hx hb d_M_set_110 ?_
          exact rtD hx hb hr hlocks hQ (Option.some.inj h) hP hS d_M_set_111 rfl rfl
      · have h := it_f c23 h
        refine lv_dload hx hb d_M_set_28 (lv_at hl 4 rfl) ?_
        refine lv_dconst0 hx hb d_M_set_30 ?_
        refine lv_dcmp hx hb d_M_set_31 ?_
        refine lv_if_eq (tgt := 57) hx hb d_M_set_32 (by decide) (fun c31 => ?_) (fun c31 => ?_)
        · have h := it_t c31 h
          refine lv_iload_n hx hb d_M_set_57 rfl (lv_at hl 1 rfl) ?_
          refine lv_iconst (v := 2) hx hb d_M_set_58 (by decide) ?_
          refine lv_icmp_ge (tgt := 76) hx hb d_M_set_59 (by decide) (fun c32 => ?_) (fun c32 => ?_)
          · have h := it_t c32 h
            refine lv_iload_n hx hb d_M_set_76 rfl (lv_at hl 1 rfl) ?_
            refine lv_iconst (v := 1) hx hb d_M_set_77 (by decide) ?_
            refine lv_icmp_eq (tgt := 99) hx hb d_M_set_78 (by decide) (fun c33 => ?_) (fun c33 => ?_)
            · have h := it_t c33 h
              refine lv_iconst (v := 0) hx hb d_M_set_99 (by decide) ?_
              refine va_put (D := D) (ci := 8) (v := .int 0) (ty := .int) (C := "ConeForgeModel") (T := FM) (N := 46) hx hb hts iM tM tM_ok nmM hown hK hP hD hS 0 rfl rfl 34 (by decide) (hts _ (bgc bw718)) (fun _ h9 => h9) rfl (by decide +kernel) rfl rfl (Nat.le_of_ble_eq_true rfl) d_M_set_100 (fun H locs hP hD hS => ?_)
              have hP : va_P D CL (w_M_set T q0 q0_a q0_b q0_c q0_rowScale q0_columnScale q0_sa q0_sb q0_sc q0_x q0_s q0_y q0_p q0_d q0_h q0_f q0_mm q0_low q0_dd q0_r q0_big q0_dt q0_dx q0_t q0_cost q0_rowScaleNow q0_columnScaleNow q0_basic q0_text q0_turned q0_na q0_nb q0_nc vq0_m vq0_n vq0_length vq0_where vq0_effort 0 vq0_at vq0_scaled vq0_solved vq0_second vq0_nm vq0_nn vq0_number vq0_bad vq0_a vq0_b vq0_c) H := hP
              have hD : va_D A (w_M_set T q0 q0_a q0_b q0_c q0_rowScale q0_columnScale q0_sa q0_sb q0_sc q0_x q0_s q0_y q0_p q0_d q0_h q0_f q0_mm q0_low q0_dd q0_r q0_big q0_dt q0_dx q0_t q0_cost q0_rowScaleNow q0_columnScaleNow q0_basic q0_text q0_turned q0_na q0_nb q0_nc vq0_m vq0_n vq0_length vq0_where vq0_effort 0 vq0_at vq0_scaled vq0_solved vq0_second vq0_nm vq0_nn vq0_number vq0_bad vq0_a vq0_b vq0_c) := hD
              refine lv_aload_n hx hb d_M_set_103 rfl (lv_at hl 0 rfl) ?_
              refine va_get (D := D) (ci := 8) (v := .int 0) (C := "ConeForgeModel") (T := FM) (N := 46) hx hb hts iM hown hK hP 0 rfl rfl 34 (by decide) (hts _ (bgc bw718)) (fun _ h9 => h9) rfl d_M_set_104 ?_
              refine lv_if_le (tgt := 112) hx hb d_M_set_107 (by decide) (fun c34 => ?_) (fun c34 => ?_)
              · have h := it_t c34 h
                refine lv_aload_n hx hb d_M_set_112 rfl (lv_at hl 0 rfl) ?_
                refine lv_iconst (v := 0) hx hb d_M_set_113 (by decide) ?_
                obtain ⟨g35, h⟩ := gd_some h
                refine va_put (D := D) (ci := 8) (v := .int 0) (ty := .boolean) (C := "ConeForgeModel") (T := FM) (N := 46) hx hb hts iM tM tM_ok nmM hown hK hP hD hS 0 rfl rfl 37 (by decide) (hts _ (bgc bw721)) (fun _ h9 => h9) rfl (by decide +kernel) (isb_n g35) (isb_f g35) (Nat.le_of_ble_eq_true rfl) d_M_set_114 (fun H locs hP hD hS => ?_)
                have hP : va_P D CL (w_M_set T q0 q0_a q0_b q0_c q0_rowScale q0_columnScale q0_sa q0_sb q0_sc q0_x q0_s q0_y q0_p q0_d q0_h q0_f q0_mm q0_low q0_dd q0_r q0_big q0_dt q0_dx q0_t q0_cost q0_rowScaleNow q0_columnScaleNow q0_basic q0_text q0_turned q0_na q0_nb q0_nc vq0_m vq0_n vq0_length vq0_where vq0_effort 0 vq0_at vq0_scaled 0 vq0_second vq0_nm vq0_nn vq0_number vq0_bad vq0_a vq0_b vq0_c) H := hP
                have hD : va_D A (w_M_set T q0 q0_a q0_b q0_c q0_rowScale q0_columnScale q0_sa q0_sb q0_sc q0_x q0_s q0_y q0_p q0_d q0_h q0_f q0_mm q0_low q0_dd q0_r q0_big q0_dt q0_dx q0_t q0_cost q0_rowScaleNow q0_columnScaleNow q0_basic q0_text q0_turned q0_na q0_nb q0_nc vq0_m vq0_n vq0_length vq0_where vq0_effort 0 vq0_at vq0_scaled 0 vq0_second vq0_nm vq0_nn vq0_number vq0_bad vq0_a vq0_b vq0_c) := hD
                refine lv_iload_n hx hb d_M_set_117 rfl (lv_at hl 1 rfl) ?_
                refine lv_if_ne (tgt := 135) hx hb d_M_set_118 (by decide) (fun c36 => ?_) (fun c36 => ?_)
                · have h := it_f c36 h
                  refine lv_iload_n hx hb d_M_set_135 rfl (lv_at hl 1 rfl) ?_
                  refine lv_iconst (v := 1) hx hb d_M_set_136 (by decide) ?_
                  refine lv_icmp_ne (tgt := 149) hx hb d_M_set_137 (by decide) (fun c37 => ?_) (fun c37 => ?_)
                  · have h := it_f c37 h
                    refine lv_aload_n hx hb d_M_set_149 rfl (lv_at hl 0 rfl) ?_
                    refine va_get (D := D) (ci := 8) (v := .ref q0_c) (C := "ConeForgeModel") (T := FM) (N := 46) hx hb hts iM hown hK hP 0 rfl rfl 2 (by decide) (hts _ (bgc bw686)) (fun _ h9 => h9) rfl d_M_set_150 ?_
                    refine lv_iload_n hx hb d_M_set_153 rfl (lv_at hl 3 rfl) ?_
                    obtain ⟨g38, h⟩ := gd_some h
                    refine va_dald hx hb hK hP 3 0 rfl rfl (inb_in g38) d_M_set_154 ?_
                    exact J155 0 0 vq0_a vq0_b vq0_c x1 x2 x3 x4 (vq0_c x3.toNatClampNeg) H locs ls hP hD hS (lv_sub hl [0, 1, 2, 3, 4] rfl) h
                  · have h := it_t c37 h
                    refine lv_aload_n hx hb d_M_set_140 rfl (lv_at hl 0 rfl) ?_
                    refine va_get (D := D) (ci := 8) (v := .ref q0_b) (C := "ConeForgeModel") (T := FM) (N := 46) hx hb hts iM hown hK hP 0 rfl rfl 1 (by decide) (hts _ (bgc bw685)) (fun _ h9 => h9) rfl d_M_set_141 ?_
                    refine lv_iload_n hx hb d_M_set_144 rfl (lv_at hl 2 rfl) ?_
                    obtain ⟨g39, h⟩ := gd_some h
                    refine va_dald hx hb hK hP 2 0 rfl rfl (inb_in g39) d_M_set_145 ?_
                    refine lv_goto (tgt := 155) hx hb d_M_set_146 (by decide) ?_
                    exact J155 0 0 vq0_a vq0_b vq0_c x1 x2 x3 x4 (vq0_b x2.toNatClampNeg) H locs ls hP hD hS (lv_sub hl [0, 1, 2, 3, 4] rfl) h
                · have h := it_t c36 h
                  refine lv_aload_n hx hb d_M_set_121 rfl (lv_at hl 0 rfl) ?_
                  refine va_get (D := D) (ci := 8) (v := .ref q0_a) (C := "ConeForgeModel") (T := FM) (N := 46) hx hb hts iM hown hK hP 0 rfl rfl 0 (by decide) (hts _ (bgc bw684)) (fun _ h9 => h9) rfl d_M_set_122 ?_
                  refine lv_bipush (v := 8) hx hb d_M_set_125 (by decide) ?_
                  refine lv_iload_n hx hb d_M_set_127 rfl (lv_at hl 2 rfl) ?_
                  refine lv_imul hx hb d_M_set_128 ?_
                  refine lv_iload_n hx hb d_M_set_129 rfl (lv_at hl 3 rfl) ?_
                  refine lv_iadd hx hb d_M_set_130 ?_
                  obtain ⟨g40, h⟩ := gd_some h
                  refine va_dald hx hb hK hP 1 0 rfl rfl (inb_in g40) d_M_set_131 ?_
                  refine lv_goto (tgt := 155) hx hb d_M_set_132 (by decide) ?_
                  exact J155 0 0 vq0_a vq0_b vq0_c x1 x2 x3 x4 (vq0_a ((8 * x2) + x3).toNatClampNeg) H locs ls hP hD hS (lv_sub hl [0, 1, 2, 3, 4] rfl) h
              · have h := it_f c34 h
                refine lv_dconst0 hx hb d_M_set_110 ?_
                exact rtD hx hb hr hlocks hQ (Option.some.inj h) hP hS d_M_set_111 rfl rfl
            · have h := it_f c33 h
              refine lv_iload_n hx hb d_M_set_81 rfl (lv_at hl 3 rfl) ?_
              refine lv_iconst (v := 0) hx hb d_M_set_82 (by decide) ?_
              refine lv_aload_n hx hb d_M_set_83 rfl (lv_at hl 0 rfl) ?_
              refine va_get (D := D) (ci := 8) (v := .int vq0_n) (C := "ConeForgeModel") (T := FM) (N := 46) hx hb hts iM hown hK hP 0 rfl rfl 30 (by decide) (hts _ (bgc bw714)) (fun _ h9 => h9) rfl d_M_set_84 ?_
              refine lv_iconst (v := 1) hx hb d_M_set_87 (by decide) ?_
              refine lv_isub hx hb d_M_set_88 ?_
              obtain ⟨u41, hu41, h⟩ := bi_some h
              refine kI (v := u41) (wc := (w_M_in T  )) (wc' := (w_M_in T  )) (runOS (As := [.int x3, .int 0, .int (vq0_n - 1)]) (rest := [.ref q0]) ((c_M_in l D T   x3 0 (vq0_n - 1) u41 hu41) H.size) ⟨hx, hb, hml, hown, hts⟩ (cwOS bw785 bw786 bw105 bw787 dd_M_in hts ⟨Nat.le_of_ble_eq_true rfl, Nat.le_of_ble_eq_true rfl⟩)  hNW hK hP hD [] rfl (by decide) rfl hl.1 rfl (lv_room (Nat.le_of_ble_eq_true rfl)) d_M_set_89 ⟨Nat.le_of_ble_eq_true rfl, Nat.le_of_ble_eq_true rfl⟩) hP hD hS hA [] rfl rfl (fun H locs hP hD hS => ?_)
              have hP : va_P D CL (w_M_set T q0 q0_a q0_b q0_c q0_rowScale q0_columnScale q0_sa q0_sb q0_sc q0_x q0_s q0_y q0_p q0_d q0_h q0_f q0_mm q0_low q0_dd q0_r q0_big q0_dt q0_dx q0_t q0_cost q0_rowScaleNow q0_columnScaleNow q0_basic q0_text q0_turned q0_na q0_nb q0_nc vq0_m vq0_n vq0_length vq0_where vq0_effort vq0_thrown vq0_at vq0_scaled vq0_solved vq0_second vq0_nm vq0_nn vq0_number vq0_bad vq0_a vq0_b vq0_c) H := hP
              have hD : va_D A (w_M_set T q0 q0_a q0_b q0_c q0_rowScale q0_columnScale q0_sa q0_sb q0_sc q0_x q0_s q0_y q0_p q0_d q0_h q0_f q0_mm q0_low q0_dd q0_r q0_big q0_dt q0_dx q0_t q0_cost q0_rowScaleNow q0_columnScaleNow q0_basic q0_text q0_turned q0_na q0_nb q0_nc vq0_m vq0_n vq0_length vq0_where vq0_effort vq0_thrown vq0_at vq0_scaled vq0_solved vq0_second vq0_nm vq0_nn vq0_number vq0_bad vq0_a vq0_b vq0_c) := hD
              refine lv_if_ne (tgt := 99) hx hb d_M_set_92 (by decide) (fun c42 => ?_) (fun c42 => ?_)
              · have h := it_f c42 h
                refine lv_iconst (v := 0) hx hb d_M_set_99 (by decide) ?_
                refine va_put (D := D) (ci := 8) (v := .int 0) (ty := .int) (C := "ConeForgeModel") (T := FM) (N := 46) hx hb hts iM tM tM_ok nmM hown hK hP hD hS 0 rfl rfl 34 (by decide) (hts _ (bgc bw718)) (fun _ h9 => h9) rfl (by decide +kernel) rfl rfl (Nat.le_of_ble_eq_true rfl) d_M_set_100 (fun H locs hP hD hS => ?_)
                have hP : va_P D CL (w_M_set T q0 q0_a q0_b q0_c q0_rowScale q0_columnScale q0_sa q0_sb q0_sc q0_x q0_s q0_y q0_p q0_d q0_h q0_f q0_mm q0_low q0_dd q0_r q0_big q0_dt q0_dx q0_t q0_cost q0_rowScaleNow q0_columnScaleNow q0_basic q0_text q0_turned q0_na q0_nb q0_nc vq0_m vq0_n vq0_length vq0_where vq0_effort 0 vq0_at vq0_scaled vq0_solved vq0_second vq0_nm vq0_nn vq0_number vq0_bad vq0_a vq0_b vq0_c) H := hP
                have hD : va_D A (w_M_set T q0 q0_a q0_b q0_c q0_rowScale q0_columnScale q0_sa q0_sb q0_sc q0_x q0_s q0_y q0_p q0_d q0_h q0_f q0_mm q0_low q0_dd q0_r q0_big q0_dt q0_dx q0_t q0_cost q0_rowScaleNow q0_columnScaleNow q0_basic q0_text q0_turned q0_na q0_nb q0_nc vq0_m vq0_n vq0_length vq0_where vq0_effort 0 vq0_at vq0_scaled vq0_solved vq0_second vq0_nm vq0_nn vq0_number vq0_bad vq0_a vq0_b vq0_c) := hD
                refine lv_aload_n hx hb d_M_set_103 rfl (lv_at hl 0 rfl) ?_
                refine va_get (D := D) (ci := 8) (v := .int 0) (C := "ConeForgeModel") (T := FM) (N := 46) hx hb hts iM hown hK hP 0 rfl rfl 34 (by decide) (hts _ (bgc bw718)) (fun _ h9 => h9) rfl d_M_set_104 ?_
                refine lv_if_le (tgt := 112) hx hb d_M_set_107 (by decide) (fun c43 => ?_) (fun c43 => ?_)
                · have h := it_t c43 h
                  refine lv_aload_n hx hb d_M_set_112 rfl (lv_at hl 0 rfl) ?_
                  refine lv_iconst (v := 0) hx hb d_M_set_113 (by decide) ?_
                  obtain ⟨g44, h⟩ := gd_some h
                  refine va_put (D := D) (ci := 8) (v := .int 0) (ty := .boolean) (C := "ConeForgeModel") (T := FM) (N := 46) hx hb hts iM tM tM_ok nmM hown hK hP hD hS 0 rfl rfl 37 (by decide) (hts _ (bgc bw721)) (fun _ h9 => h9) rfl (by decide +kernel) (isb_n g44) (isb_f g44) (Nat.le_of_ble_eq_true rfl) d_M_set_114 (fun H locs hP hD hS => ?_)
                  have hP : va_P D CL (w_M_set T q0 q0_a q0_b q0_c q0_rowScale q0_columnScale q0_sa q0_sb q0_sc q0_x q0_s q0_y q0_p q0_d q0_h q0_f q0_mm q0_low q0_dd q0_r q0_big q0_dt q0_dx q0_t q0_cost q0_rowScaleNow q0_columnScaleNow q0_basic q0_text q0_turned q0_na q0_nb q0_nc vq0_m vq0_n vq0_length vq0_where vq0_effort 0 vq0_at vq0_scaled 0 vq0_second vq0_nm vq0_nn vq0_number vq0_bad vq0_a vq0_b vq0_c) H := hP
                  have hD : va_D A (w_M_set T q0 q0_a q0_b q0_c q0_rowScale q0_columnScale q0_sa q0_sb q0_sc q0_x q0_s q0_y q0_p q0_d q0_h q0_f q0_mm q0_low q0_dd q0_r q0_big q0_dt q0_dx q0_t q0_cost q0_rowScaleNow q0_columnScaleNow q0_basic q0_text q0_turned q0_na q0_nb q0_nc vq0_m vq0_n vq0_length vq0_where vq0_effort 0 vq0_at vq0_scaled 0 vq0_second vq0_nm vq0_nn vq0_number vq0_bad vq0_a vq0_b vq0_c) := hD
                  refine lv_iload_n hx hb d_M_set_117 rfl (lv_at hl 1 rfl) ?_
                  refine lv_if_ne (tgt := 135) hx hb d_M_set_118 (by decide) (fun c45 => ?_) (fun c45 => ?_)
                  · have h := it_f c45 h
                    refine lv_iload_n hx hb d_M_set_135 rfl (lv_at hl 1 rfl) ?_
                    refine lv_iconst (v := 1) hx hb d_M_set_136 (by decide) ?_
                    refine lv_icmp_ne (tgt := 149) hx hb d_M_set_137 (by decide) (fun c46 => ?_) (fun c46 => ?_)
                    · have h := it_f c46 h
                      refine lv_aload_n hx hb d_M_set_149 rfl (lv_at hl 0 rfl) ?_
                      refine va_get (D := D) (ci := 8) (v := .ref q0_c) (C := "ConeForgeModel") (T := FM) (N := 46) hx hb hts iM hown hK hP 0 rfl rfl 2 (by decide) (hts _ (bgc bw686)) (fun _ h9 => h9) rfl d_M_set_150 ?_
                      refine lv_iload_n hx hb d_M_set_153 rfl (lv_at hl 3 rfl) ?_
                      obtain ⟨g47, h⟩ := gd_some h
                      refine va_dald hx hb hK hP 3 0 rfl rfl (inb_in g47) d_M_set_154 ?_
                      exact J155 0 0 vq0_a vq0_b vq0_c x1 x2 x3 x4 (vq0_c x3.toNatClampNeg) H locs ls hP hD hS (lv_sub hl [0, 1, 2, 3, 4] rfl) h
                    · have h := it_t c46 h
                      refine lv_aload_n hx hb d_M_set_140 rfl (lv_at hl 0 rfl) ?_
                      refine va_get (D := D) (ci := 8) (v := .ref q0_b) (C := "ConeForgeModel") (T := FM) (N := 46) hx hb hts iM hown hK hP 0 rfl rfl 1 (by decide) (hts _ (bgc bw685)) (fun _ h9 => h9) rfl d_M_set_141 ?_
                      refine lv_iload_n hx hb d_M_set_144 rfl (lv_at hl 2 rfl) ?_
                      obtain ⟨g48, h⟩ := gd_some h
                      refine va_dald hx hb hK hP 2 0 rfl rfl (inb_in g48) d_M_set_145 ?_
                      refine lv_goto (tgt := 155) hx hb d_M_set_146 (by decide) ?_
                      exact J155 0 0 vq0_a vq0_b vq0_c x1 x2 x3 x4 (vq0_b x2.toNatClampNeg) H locs ls hP hD hS (lv_sub hl [0, 1, 2, 3, 4] rfl) h
                  · have h := it_t c45 h
                    refine lv_aload_n hx hb d_M_set_121 rfl (lv_at hl 0 rfl) ?_
                    refine va_get (D := D) (ci := 8) (v := .ref q0_a) (C := "ConeForgeModel") (T := FM) (N := 46) hx hb hts iM hown hK hP 0 rfl rfl 0 (by decide) (hts _ (bgc bw684)) (fun _ h9 => h9) rfl d_M_set_122 ?_
                    refine lv_bipush (v := 8) hx hb d_M_set_125 (by decide) ?_
                    refine lv_iload_n hx hb d_M_set_127 rfl (lv_at hl 2 rfl) ?_
                    refine lv_imul hx hb d_M_set_128 ?_
                    refine lv_iload_n hx hb d_M_set_129 rfl (lv_at hl 3 rfl) ?_
                    refine lv_iadd hx hb d_M_set_130 ?_
                    obtain ⟨g49, h⟩ := gd_some h
                    refine va_dald hx hb hK hP 1 0 rfl rfl (inb_in g49) d_M_set_131 ?_
                    refine lv_goto (tgt := 155) hx hb d_M_set_132 (by decide) ?_
                    exact J155 0 0 vq0_a vq0_b vq0_c x1 x2 x3 x4 (vq0_a ((8 * x2) + x3).toNatClampNeg) H locs ls hP hD hS (lv_sub hl [0, 1, 2, 3, 4] rfl) h
                · have h := it_f c43 h
                  refine lv_dconst0 hx hb d_M_set_110 ?_
                  exact rtD hx hb hr hlocks hQ (Option.some.inj h) hP hS d_M_set_111 rfl rfl
              · have h := it_t c42 h
                refine lv_iconst (v := 2) hx hb d_M_set_95 (by decide) ?_
                refine lv_goto (tgt := 100) hx hb d_M_set_96 (by decide) ?_
                refine va_put (D := D) (ci := 8) (v := .int 2) (ty := .int) (C := "ConeForgeModel") (T := FM) (N := 46) hx hb hts iM tM tM_ok nmM hown hK hP hD hS 0 rfl rfl 34 (by decide) (hts _ (bgc bw718)) (fun _ h9 => h9) rfl (by decide +kernel) rfl rfl (Nat.le_of_ble_eq_true rfl) d_M_set_100 (fun H locs hP hD hS => ?_)
                have hP : va_P D CL (w_M_set T q0 q0_a q0_b q0_c q0_rowScale q0_columnScale q0_sa q0_sb q0_sc q0_x q0_s q0_y q0_p q0_d q0_h q0_f q0_mm q0_low q0_dd q0_r q0_big q0_dt q0_dx q0_t q0_cost q0_rowScaleNow q0_columnScaleNow q0_basic q0_text q0_turned q0_na q0_nb q0_nc vq0_m vq0_n vq0_length vq0_where vq0_effort 2 vq0_at vq0_scaled vq0_solved vq0_second vq0_nm vq0_nn vq0_number vq0_bad vq0_a vq0_b vq0_c) H := hP
                have hD : va_D A (w_M_set T q0 q0_a q0_b q0_c q0_rowScale q0_columnScale q0_sa q0_sb q0_sc q0_x q0_s q0_y q0_p q0_d q0_h q0_f q0_mm q0_low q0_dd q0_r q0_big q0_dt q0_dx q0_t q0_cost q0_rowScaleNow q0_columnScaleNow q0_basic q0_text q0_turned q0_na q0_nb q0_nc vq0_m vq0_n vq0_length vq0_where vq0_effort 2 vq0_at vq0_scaled vq0_solved vq0_second vq0_nm vq0_nn vq0_number vq0_bad vq0_a vq0_b vq0_c) := hD
                refine lv_aload_n hx hb d_M_set_103 rfl (lv_at hl 0 rfl) ?_
                refine va_get (D := D) (ci := 8) (v := .int 2) (C := "ConeForgeModel") (T := FM) (N := 46) hx hb hts iM hown hK hP 0 rfl rfl 34 (by decide) (hts _ (bgc bw718)) (fun _ h9 => h9) rfl d_M_set_104 ?_
                refine lv_if_le (tgt := 112) hx hb d_M_set_107 (by decide) (fun c50 => ?_) (fun c50 => ?_)
                · have h := it_t c50 h
                  refine lv_aload_n hx hb d_M_set_112 rfl (lv_at hl 0 rfl) ?_
                  refine lv_iconst (v := 0) hx hb d_M_set_113 (by decide) ?_
                  obtain ⟨g51, h⟩ := gd_some h
                  refine va_put (D := D) (ci := 8) (v := .int 0) (ty := .boolean) (C := "ConeForgeModel") (T := FM) (N := 46) hx hb hts iM tM tM_ok nmM hown hK hP hD hS 0 rfl rfl 37 (by decide) (hts _ (bgc bw721)) (fun _ h9 => h9) rfl (by decide +kernel) (isb_n g51) (isb_f g51) (Nat.le_of_ble_eq_true rfl) d_M_set_114 (fun H locs hP hD hS => ?_)
                  have hP : va_P D CL (w_M_set T q0 q0_a q0_b q0_c q0_rowScale q0_columnScale q0_sa q0_sb q0_sc q0_x q0_s q0_y q0_p q0_d q0_h q0_f q0_mm q0_low q0_dd q0_r q0_big q0_dt q0_dx q0_t q0_cost q0_rowScaleNow q0_columnScaleNow q0_basic q0_text q0_turned q0_na q0_nb q0_nc vq0_m vq0_n vq0_length vq0_where vq0_effort 2 vq0_at vq0_scaled 0 vq0_second vq0_nm vq0_nn vq0_number vq0_bad vq0_a vq0_b vq0_c) H := hP
                  have hD : va_D A (w_M_set T q0 q0_a q0_b q0_c q0_rowScale q0_columnScale q0_sa q0_sb q0_sc q0_x q0_s q0_y q0_p q0_d q0_h q0_f q0_mm q0_low q0_dd q0_r q0_big q0_dt q0_dx q0_t q0_cost q0_rowScaleNow q0_columnScaleNow q0_basic q0_text q0_turned q0_na q0_nb q0_nc vq0_m vq0_n vq0_length vq0_where vq0_effort 2 vq0_at vq0_scaled 0 vq0_second vq0_nm vq0_nn vq0_number vq0_bad vq0_a vq0_b vq0_c) := hD
                  refine lv_iload_n hx hb d_M_set_117 rfl (lv_at hl 1 rfl) ?_
                  refine lv_if_ne (tgt := 135) hx hb d_M_set_118 (by decide) (fun c52 => ?_) (fun c52 => ?_)
                  · have h := it_f c52 h
                    refine lv_iload_n hx hb d_M_set_135 rfl (lv_at hl 1 rfl) ?_
                    refine lv_iconst (v := 1) hx hb d_M_set_136 (by decide) ?_
                    refine lv_icmp_ne (tgt := 149) hx hb d_M_set_137 (by decide) (fun c53 => ?_) (fun c53 => ?_)
                    · have h := it_f c53 h
                      refine lv_aload_n hx hb d_M_set_149 rfl (lv_at hl 0 rfl) ?_
                      refine va_get (D := D) (ci := 8) (v := .ref q0_c) (C := "ConeForgeModel") (T := FM) (N := 46) hx hb hts iM hown hK hP 0 rfl rfl 2 (by decide) (hts _ (bgc bw686)) (fun _ h9 => h9) rfl d_M_set_150 ?_
                      refine lv_iload_n hx hb d_M_set_153 rfl (lv_at hl 3 rfl) ?_
                      obtain ⟨g54, h⟩ := gd_some h
                      refine va_dald hx hb hK hP 3 0 rfl rfl (inb_in g54) d_M_set_154 ?_
                      exact J155 2 0 vq0_a vq0_b vq0_c x1 x2 x3 x4 (vq0_c x3.toNatClampNeg) H locs ls hP hD hS (lv_sub hl [0, 1, 2, 3, 4] rfl) h
                    · have h := it_t c53 h
                      refine lv_aload_n hx hb d_M_set_140 rfl (lv_at hl 0 rfl) ?_
                      refine va_get (D := D) (ci := 8) (v := .ref q0_b) (C := "ConeForgeModel") (T := FM) (N := 46) hx hb hts iM hown hK hP 0 rfl rfl 1 (by decide) (hts _ (bgc bw685)) (fun _ h9 => h9) rfl d_M_set_141 ?_
                      refine lv_iload_n hx hb d_M_set_144 rfl (lv_at hl 2 rfl) ?_
                      obtain ⟨g55, h⟩ := gd_some h
                      refine va_dald hx hb hK hP 2 0 rfl rfl (inb_in g55) d_M_set_145 ?_
                      refine lv_goto (tgt := 155) hx hb d_M_set_146 (by decide) ?_
                      exact J155 2 0 vq0_a vq0_b vq0_c x1 x2 x3 x4 (vq0_b x2.toNatClampNeg) H locs ls hP hD hS (lv_sub hl [0, 1, 2, 3, 4] rfl) h
                  · have h := it_t c52 h
                    refine lv_aload_n hx hb d_M_set_121 rfl (lv_at hl 0 rfl) ?_
                    refine va_get (D := D) (ci := 8) (v := .ref q0_a) (C := "ConeForgeModel") (T := FM) (N := 46) hx hb hts iM hown hK hP 0 rfl rfl 0 (by decide) (hts _ (bgc bw684)) (fun _ h9 => h9) rfl d_M_set_122 ?_
                    refine lv_bipush (v := 8) hx hb d_M_set_125 (by decide) ?_
                    refine lv_iload_n hx hb d_M_set_127 rfl (lv_at hl 2 rfl) ?_
                    refine lv_imul hx hb d_M_set_128 ?_
                    refine lv_iload_n hx hb d_M_set_129 rfl (lv_at hl 3 rfl) ?_
                    refine lv_iadd hx hb d_M_set_130 ?_
                    obtain ⟨g56, h⟩ := gd_some h
                    refine va_dald hx hb hK hP 1 0 rfl rfl (inb_in g56) d_M_set_131 ?_
                    refine lv_goto (tgt := 155) hx hb d_M_set_132 (by decide) ?_
                    exact J155 2 0 vq0_a vq0_b vq0_c x1 x2 x3 x4 (vq0_a ((8 * x2) + x3).toNatClampNeg) H locs ls hP hD hS (lv_sub hl [0, 1, 2, 3, 4] rfl) h
                · have h := it_f c50 h
                  refine lv_dconst0 hx hb d_M_set_110 ?_
                  exact rtD hx hb hr hlocks hQ (Option.some.inj h) hP hS d_M_set_111 rfl rfl
          · have h := it_f c32 h
            refine lv_iload_n hx hb d_M_set_62 rfl (lv_at hl 2 rfl) ?_
            refine lv_iconst (v := 0) hx hb d_M_set_63 (by decide) ?_
            refine lv_aload_n hx hb d_M_set_64 rfl (lv_at hl 0 rfl) ?_
            refine va_get (D := D) (ci := 8) (v := .int vq0_m) (C := "ConeForgeModel") (T := FM) (N := 46) hx hb hts iM hown hK hP 0 rfl rfl 29 (by decide) (hts _ (bgc bw713)) (fun _ h9 => h9) rfl d_M_set_65 ?_
            refine lv_iconst (v := 1) hx hb d_M_set_68 (by decide) ?_
            refine lv_isub hx hb d_M_set_69 ?_
            obtain ⟨u57, hu57, h⟩ := bi_some h
            refine kI (v := u57) (wc := (w_M_in T  )) (wc' := (w_M_in T  )) (runOS (As := [.int x2, .int 0, .int (vq0_m - 1)]) (rest := [.ref q0]) ((c_M_in l D T   x2 0 (vq0_m - 1) u57 hu57) H.size) ⟨hx, hb, hml, hown, hts⟩ (cwOS bw785 bw786 bw105 bw787 dd_M_in hts ⟨Nat.le_of_ble_eq_true rfl, Nat.le_of_ble_eq_true rfl⟩)  hNW hK hP hD [] rfl (by decide) rfl hl.1 rfl (lv_room (Nat.le_of_ble_eq_true rfl)) d_M_set_70 ⟨Nat.le_of_ble_eq_true rfl, Nat.le_of_ble_eq_true rfl⟩) hP hD hS hA [] rfl rfl (fun H locs hP hD hS => ?_)
            have hP : va_P D CL (w_M_set T q0 q0_a q0_b q0_c q0_rowScale q0_columnScale q0_sa q0_sb q0_sc q0_x q0_s q0_y q0_p q0_d q0_h q0_f q0_mm q0_low q0_dd q0_r q0_big q0_dt q0_dx q0_t q0_cost q0_rowScaleNow q0_columnScaleNow q0_basic q0_text q0_turned q0_na q0_nb q0_nc vq0_m vq0_n vq0_length vq0_where vq0_effort vq0_thrown vq0_at vq0_scaled vq0_solved vq0_second vq0_nm vq0_nn vq0_number vq0_bad vq0_a vq0_b vq0_c) H := hP
            have hD : va_D A (w_M_set T q0 q0_a q0_b q0_c q0_rowScale q0_columnScale q0_sa q0_sb q0_sc q0_x q0_s q0_y q0_p q0_d q0_h q0_f q0_mm q0_low q0_dd q0_r q0_big q0_dt q0_dx q0_t q0_cost q0_rowScaleNow q0_columnScaleNow q0_basic q0_text q0_turned q0_na q0_nb q0_nc vq0_m vq0_n vq0_length vq0_where vq0_effort vq0_thrown vq0_at vq0_scaled vq0_solved vq0_second vq0_nm vq0_nn vq0_number vq0_bad vq0_a vq0_b vq0_c) := hD
            refine lv_if_eq (tgt := 95) hx hb d_M_set_73 (by decide) (fun c58 => ?_) (fun c58 => ?_)
            · have h := it_t c58 h
              refine lv_iconst (v := 2) hx hb d_M_set_95 (by decide) ?_
              refine lv_goto (tgt := 100) hx hb d_M_set_96 (by decide) ?_
              refine va_put (D := D) (ci := 8) (v := .int 2) (ty := .int) (C := "ConeForgeModel") (T := FM) (N := 46) hx hb hts iM tM tM_ok nmM hown hK hP hD hS 0 rfl rfl 34 (by decide) (hts _ (bgc bw718)) (fun _ h9 => h9) rfl (by decide +kernel) rfl rfl (Nat.le_of_ble_eq_true rfl) d_M_set_100 (fun H locs hP hD hS => ?_)
              have hP : va_P D CL (w_M_set T q0 q0_a q0_b q0_c q0_rowScale q0_columnScale q0_sa q0_sb q0_sc q0_x q0_s q0_y q0_p q0_d q0_h q0_f q0_mm q0_low q0_dd q0_r q0_big q0_dt q0_dx q0_t q0_cost q0_rowScaleNow q0_columnScaleNow q0_basic q0_text q0_turned q0_na q0_nb q0_nc vq0_m vq0_n vq0_length vq0_where vq0_effort 2 vq0_at vq0_scaled vq0_solved vq0_second vq0_nm vq0_nn vq0_number vq0_bad vq0_a vq0_b vq0_c) H := hP
              have hD : va_D A (w_M_set T q0 q0_a q0_b q0_c q0_rowScale q0_columnScale q0_sa q0_sb q0_sc q0_x q0_s q0_y q0_p q0_d q0_h q0_f q0_mm q0_low q0_dd q0_r q0_big q0_dt q0_dx q0_t q0_cost q0_rowScaleNow q0_columnScaleNow q0_basic q0_text q0_turned q0_na q0_nb q0_nc vq0_m vq0_n vq0_length vq0_where vq0_effort 2 vq0_at vq0_scaled vq0_solved vq0_second vq0_nm vq0_nn vq0_number vq0_bad vq0_a vq0_b vq0_c) := hD
              refine lv_aload_n hx hb d_M_set_103 rfl (lv_at hl 0 rfl) ?_
              refine va_get (D := D) (ci := 8) (v := .int 2) (C := "ConeForgeModel") (T := FM) (N := 46) hx hb hts iM hown hK hP 0 rfl rfl 34 (by decide) (hts _ (bgc bw718)) (fun _ h9 => h9) rfl d_M_set_104 ?_
              refine lv_if_le (tgt := 112) hx hb d_M_set_107 (by decide) (fun c59 => ?_) (fun c59 => ?_)
              · have h := it_t c59 h
                refine lv_aload_n hx hb d_M_set_112 rfl (lv_at hl 0 rfl) ?_
                refine lv_iconst (v := 0) hx hb d_M_set_113 (by decide) ?_
                obtain ⟨g60, h⟩ := gd_some h
                refine va_put (D := D) (ci := 8) (v := .int 0) (ty := .boolean) (C := "ConeForgeModel") (T := FM) (N := 46) hx hb hts iM tM tM_ok nmM hown hK hP hD hS 0 rfl rfl 37 (by decide) (hts _ (bgc bw721)) (fun _ h9 => h9) rfl (by decide +kernel) (isb_n g60) (isb_f g60) (Nat.le_of_ble_eq_true rfl) d_M_set_114 (fun H locs hP hD hS => ?_)
                have hP : va_P D CL (w_M_set T q0 q0_a q0_b q0_c q0_rowScale q0_columnScale q0_sa q0_sb q0_sc q0_x q0_s q0_y q0_p q0_d q0_h q0_f q0_mm q0_low q0_dd q0_r q0_big q0_dt q0_dx q0_t q0_cost q0_rowScaleNow q0_columnScaleNow q0_basic q0_text q0_turned q0_na q0_nb q0_nc vq0_m vq0_n vq0_length vq0_where vq0_effort 2 vq0_at vq0_scaled 0 vq0_second vq0_nm vq0_nn vq0_number vq0_bad vq0_a vq0_b vq0_c) H := hP
                have hD : va_D A (w_M_set T q0 q0_a q0_b q0_c q0_rowScale q0_columnScale q0_sa q0_sb q0_sc q0_x q0_s q0_y q0_p q0_d q0_h q0_f q0_mm q0_low q0_dd q0_r q0_big q0_dt q0_dx q0_t q0_cost q0_rowScaleNow q0_columnScaleNow q0_basic q0_text q0_turned q0_na q0_nb q0_nc vq0_m vq0_n vq0_length vq0_where vq0_effort 2 vq0_at vq0_scaled 0 vq0_second vq0_nm vq0_nn vq0_number vq0_bad vq0_a vq0_b vq0_c) := hD
                refine lv_iload_n hx hb d_M_set_117 rfl (lv_at hl 1 rfl) ?_
                refine lv_if_ne (tgt := 135) hx hb d_M_set_118 (by decide) (fun c61 => ?_) (fun c61 => ?_)
                · have h := it_f c61 h
                  refine lv_iload_n hx hb d_M_set_135 rfl (lv_at hl 1 rfl) ?_
                  refine lv_iconst (v := 1) hx hb d_M_set_136 (by decide) ?_
                  refine lv_icmp_ne (tgt := 149) hx hb d_M_set_137 (by decide) (fun c62 => ?_) (fun c62 => ?_)
                  · have h := it_f c62 h
                    refine lv_aload_n hx hb d_M_set_149 rfl (lv_at hl 0 rfl) ?_
                    refine va_get (D := D) (ci := 8) (v := .ref q0_c) (C := "ConeForgeModel") (T := FM) (N := 46) hx hb hts iM hown hK hP 0 rfl rfl 2 (by decide) (hts _ (bgc bw686)) (fun _ h9 => h9) rfl d_M_set_150 ?_
                    refine lv_iload_n hx hb d_M_set_153 rfl (lv_at hl 3 rfl) ?_
                    obtain ⟨g63, h⟩ := gd_some h
                    refine va_dald hx hb hK hP 3 0 rfl rfl (inb_in g63) d_M_set_154 ?_
                    exact J155 2 0 vq0_a vq0_b vq0_c x1 x2 x3 x4 (vq0_c x3.toNatClampNeg) H locs ls hP hD hS (lv_sub hl [0, 1, 2, 3, 4] rfl) h
                  · have h := it_t c62 h
                    refine lv_aload_n hx hb d_M_set_140 rfl (lv_at hl 0 rfl) ?_
                    refine va_get (D := D) (ci := 8) (v := .ref q0_b) (C := "ConeForgeModel") (T := FM) (N := 46) hx hb hts iM hown hK hP 0 rfl rfl 1 (by decide) (hts _ (bgc bw685)) (fun _ h9 => h9) rfl d_M_set_141 ?_
                    refine lv_iload_n hx hb d_M_set_144 rfl (lv_at hl 2 rfl) ?_
                    obtain ⟨g64, h⟩ := gd_some h
                    refine va_dald hx hb hK hP 2 0 rfl rfl (inb_in g64) d_M_set_145 ?_
                    refine lv_goto (tgt := 155) hx hb d_M_set_146 (by decide) ?_
                    exact J155 2 0 vq0_a vq0_b vq0_c x1 x2 x3 x4 (vq0_b x2.toNatClampNeg) H locs ls hP hD hS (lv_sub hl [0, 1, 2, 3, 4] rfl) h
                · have h := it_t c61 h
                  refine lv_aload_n hx hb d_M_set_121 rfl (lv_at hl 0 rfl) ?_
                  refine va_get (D := D) (ci := 8) (v := .ref q0_a) (C := "ConeForgeModel") (T := FM) (N := 46) hx hb hts iM hown hK hP 0 rfl rfl 0 (by decide) (hts _ (bgc bw684)) (fun _ h9 => h9) rfl d_M_set_122 ?_
                  refine lv_bipush (v := 8) hx hb d_M_set_125 (by decide) ?_
                  refine lv_iload_n hx hb d_M_set_127 rfl (lv_at hl 2 rfl) ?_
                  refine lv_imul hx hb d_M_set_128 ?_
                  refine lv_iload_n hx hb d_M_set_129 rfl (lv_at hl 3 rfl) ?_
                  refine lv_iadd hx hb d_M_set_130 ?_
                  obtain ⟨g65, h⟩ := gd_some h
                  refine va_dald hx hb hK hP 1 0 rfl rfl (inb_in g65) d_M_set_131 ?_
                  refine lv_goto (tgt := 155) hx hb d_M_set_132 (by decide) ?_
                  exact J155 2 0 vq0_a vq0_b vq0_c x1 x2 x3 x4 (vq0_a ((8 * x2) + x3).toNatClampNeg) H locs ls hP hD hS (lv_sub hl [0, 1, 2, 3, 4] rfl) h
              · have h := it_f c59 h
                refine lv_dconst0 hx hb d_M_set_110 ?_
                exact rtD hx hb hr hlocks hQ (Option.some.inj h) hP hS d_M_set_111 rfl rfl
            · have h := it_f c58 h
              refine lv_iload_n hx hb d_M_set_76 rfl (lv_at hl 1 rfl) ?_
              refine lv_iconst (v := 1) hx hb d_M_set_77 (by decide) ?_
              refine lv_icmp_eq (tgt := 99) hx hb d_M_set_78 (by decide) (fun c66 => ?_) (fun c66 => ?_)
              · have h := it_t c66 h
                refine lv_iconst (v := 0) hx hb d_M_set_99 (by decide) ?_
                refine va_put (D := D) (ci := 8) (v := .int 0) (ty := .int) (C := "ConeForgeModel") (T := FM) (N := 46) hx hb hts iM tM tM_ok nmM hown hK hP hD hS 0 rfl rfl 34 (by decide) (hts _ (bgc bw718)) (fun _ h9 => h9) rfl (by decide +kernel) rfl rfl (Nat.le_of_ble_eq_true rfl) d_M_set_100 (fun H locs hP hD hS => ?_)
                have hP : va_P D CL (w_M_set T q0 q0_a q0_b q0_c q0_rowScale q0_columnScale q0_sa q0_sb q0_sc q0_x q0_s q0_y q0_p q0_d q0_h q0_f q0_mm q0_low q0_dd q0_r q0_big q0_dt q0_dx q0_t q0_cost q0_rowScaleNow q0_columnScaleNow q0_basic q0_text q0_turned q0_na q0_nb q0_nc vq0_m vq0_n vq0_length vq0_where vq0_effort 0 vq0_at vq0_scaled vq0_solved vq0_second vq0_nm vq0_nn vq0_number vq0_bad vq0_a vq0_b vq0_c) H := hP
                have hD : va_D A (w_M_set T q0 q0_a q0_b q0_c q0_rowScale q0_columnScale q0_sa q0_sb q0_sc q0_x q0_s q0_y q0_p q0_d q0_h q0_f q0_mm q0_low q0_dd q0_r q0_big q0_dt q0_dx q0_t q0_cost q0_rowScaleNow q0_columnScaleNow q0_basic q0_text q0_turned q0_na q0_nb q0_nc vq0_m vq0_n vq0_length vq0_where vq0_effort 0 vq0_at vq0_scaled vq0_solved vq0_second vq0_nm vq0_nn vq0_number vq0_bad vq0_a vq0_b vq0_c) := hD
                refine lv_aload_n hx hb d_M_set_103 rfl (lv_at hl 0 rfl) ?_
                refine va_get (D := D) (ci := 8) (v := .int 0) (C := "ConeForgeModel") (T := FM) (N := 46) hx hb hts iM hown hK hP 0 rfl rfl 34 (by decide) (hts _ (bgc bw718)) (fun _ h9 => h9) rfl d_M_set_104 ?_
                refine lv_if_le (tgt := 112) hx hb d_M_set_107 (by decide) (fun c67 => ?_) (fun c67 => ?_)
                · have h := it_t c67 h
                  refine lv_aload_n hx hb d_M_set_112 rfl (lv_at hl 0 rfl) ?_
                  refine lv_iconst (v := 0) hx hb d_M_set_113 (by decide) ?_
                  obtain ⟨g68, h⟩ := gd_some h
                  refine va_put (D := D) (ci := 8) (v := .int 0) (ty := .boolean) (C := "ConeForgeModel") (T := FM) (N := 46) hx hb hts iM tM tM_ok nmM hown hK hP hD hS 0 rfl rfl 37 (by decide) (hts _ (bgc bw721)) (fun _ h9 => h9) rfl (by decide +kernel) (isb_n g68) (isb_f g68) (Nat.le_of_ble_eq_true rfl) d_M_set_114 (fun H locs hP hD hS => ?_)
                  have hP : va_P D CL (w_M_set T q0 q0_a q0_b q0_c q0_rowScale q0_columnScale q0_sa q0_sb q0_sc q0_x q0_s q0_y q0_p q0_d q0_h q0_f q0_mm q0_low q0_dd q0_r q0_big q0_dt q0_dx q0_t q0_cost q0_rowScaleNow q0_columnScaleNow q0_basic q0_text q0_turned q0_na q0_nb q0_nc vq0_m vq0_n vq0_length vq0_where vq0_effort 0 vq0_at vq0_scaled 0 vq0_second vq0_nm vq0_nn vq0_number vq0_bad vq0_a vq0_b vq0_c) H := hP
                  have hD : va_D A (w_M_set T q0 q0_a q0_b q0_c q0_rowScale q0_columnScale q0_sa q0_sb q0_sc q0_x q0_s q0_y q0_p q0_d q0_h q0_f q0_mm q0_low q0_dd q0_r q0_big q0_dt q0_dx q0_t q0_cost q0_rowScaleNow q0_columnScaleNow q0_basic q0_text q0_turned q0_na q0_nb q0_nc vq0_m vq0_n vq0_length vq0_where vq0_effort 0 vq0_at vq0_scaled 0 vq0_second vq0_nm vq0_nn vq0_number vq0_bad vq0_a vq0_b vq0_c) := hD
                  refine lv_iload_n hx hb d_M_set_117 rfl (lv_at hl 1 rfl) ?_
                  refine lv_if_ne (tgt := 135) hx hb d_M_set_118 (by decide) (fun c69 => ?_) (fun c69 => ?_)
                  · have h := it_f c69 h
                    refine lv_iload_n hx hb d_M_set_135 rfl (lv_at hl 1 rfl) ?_
                    refine lv_iconst (v := 1) hx hb d_M_set_136 (by decide) ?_
                    refine lv_icmp_ne (tgt := 149) hx hb d_M_set_137 (by decide) (fun c70 => ?_) (fun c70 => ?_)
                    · have h := it_f c70 h
                      refine lv_aload_n hx hb d_M_set_149 rfl (lv_at hl 0 rfl) ?_
                      refine va_get (D := D) (ci := 8) (v := .ref q0_c) (C := "ConeForgeModel") (T := FM) (N := 46) hx hb hts iM hown hK hP 0 rfl rfl 2 (by decide) (hts _ (bgc bw686)) (fun _ h9 => h9) rfl d_M_set_150 ?_
                      refine lv_iload_n hx hb d_M_set_153 rfl (lv_at hl 3 rfl) ?_
                      obtain ⟨g71, h⟩ := gd_some h
                      refine va_dald hx hb hK hP 3 0 rfl rfl (inb_in g71) d_M_set_154 ?_
                      exact J155 0 0 vq0_a vq0_b vq0_c x1 x2 x3 x4 (vq0_c x3.toNatClampNeg) H locs ls hP hD hS (lv_sub hl [0, 1, 2, 3, 4] rfl) h
                    · have h := it_t c70 h
                      refine lv_aload_n hx hb d_M_set_140 rfl (lv_at hl 0 rfl) ?_
                      refine va_get (D := D) (ci := 8) (v := .ref q0_b) (C := "ConeForgeModel") (T := FM) (N := 46) hx hb hts iM hown hK hP 0 rfl rfl 1 (by decide) (hts _ (bgc bw685)) (fun _ h9 => h9) rfl d_M_set_141 ?_
                      refine lv_iload_n hx hb d_M_set_144 rfl (lv_at hl 2 rfl) ?_
                      obtain ⟨g72, h⟩ := gd_some h
                      refine va_dald hx hb hK hP 2 0 rfl rfl (inb_in g72) d_M_set_145 ?_
                      refine lv_goto (tgt := 155) hx hb d_M_set_146 (by decide) ?_
                      exact J155 0 0 vq0_a vq0_b vq0_c x1 x2 x3 x4 (vq0_b x2.toNatClampNeg) H locs ls hP hD hS (lv_sub hl [0, 1, 2, 3, 4] rfl) h
                  · have h := it_t c69 h
                    refine lv_aload_n hx hb d_M_set_121 rfl (lv_at hl 0 rfl) ?_
                    refine va_get (D := D) (ci := 8) (v := .ref q0_a) (C := "ConeForgeModel") (T := FM) (N := 46) hx hb hts iM hown hK hP 0 rfl rfl 0 (by decide) (hts _ (bgc bw684)) (fun _ h9 => h9) rfl d_M_set_122 ?_
                    refine lv_bipush (v := 8) hx hb d_M_set_125 (by decide) ?_
                    refine lv_iload_n hx hb d_M_set_127 rfl (lv_at hl 2 rfl) ?_
                    refine lv_imul hx hb d_M_set_128 ?_
                    refine lv_iload_n hx hb d_M_set_129 rfl (lv_at hl 3 rfl) ?_
                    refine lv_iadd hx hb d_M_set_130 ?_
                    obtain ⟨g73, h⟩ := gd_some h
                    refine va_dald hx hb hK hP 1 0 rfl rfl (inb_in g73) d_M_set_131 ?_
                    refine lv_goto (tgt := 155) hx hb d_M_set_132 (by decide) ?_
                    exact J155 0 0 vq0_a vq0_b vq0_c x1 x2 x3 x4 (vq0_a ((8 * x2) + x3).toNatClampNeg) H locs ls hP hD hS (lv_sub hl [0, 1, 2, 3, 4] rfl) h
                · have h := it_f c67 h
                  refine lv_dconst0 hx hb d_M_set_110 ?_
                  exact rtD hx hb hr hlocks hQ (Option.some.inj h) hP hS d_M_set_111 rfl rfl
              · have h := it_f c66 h
                refine lv_iload_n hx hb d_M_set_81 rfl (lv_at hl 3 rfl) ?_
                refine lv_iconst (v := 0) hx hb d_M_set_82 (by decide) ?_
                refine lv_aload_n hx hb d_M_set_83 rfl (lv_at hl 0 rfl) ?_
                refine va_get (D := D) (ci := 8) (v := .int vq0_n) (C := "ConeForgeModel") (T := FM) (N := 46) hx hb hts iM hown hK hP 0 rfl rfl 30 (by decide) (hts _ (bgc bw714)) (fun _ h9 => h9) rfl d_M_set_84 ?_
                refine lv_iconst (v := 1) hx hb d_M_set_87 (by decide) ?_
                refine lv_isub hx hb d_M_set_88 ?_
                obtain ⟨u74, hu74, h⟩ := bi_some h
                refine kI (v := u74) (wc := (w_M_in T  )) (wc' := (w_M_in T  )) (runOS (As := [.int x3, .int 0, .int (vq0_n - 1)]) (rest := [.ref q0]) ((c_M_in l D T   x3 0 (vq0_n - 1) u74 hu74) H.size) ⟨hx, hb, hml, hown, hts⟩ (cwOS bw785 bw786 bw105 bw787 dd_M_in hts ⟨Nat.le_of_ble_eq_true rfl, Nat.le_of_ble_eq_true rfl⟩)  hNW hK hP hD [] rfl (by decide) rfl hl.1 rfl (lv_room (Nat.le_of_ble_eq_true rfl)) d_M_set_89 ⟨Nat.le_of_ble_eq_true rfl, Nat.le_of_ble_eq_true rfl⟩) hP hD hS hA [] rfl rfl (fun H locs hP hD hS => ?_)
                have hP : va_P D CL (w_M_set T q0 q0_a q0_b q0_c q0_rowScale q0_columnScale q0_sa q0_sb q0_sc q0_x q0_s q0_y q0_p q0_d q0_h q0_f q0_mm q0_low q0_dd q0_r q0_big q0_dt q0_dx q0_t q0_cost q0_rowScaleNow q0_columnScaleNow q0_basic q0_text q0_turned q0_na q0_nb q0_nc vq0_m vq0_n vq0_length vq0_where vq0_effort vq0_thrown vq0_at vq0_scaled vq0_solved vq0_second vq0_nm vq0_nn vq0_number vq0_bad vq0_a vq0_b vq0_c) H := hP
                have hD : va_D A (w_M_set T q0 q0_a q0_b q0_c q0_rowScale q0_columnScale q0_sa q0_sb q0_sc q0_x q0_s q0_y q0_p q0_d q0_h q0_f q0_mm q0_low q0_dd q0_r q0_big q0_dt q0_dx q0_t q0_cost q0_rowScaleNow q0_columnScaleNow q0_basic q0_text q0_turned q0_na q0_nb q0_nc vq0_m vq0_n vq0_length vq0_where vq0_effort vq0_thrown vq0_at vq0_scaled vq0_solved vq0_second vq0_nm vq0_nn vq0_number vq0_bad vq0_a vq0_b vq0_c) := hD
                refine lv_if_ne (tgt := 99) hx hb d_M_set_92 (by decide) (fun c75 => ?_) (fun c75 => ?_)
                · have h := it_f c75 h
                  refine lv_iconst (v := 0) hx hb d_M_set_99 (by decide) ?_
                  refine va_put (D := D) (ci := 8) (v := .int 0) (ty := .int) (C := "ConeForgeModel") (T := FM) (N := 46) hx hb hts iM tM tM_ok nmM hown hK hP hD hS 0 rfl rfl 34 (by decide) (hts _ (bgc bw718)) (fun _ h9 => h9) rfl (by decide +kernel) rfl rfl (Nat.le_of_ble_eq_true rfl) d_M_set_100 (fun H locs hP hD hS => ?_)
                  have hP : va_P D CL (w_M_set T q0 q0_a q0_b q0_c q0_rowScale q0_columnScale q0_sa q0_sb q0_sc q0_x q0_s q0_y q0_p q0_d q0_h q0_f q0_mm q0_low q0_dd q0_r q0_big q0_dt q0_dx q0_t q0_cost q0_rowScaleNow q0_columnScaleNow q0_basic q0_text q0_turned q0_na q0_nb q0_nc vq0_m vq0_n vq0_length vq0_where vq0_effort 0 vq0_at vq0_scaled vq0_solved vq0_second vq0_nm vq0_nn vq0_number vq0_bad vq0_a vq0_b vq0_c) H := hP
                  have hD : va_D A (w_M_set T q0 q0_a q0_b q0_c q0_rowScale q0_columnScale q0_sa q0_sb q0_sc q0_x q0_s q0_y q0_p q0_d q0_h q0_f q0_mm q0_low q0_dd q0_r q0_big q0_dt q0_dx q0_t q0_cost q0_rowScaleNow q0_columnScaleNow q0_basic q0_text q0_turned q0_na q0_nb q0_nc vq0_m vq0_n vq0_length vq0_where vq0_effort 0 vq0_at vq0_scaled vq0_solved vq0_second vq0_nm vq0_nn vq0_number vq0_bad vq0_a vq0_b vq0_c) := hD
                  refine lv_aload_n hx hb d_M_set_103 rfl (lv_at hl 0 rfl) ?_
                  refine va_get (D := D) (ci := 8) (v := .int 0) (C := "ConeForgeModel") (T := FM) (N := 46) hx hb hts iM hown hK hP 0 rfl rfl 34 (by decide) (hts _ (bgc bw718)) (fun _ h9 => h9) rfl d_M_set_104 ?_
                  refine lv_if_le (tgt := 112) hx hb d_M_set_107 (by decide) (fun c76 => ?_) (fun c76 => ?_)
                  · have h := it_t c76 h
                    refine lv_aload_n hx hb d_M_set_112 rfl (lv_at hl 0 rfl) ?_
                    refine lv_iconst (v := 0) hx hb d_M_set_113 (by decide) ?_
                    obtain ⟨g77, h⟩ := gd_some h
                    refine va_put (D := D) (ci := 8) (v := .int 0) (ty := .boolean) (C := "ConeForgeModel") (T := FM) (N := 46) hx hb hts iM tM tM_ok nmM hown hK hP hD hS 0 rfl rfl 37 (by decide) (hts _ (bgc bw721)) (fun _ h9 => h9) rfl (by decide +kernel) (isb_n g77) (isb_f g77) (Nat.le_of_ble_eq_true rfl) d_M_set_114 (fun H locs hP hD hS => ?_)
                    have hP : va_P D CL (w_M_set T q0 q0_a q0_b q0_c q0_rowScale q0_columnScale q0_sa q0_sb q0_sc q0_x q0_s q0_y q0_p q0_d q0_h q0_f q0_mm q0_low q0_dd q0_r q0_big q0_dt q0_dx q0_t q0_cost q0_rowScaleNow q0_columnScaleNow q0_basic q0_text q0_turned q0_na q0_nb q0_nc vq0_m vq0_n vq0_length vq0_where vq0_effort 0 vq0_at vq0_scaled 0 vq0_second vq0_nm vq0_nn vq0_number vq0_bad vq0_a vq0_b vq0_c) H := hP
                    have hD : va_D A (w_M_set T q0 q0_a q0_b q0_c q0_rowScale q0_columnScale q0_sa q0_sb q0_sc q0_x q0_s q0_y q0_p q0_d q0_h q0_f q0_mm q0_low q0_dd q0_r q0_big q0_dt q0_dx q0_t q0_cost q0_rowScaleNow q0_columnScaleNow q0_basic q0_text q0_turned q0_na q0_nb q0_nc vq0_m vq0_n vq0_length vq0_where vq0_effort 0 vq0_at vq0_scaled 0 vq0_second vq0_nm vq0_nn vq0_number vq0_bad vq0_a vq0_b vq0_c) := hD
                    refine lv_iload_n hx hb d_M_set_117 rfl (lv_at hl 1 rfl) ?_
                    refine lv_if_ne (tgt := 135) hx hb d_M_set_118 (by decide) (fun c78 => ?_) (fun c78 => ?_)
                    · have h := it_f c78 h
                      refine lv_iload_n hx hb d_M_set_135 rfl (lv_at hl 1 rfl) ?_
                      refine lv_iconst (v := 1) hx hb d_M_set_136 (by decide) ?_
                      refine lv_icmp_ne (tgt := 149) hx hb d_M_set_137 (by decide) (fun c79 => ?_) (fun c79 => ?_)
                      · have h := it_f c79 h
                        refine lv_aload_n hx hb d_M_set_149 rfl (lv_at hl 0 rfl) ?_
                        refine va_get (D := D) (ci := 8) (v := .ref q0_c) (C := "ConeForgeModel") (T := FM) (N := 46) hx hb hts iM hown hK hP 0 rfl rfl 2 (by decide) (hts _ (bgc bw686)) (fun _ h9 => h9) rfl d_M_set_150 ?_
                        refine lv_iload_n hx hb d_M_set_153 rfl (lv_at hl 3 rfl) ?_
                        obtain ⟨g80, h⟩ := gd_some h
                        refine va_dald hx hb hK hP 3 0 rfl rfl (inb_in g80) d_M_set_154 ?_
                        exact J155 0 0 vq0_a vq0_b vq0_c x1 x2 x3 x4 (vq0_c x3.toNatClampNeg) H locs ls hP hD hS (lv_sub hl [0, 1, 2, 3, 4] rfl) h
                      · have h := it_t c79 h
                        refine lv_aload_n hx hb d_M_set_140 rfl (lv_at hl 0 rfl) ?_
                        refine va_get (D := D) (ci := 8) (v := .ref q0_b) (C := "ConeForgeModel") (T := FM) (N := 46) hx hb hts iM hown hK hP 0 rfl rfl 1 (by decide) (hts _ (bgc bw685)) (fun _ h9 => h9) rfl d_M_set_141 ?_
                        refine lv_iload_n hx hb d_M_set_144 rfl (lv_at hl 2 rfl) ?_
                        obtain ⟨g81, h⟩ := gd_some h
                        refine va_dald hx hb hK hP 2 0 rfl rfl (inb_in g81) d_M_set_145 ?_
                        refine lv_goto (tgt := 155) hx hb d_M_set_146 (by decide) ?_
                        exact J155 0 0 vq0_a vq0_b vq0_c x1 x2 x3 x4 (vq0_b x2.toNatClampNeg) H locs ls hP hD hS (lv_sub hl [0, 1, 2, 3, 4] rfl) h
                    · have h := it_t c78 h
                      refine lv_aload_n hx hb d_M_set_121 rfl (lv_at hl 0 rfl) ?_
                      refine va_get (D := D) (ci := 8) (v := .ref q0_a) (C := "ConeForgeModel") (T := FM) (N := 46) hx hb hts iM hown hK hP 0 rfl rfl 0 (by decide) (hts _ (bgc bw684)) (fun _ h9 => h9) rfl d_M_set_122 ?_
                      refine lv_bipush (v := 8) hx hb d_M_set_125 (by decide) ?_
                      refine lv_iload_n hx hb d_M_set_127 rfl (lv_at hl 2 rfl) ?_
                      refine lv_imul hx hb d_M_set_128 ?_
                      refine lv_iload_n hx hb d_M_set_129 rfl (lv_at hl 3 rfl) ?_
                      refine lv_iadd hx hb d_M_set_130 ?_
                      obtain ⟨g82, h⟩ := gd_some h
                      refine va_dald hx hb hK hP 1 0 rfl rfl (inb_in g82) d_M_set_131 ?_
                      refine lv_goto (tgt := 155) hx hb d_M_set_132 (by decide) ?_
                      exact J155 0 0 vq0_a vq0_b vq0_c x1 x2 x3 x4 (vq0_a ((8 * x2) + x3).toNatClampNeg) H locs ls hP hD hS (lv_sub hl [0, 1, 2, 3, 4] rfl) h
                  · have h := it_f c76 h
                    refine lv_dconst0 hx hb d_M_set_110 ?_
                    exact rtD hx hb hr hlocks hQ (Option.some.inj h) hP hS d_M_set_111 rfl rfl
                · have h := it_t c75 h
                  refine lv_iconst (v := 2) hx hb d_M_set_95 (by decide) ?_
                  refine lv_goto (tgt := 100) hx hb d_M_set_96 (by decide) ?_
                  refine va_put (D := D) (ci := 8) (v := .int 2) (ty := .int) (C := "ConeForgeModel") (T := FM) (N := 46) hx hb hts iM tM tM_ok nmM hown hK hP hD hS 0 rfl rfl 34 (by decide) (hts _ (bgc bw718)) (fun _ h9 => h9) rfl (by decide +kernel) rfl rfl (Nat.le_of_ble_eq_true rfl) d_M_set_100 (fun H locs hP hD hS => ?_)
                  have hP : va_P D CL (w_M_set T q0 q0_a q0_b q0_c q0_rowScale q0_columnScale q0_sa q0_sb q0_sc q0_x q0_s q0_y q0_p q0_d q0_h q0_f q0_mm q0_low q0_dd q0_r q0_big q0_dt q0_dx q0_t q0_cost q0_rowScaleNow q0_columnScaleNow q0_basic q0_text q0_turned q0_na q0_nb q0_nc vq0_m vq0_n vq0_length vq0_where vq0_effort 2 vq0_at vq0_scaled vq0_solved vq0_second vq0_nm vq0_nn vq0_number vq0_bad vq0_a vq0_b vq0_c) H := hP
                  have hD : va_D A (w_M_set T q0 q0_a q0_b q0_c q0_rowScale q0_columnScale q0_sa q0_sb q0_sc q0_x q0_s q0_y q0_p q0_d q0_h q0_f q0_mm q0_low q0_dd q0_r q0_big q0_dt q0_dx q0_t q0_cost q0_rowScaleNow q0_columnScaleNow q0_basic q0_text q0_turned q0_na q0_nb q0_nc vq0_m vq0_n vq0_length vq0_where vq0_effort 2 vq0_at vq0_scaled vq0_solved vq0_second vq0_nm vq0_nn vq0_number vq0_bad vq0_a vq0_b vq0_c) := hD
                  refine lv_aload_n hx hb d_M_set_103 rfl (lv_at hl 0 rfl) ?_
                  refine va_get (D := D) (ci := 8) (v := .int 2) (C := "ConeForgeModel") (T := FM) (N := 46) hx hb hts iM hown hK hP 0 rfl rfl 34 (by decide) (hts _ (bgc bw718)) (fun _ h9 => h9) rfl d_M_set_104 ?_
                  refine lv_if_le (tgt := 112) hx hb d_M_set_107 (by decide) (fun c83 => ?_) (fun c83 => ?_)
                  · have h := it_t c83 h
                    refine lv_aload_n hx hb d_M_set_112 rfl (lv_at hl 0 rfl) ?_
                    refine lv_iconst (v := 0) hx hb d_M_set_113 (by decide) ?_
                    obtain ⟨g84, h⟩ := gd_some h
                    refine va_put (D := D) (ci := 8) (v := .int 0) (ty := .boolean) (C := "ConeForgeModel") (T := FM) (N := 46) hx hb hts iM tM tM_ok nmM hown hK hP hD hS 0 rfl rfl 37 (by decide) (hts _ (bgc bw721)) (fun _ h9 => h9) rfl (by decide +kernel) (isb_n g84) (isb_f g84) (Nat.le_of_ble_eq_true rfl) d_M_set_114 (fun H locs hP hD hS => ?_)
                    have hP : va_P D CL (w_M_set T q0 q0_a q0_b q0_c q0_rowScale q0_columnScale q0_sa q0_sb q0_sc q0_x q0_s q0_y q0_p q0_d q0_h q0_f q0_mm q0_low q0_dd q0_r q0_big q0_dt q0_dx q0_t q0_cost q0_rowScaleNow q0_columnScaleNow q0_basic q0_text q0_turned q0_na q0_nb q0_nc vq0_m vq0_n vq0_length vq0_where vq0_effort 2 vq0_at vq0_scaled 0 vq0_second vq0_nm vq0_nn vq0_number vq0_bad vq0_a vq0_b vq0_c) H := hP
                    have hD : va_D A (w_M_set T q0 q0_a q0_b q0_c q0_rowScale q0_columnScale q0_sa q0_sb q0_sc q0_x q0_s q0_y q0_p q0_d q0_h q0_f q0_mm q0_low q0_dd q0_r q0_big q0_dt q0_dx q0_t q0_cost q0_rowScaleNow q0_columnScaleNow q0_basic q0_text q0_turned q0_na q0_nb q0_nc vq0_m vq0_n vq0_length vq0_where vq0_effort 2 vq0_at vq0_scaled 0 vq0_second vq0_nm vq0_nn vq0_number vq0_bad vq0_a vq0_b vq0_c) := hD
                    refine lv_iload_n hx hb d_M_set_117 rfl (lv_at hl 1 rfl) ?_
                    refine lv_if_ne (tgt := 135) hx hb d_M_set_118 (by decide) (fun c85 => ?_) (fun c85 => ?_)
                    · have h := it_f c85 h
                      refine lv_iload_n hx hb d_M_set_135 rfl (lv_at hl 1 rfl) ?_
                      refine lv_iconst (v := 1) hx hb d_M_set_136 (by decide) ?_
                      refine lv_icmp_ne (tgt := 149) hx hb d_M_set_137 (by decide) (fun c86 => ?_) (fun c86 => ?_)
                      · have h := it_f c86 h
                        refine lv_aload_n hx hb d_M_set_149 rfl (lv_at hl 0 rfl) ?_
                        refine va_get (D := D) (ci := 8) (v := .ref q0_c) (C := "ConeForgeModel") (T := FM) (N := 46) hx hb hts iM hown hK hP 0 rfl rfl 2 (by decide) (hts _ (bgc bw686)) (fun _ h9 => h9) rfl d_M_set_150 ?_
                        refine lv_iload_n hx hb d_M_set_153 rfl (lv_at hl 3 rfl) ?_
                        obtain ⟨g87, h⟩ := gd_some h
                        refine va_dald hx hb hK hP 3 0 rfl rfl (inb_in g87) d_M_set_154 ?_
                        exact J155 2 0 vq0_a vq0_b vq0_c x1 x2 x3 x4 (vq0_c x3.toNatClampNeg) H locs ls hP hD hS (lv_sub hl [0, 1, 2, 3, 4] rfl) h
                      · have h := it_t c86 h
                        refine lv_aload_n hx hb d_M_set_140 rfl (lv_at hl 0 rfl) ?_
                        refine va_get (D := D) (ci := 8) (v := .ref q0_b) (C := "ConeForgeModel") (T := FM) (N := 46) hx hb hts iM hown hK hP 0 rfl rfl 1 (by decide) (hts _ (bgc bw685)) (fun _ h9 => h9) rfl d_M_set_141 ?_
                        refine lv_iload_n hx hb d_M_set_144 rfl (lv_at hl 2 rfl) ?_
                        obtain ⟨g88, h⟩ := gd_some h
                        refine va_dald hx hb hK hP 2 0 rfl rfl (inb_in g88) d_M_set_145 ?_
                        refine lv_goto (tgt := 155) hx hb d_M_set_146 (by decide) ?_
                        exact J155 2 0 vq0_a vq0_b vq0_c x1 x2 x3 x4 (vq0_b x2.toNatClampNeg) H locs ls hP hD hS (lv_sub hl [0, 1, 2, 3, 4] rfl) h
                    · have h := it_t c85 h
                      refine lv_aload_n hx hb d_M_set_121 rfl (lv_at hl 0 rfl) ?_
                      refine va_get (D := D) (ci := 8) (v := .ref q0_a) (C := "ConeForgeModel") (T := FM) (N := 46) hx hb hts iM hown hK hP 0 rfl rfl 0 (by decide) (hts _ (bgc bw684)) (fun _ h9 => h9) rfl d_M_set_122 ?_
                      refine lv_bipush (v := 8) hx hb d_M_set_125 (by decide) ?_
                      refine lv_iload_n hx hb d_M_set_127 rfl (lv_at hl 2 rfl) ?_
                      refine lv_imul hx hb d_M_set_128 ?_
                      refine lv_iload_n hx hb d_M_set_129 rfl (lv_at hl 3 rfl) ?_
                      refine lv_iadd hx hb d_M_set_130 ?_
                      obtain ⟨g89, h⟩ := gd_some h
                      refine va_dald hx hb hK hP 1 0 rfl rfl (inb_in g89) d_M_set_131 ?_
                      refine lv_goto (tgt := 155) hx hb d_M_set_132 (by decide) ?_
                      exact J155 2 0 vq0_a vq0_b vq0_c x1 x2 x3 x4 (vq0_a ((8 * x2) + x3).toNatClampNeg) H locs ls hP hD hS (lv_sub hl [0, 1, 2, 3, 4] rfl) h
                  · have h := it_f c83 h
                    refine lv_dconst0 hx hb d_M_set_110 ?_
                    exact rtD hx hb hr hlocks hQ (Option.some.inj h) hP hS d_M_set_111 rfl rfl
        · have h := it_f c31 h
          refine lv_dload hx hb d_M_set_35 (lv_at hl 4 rfl) ?_
          refine lv_ldc2d (v := 4517329193108106637) hx hb hown (hts _ (bgc bw794)) d_M_set_37 ?_
          refine lv_dcmp hx hb d_M_set_40 ?_
          refine lv_if_ge (tgt := 57) hx hb d_M_set_41 (by decide) (fun c90 => ?_) (fun c90 => ?_)
          · have h := it_t c90 h
            refine lv_iload_n hx hb d_M_set_57 rfl (lv_at hl 1 rfl) ?_
            refine lv_iconst (v := 2) hx hb d_M_set_58 (by decide) ?_
            refine lv_icmp_ge (tgt := 76) hx hb d_M_set_59 (by decide) (fun c91 => ?_) (fun c91 => ?_)
            · have h := it_t c91 h
              refine lv_iload_n hx hb d_M_set_76 rfl (lv_at hl 1 rfl) ?_
              refine lv_iconst (v := 1) hx hb d_M_set_77 (by decide) ?_
              refine lv_icmp_eq (tgt := 99) hx hb d_M_set_78 (by decide) (fun c92 => ?_) (fun c92 => ?_)
              · have h := it_t c92 h
                refine lv_iconst (v := 0) hx hb d_M_set_99 (by decide) ?_
                refine va_put (D := D) (ci := 8) (v := .int 0) (ty := .int) (C := "ConeForgeModel") (T := FM) (N := 46) hx hb hts iM tM tM_ok nmM hown hK hP hD hS 0 rfl rfl 34 (by decide) (hts _ (bgc bw718)) (fun _ h9 => h9) rfl (by decide +kernel) rfl rfl (Nat.le_of_ble_eq_true rfl) d_M_set_100 (fun H locs hP hD hS => ?_)
                have hP : va_P D CL (w_M_set T q0 q0_a q0_b q0_c q0_rowScale q0_columnScale q0_sa q0_sb q0_sc q0_x q0_s q0_y q0_p q0_d q0_h q0_f q0_mm q0_low q0_dd q0_r q0_big q0_dt q0_dx q0_t q0_cost q0_rowScaleNow q0_columnScaleNow q0_basic q0_text q0_turned q0_na q0_nb q0_nc vq0_m vq0_n vq0_length vq0_where vq0_effort 0 vq0_at vq0_scaled vq0_solved vq0_second vq0_nm vq0_nn vq0_number vq0_bad vq0_a vq0_b vq0_c) H := hP
                have hD : va_D A (w_M_set T q0 q0_a q0_b q0_c q0_rowScale q0_columnScale q0_sa q0_sb q0_sc q0_x q0_s q0_y q0_p q0_d q0_h q0_f q0_mm q0_low q0_dd q0_r q0_big q0_dt q0_dx q0_t q0_cost q0_rowScaleNow q0_columnScaleNow q0_basic q0_text q0_turned q0_na q0_nb q0_nc vq0_m vq0_n vq0_length vq0_where vq0_effort 0 vq0_at vq0_scaled vq0_solved vq0_second vq0_nm vq0_nn vq0_number vq0_bad vq0_a vq0_b vq0_c) := hD
                refine lv_aload_n hx hb d_M_set_103 rfl (lv_at hl 0 rfl) ?_
                refine va_get (D := D) (ci := 8) (v := .int 0) (C := "ConeForgeModel") (T := FM) (N := 46) hx hb hts iM hown hK hP 0 rfl rfl 34 (by decide) (hts _ (bgc bw718)) (fun _ h9 => h9) rfl d_M_set_104 ?_
                refine lv_if_le (tgt := 112) hx hb d_M_set_107 (by decide) (fun c93 => ?_) (fun c93 => ?_)
                · have h := it_t c93 h
                  refine lv_aload_n hx hb d_M_set_112 rfl (lv_at hl 0 rfl) ?_
                  refine lv_iconst (v := 0) hx hb d_M_set_113 (by decide) ?_
                  obtain ⟨g94, h⟩ := gd_some h
                  refine va_put (D := D) (ci := 8) (v := .int 0) (ty := .boolean) (C := "ConeForgeModel") (T := FM) (N := 46) hx hb hts iM tM tM_ok nmM hown hK hP hD hS 0 rfl rfl 37 (by decide) (hts _ (bgc bw721)) (fun _ h9 => h9) rfl (by decide +kernel) (isb_n g94) (isb_f g94) (Nat.le_of_ble_eq_true rfl) d_M_set_114 (fun H locs hP hD hS => ?_)
                  have hP : va_P D CL (w_M_set T q0 q0_a q0_b q0_c q0_rowScale q0_columnScale q0_sa q0_sb q0_sc q0_x q0_s q0_y q0_p q0_d q0_h q0_f q0_mm q0_low q0_dd q0_r q0_big q0_dt q0_dx q0_t q0_cost q0_rowScaleNow q0_columnScaleNow q0_basic q0_text q0_turned q0_na q0_nb q0_nc vq0_m vq0_n vq0_length vq0_where vq0_effort 0 vq0_at vq0_scaled 0 vq0_second vq0_nm vq0_nn vq0_number vq0_bad vq0_a vq0_b vq0_c) H := hP
                  have hD : va_D A (w_M_set T q0 q0_a q0_b q0_c q0_rowScale q0_columnScale q0_sa q0_sb q0_sc q0_x q0_s q0_y q0_p q0_d q0_h q0_f q0_mm q0_low q0_dd q0_r q0_big q0_dt q0_dx q0_t q0_cost q0_rowScaleNow q0_columnScaleNow q0_basic q0_text q0_turned q0_na q0_nb q0_nc vq0_m vq0_n vq0_length vq0_where vq0_effort 0 vq0_at vq0_scaled 0 vq0_second vq0_nm vq0_nn vq0_number vq0_bad vq0_a vq0_b vq0_c) := hD
                  refine lv_iload_n hx hb d_M_set_117 rfl (lv_at hl 1 rfl) ?_
                  refine lv_if_ne (tgt := 135) hx hb d_M_set_118 (by decide) (fun c95 => ?_) (fun c95 => ?_)
                  · have h := it_f c95 h
                    refine lv_iload_n hx hb d_M_set_135 rfl (lv_at hl 1 rfl) ?_
                    refine lv_iconst (v := 1) hx hb d_M_set_136 (by decide) ?_
                    refine lv_icmp_ne (tgt := 149) hx hb d_M_set_137 (by decide) (fun c96 => ?_) (fun c96 => ?_)
                    · have h := it_f c96 h
                      refine lv_aload_n hx hb d_M_set_149 rfl (lv_at hl 0 rfl) ?_
                      refine va_get (D := D) (ci := 8) (v := .ref q0_c) (C := "ConeForgeModel") (T := FM) (N := 46) hx hb hts iM hown hK hP 0 rfl rfl 2 (by decide) (hts _ (bgc bw686)) (fun _ h9 => h9) rfl d_M_set_150 ?_
                      refine lv_iload_n hx hb d_M_set_153 rfl (lv_at hl 3 rfl) ?_
                      obtain ⟨g97, h⟩ := gd_some h
                      refine va_dald hx hb hK hP 3 0 rfl rfl (inb_in g97) d_M_set_154 ?_
                      exact J155 0 0 vq0_a vq0_b vq0_c x1 x2 x3 x4 (vq0_c x3.toNatClampNeg) H locs ls hP hD hS (lv_sub hl [0, 1, 2, 3, 4] rfl) h
                    · have h := it_t c96 h
                      refine lv_aload_n hx hb d_M_set_140 rfl (lv_at hl 0 rfl) ?_
                      refine va_get (D := D) (ci := 8) (v := .ref q0_b) (C := "ConeForgeModel") (T := FM) (N := 46) hx hb hts iM hown hK hP 0 rfl rfl 1 (by decide) (hts _ (bgc bw685)) (fun _ h9 => h9) rfl d_M_set_141 ?_
                      refine lv_iload_n hx hb d_M_set_144 rfl (lv_at hl 2 rfl) ?_
                      obtain ⟨g98, h⟩ := gd_some h
                      refine va_dald hx hb hK hP 2 0 rfl rfl (inb_in g98) d_M_set_145 ?_
                      refine lv_goto (tgt := 155) hx hb d_M_set_146 (by decide) ?_
                      exact J155 0 0 vq0_a vq0_b vq0_c x1 x2 x3 x4 (vq0_b x2.toNatClampNeg) H locs ls hP hD hS (lv_sub hl [0, 1, 2, 3, 4] rfl) h
                  · have h := it_t c95 h
                    refine lv_aload_n hx hb d_M_set_121 rfl (lv_at hl 0 rfl) ?_
                    refine va_get (D := D) (ci := 8) (v := .ref q0_a) (C := "ConeForgeModel") (T := FM) (N := 46) hx hb hts iM hown hK hP 0 rfl rfl 0 (by decide) (hts _ (bgc bw684)) (fun _ h9 => h9) rfl d_M_set_122 ?_
                    refine lv_bipush (v := 8) hx hb d_M_set_125 (by decide) ?_
                    refine lv_iload_n hx hb d_M_set_127 rfl (lv_at hl 2 rfl) ?_
                    refine lv_imul hx hb d_M_set_128 ?_
                    refine lv_iload_n hx hb d_M_set_129 rfl (lv_at hl 3 rfl) ?_
                    refine lv_iadd hx hb d_M_set_130 ?_
                    obtain ⟨g99, h⟩ := gd_some h
                    refine va_dald hx hb hK hP 1 0 rfl rfl (inb_in g99) d_M_set_131 ?_
                    refine lv_goto (tgt := 155) hx hb d_M_set_132 (by decide) ?_
                    exact J155 0 0 vq0_a vq0_b vq0_c x1 x2 x3 x4 (vq0_a ((8 * x2) + x3).toNatClampNeg) H locs ls hP hD hS (lv_sub hl [0, 1, 2, 3, 4] rfl) h
                · have h := it_f c93 h
                  refine lv_dconst0 hx hb d_M_set_110 ?_
                  exact rtD hx hb hr hlocks hQ (Option.some.inj h) hP hS d_M_set_111 rfl rfl
              · have h := it_f c92 h
                refine lv_iload_n hx hb d_M_set_81 rfl (lv_at hl 3 rfl) ?_
                refine lv_iconst (v := 0) hx hb d_M_set_82 (by decide) ?_
                refine lv_aload_n hx hb d_M_set_83 rfl (lv_at hl 0 rfl) ?_
                refine va_get (D := D) (ci := 8) (v := .int vq0_n) (C := "ConeForgeModel") (T := FM) (N := 46) hx hb hts iM hown hK hP 0 rfl rfl 30 (by decide) (hts _ (bgc bw714)) (fun _ h9 => h9) rfl d_M_set_84 ?_
                refine lv_iconst (v := 1) hx hb d_M_set_87 (by decide) ?_
                refine lv_isub hx hb d_M_set_88 ?_
                obtain ⟨u100, hu100, h⟩ := bi_some h
                refine kI (v := u100) (wc := (w_M_in T  )) (wc' := (w_M_in T  )) (runOS (As := [.int x3, .int 0, .int (vq0_n - 1)]) (rest := [.ref q0]) ((c_M_in l D T   x3 0 (vq0_n - 1) u100 hu100) H.size) ⟨hx, hb, hml, hown, hts⟩ (cwOS bw785 bw786 bw105 bw787 dd_M_in hts ⟨Nat.le_of_ble_eq_true rfl, Nat.le_of_ble_eq_true rfl⟩)  hNW hK hP hD [] rfl (by decide) rfl hl.1 rfl (lv_room (Nat.le_of_ble_eq_true rfl)) d_M_set_89 ⟨Nat.le_of_ble_eq_true rfl, Nat.le_of_ble_eq_true rfl⟩) hP hD hS hA [] rfl rfl (fun H locs hP hD hS => ?_)
                have hP : va_P D CL (w_M_set T q0 q0_a q0_b q0_c q0_rowScale q0_columnScale q0_sa q0_sb q0_sc q0_x q0_s q0_y q0_p q0_d q0_h q0_f q0_mm q0_low q0_dd q0_r q0_big q0_dt q0_dx q0_t q0_cost q0_rowScaleNow q0_columnScaleNow q0_basic q0_text q0_turned q0_na q0_nb q0_nc vq0_m vq0_n vq0_length vq0_where vq0_effort vq0_thrown vq0_at vq0_scaled vq0_solved vq0_second vq0_nm vq0_nn vq0_number vq0_bad vq0_a vq0_b vq0_c) H := hP
                have hD : va_D A (w_M_set T q0 q0_a q0_b q0_c q0_rowScale q0_columnScale q0_sa q0_sb q0_sc q0_x q0_s q0_y q0_p q0_d q0_h q0_f q0_mm q0_low q0_dd q0_r q0_big q0_dt q0_dx q0_t q0_cost q0_rowScaleNow q0_columnScaleNow q0_basic q0_text q0_turned q0_na q0_nb q0_nc vq0_m vq0_n vq0_length vq0_where vq0_effort vq0_thrown vq0_at vq0_scaled vq0_solved vq0_second vq0_nm vq0_nn vq0_number vq0_bad vq0_a vq0_b vq0_c) := hD
                refine lv_if_ne (tgt := 99) hx hb d_M_set_92 (by decide) (fun c101 => ?_) (fun c101 => ?_)
                · have h := it_f c101 h
                  refine lv_iconst (v := 0) hx hb d_M_set_99 (by decide) ?_
                  refine va_put (D := D) (ci := 8) (v := .int 0) (ty := .int) (C := "ConeForgeModel") (T := FM) (N := 46) hx hb hts iM tM tM_ok nmM hown hK hP hD hS 0 rfl rfl 34 (by decide) (hts _ (bgc bw718)) (fun _ h9 => h9) rfl (by decide +kernel) rfl rfl (Nat.le_of_ble_eq_true rfl) d_M_set_100 (fun H locs hP hD hS => ?_)
                  have hP : va_P D CL (w_M_set T q0 q0_a q0_b q0_c q0_rowScale q0_columnScale q0_sa q0_sb q0_sc q0_x q0_s q0_y q0_p q0_d q0_h q0_f q0_mm q0_low q0_dd q0_r q0_big q0_dt q0_dx q0_t q0_cost q0_rowScaleNow q0_columnScaleNow q0_basic q0_text q0_turned q0_na q0_nb q0_nc vq0_m vq0_n vq0_length vq0_where vq0_effort 0 vq0_at vq0_scaled vq0_solved vq0_second vq0_nm vq0_nn vq0_number vq0_bad vq0_a vq0_b vq0_c) H := hP
                  have hD : va_D A (w_M_set T q0 q0_a q0_b q0_c q0_rowScale q0_columnScale q0_sa q0_sb q0_sc q0_x q0_s q0_y q0_p q0_d q0_h q0_f q0_mm q0_low q0_dd q0_r q0_big q0_dt q0_dx q0_t q0_cost q0_rowScaleNow q0_columnScaleNow q0_basic q0_text q0_turned q0_na q0_nb q0_nc vq0_m vq0_n vq0_length vq0_where vq0_effort 0 vq0_at vq0_scaled vq0_solved vq0_second vq0_nm vq0_nn vq0_number vq0_bad vq0_a vq0_b vq0_c) := hD
                  refine lv_aload_n hx hb d_M_set_103 rfl (lv_at hl 0 rfl) ?_
                  refine va_get (D := D) (ci := 8) (v := .int 0) (C := "ConeForgeModel") (T := FM) (N := 46) hx hb hts iM hown hK hP 0 rfl rfl 34 (by decide) (hts _ (bgc bw718)) (fun _ h9 => h9) rfl d_M_set_104 ?_
                  refine lv_if_le (tgt := 112) hx hb d_M_set_107 (by decide) (fun c102 => ?_) (fun c102 => ?_)
                  · have h := it_t c102 h
                    refine lv_aload_n hx hb d_M_set_112 rfl (lv_at hl 0 rfl) ?_
                    refine lv_iconst (v := 0) hx hb d_M_set_113 (by decide) ?_
                    obtain ⟨g103, h⟩ := gd_some h
                    refine va_put (D := D) (ci := 8) (v := .int 0) (ty := .boolean) (C := "ConeForgeModel") (T := FM) (N := 46) hx hb hts iM tM tM_ok nmM hown hK hP hD hS 0 rfl rfl 37 (by decide) (hts _ (bgc bw721)) (fun _ h9 => h9) rfl (by decide +kernel) (isb_n g103) (isb_f g103) (Nat.le_of_ble_eq_true rfl) d_M_set_114 (fun H locs hP hD hS => ?_)
                    have hP : va_P D CL (w_M_set T q0 q0_a q0_b q0_c q0_rowScale q0_columnScale q0_sa q0_sb q0_sc q0_x q0_s q0_y q0_p q0_d q0_h q0_f q0_mm q0_low q0_dd q0_r q0_big q0_dt q0_dx q0_t q0_cost q0_rowScaleNow q0_columnScaleNow q0_basic q0_text q0_turned q0_na q0_nb q0_nc vq0_m vq0_n vq0_length vq0_where vq0_effort 0 vq0_at vq0_scaled 0 vq0_second vq0_nm vq0_nn vq0_number vq0_bad vq0_a vq0_b vq0_c) H := hP
                    have hD : va_D A (w_M_set T q0 q0_a q0_b q0_c q0_rowScale q0_columnScale q0_sa q0_sb q0_sc q0_x q0_s q0_y q0_p q0_d q0_h q0_f q0_mm q0_low q0_dd q0_r q0_big q0_dt q0_dx q0_t q0_cost q0_rowScaleNow q0_columnScaleNow q0_basic q0_text q0_turned q0_na q0_nb q0_nc vq0_m vq0_n vq0_length vq0_where vq0_effort 0 vq0_at vq0_scaled 0 vq0_second vq0_nm vq0_nn vq0_number vq0_bad vq0_a vq0_b vq0_c) := hD
                    refine lv_iload_n hx hb d_M_set_117 rfl (lv_at hl 1 rfl) ?_
                    refine lv_if_ne (tgt := 135) hx hb d_M_set_118 (by decide) (fun c104 => ?_) (fun c104 => ?_)
                    · have h := it_f c104 h
                      refine lv_iload_n hx hb d_M_set_135 rfl (lv_at hl 1 rfl) ?_
                      refine lv_iconst (v := 1) hx hb d_M_set_136 (by decide) ?_
                      refine lv_icmp_ne (tgt := 149) hx hb d_M_set_137 (by decide) (fun c105 => ?_) (fun c105 => ?_)
                      · have h := it_f c105 h
                        refine lv_aload_n hx hb d_M_set_149 rfl (lv_at hl 0 rfl) ?_
                        refine va_get (D := D) (ci := 8) (v := .ref q0_c) (C := "ConeForgeModel") (T := FM) (N := 46) hx hb hts iM hown hK hP 0 rfl rfl 2 (by decide) (hts _ (bgc bw686)) (fun _ h9 => h9) rfl d_M_set_150 ?_
                        refine lv_iload_n hx hb d_M_set_153 rfl (lv_at hl 3 rfl) ?_
                        obtain ⟨g106, h⟩ := gd_some h
                        refine va_dald hx hb hK hP 3 0 rfl rfl (inb_in g106) d_M_set_154 ?_
                        exact J155 0 0 vq0_a vq0_b vq0_c x1 x2 x3 x4 (vq0_c x3.toNatClampNeg) H locs ls hP hD hS (lv_sub hl [0, 1, 2, 3, 4] rfl) h
                      · have h := it_t c105 h
                        refine lv_aload_n hx hb d_M_set_140 rfl (lv_at hl 0 rfl) ?_
                        refine va_get (D := D) (ci := 8) (v := .ref q0_b) (C := "ConeForgeModel") (T := FM) (N := 46) hx hb hts iM hown hK hP 0 rfl rfl 1 (by decide) (hts _ (bgc bw685)) (fun _ h9 => h9) rfl d_M_set_141 ?_
                        refine lv_iload_n hx hb d_M_set_144 rfl (lv_at hl 2 rfl) ?_
                        obtain ⟨g107, h⟩ := gd_some h
                        refine va_dald hx hb hK hP 2 0 rfl rfl (inb_in g107) d_M_set_145 ?_
                        refine lv_goto (tgt := 155) hx hb d_M_set_146 (by decide) ?_
                        exact J155 0 0 vq0_a vq0_b vq0_c x1 x2 x3 x4 (vq0_b x2.toNatClampNeg) H locs ls hP hD hS (lv_sub hl [0, 1, 2, 3, 4] rfl) h
                    · have h := it_t c104 h
                      refine lv_aload_n hx hb d_M_set_121 rfl (lv_at hl 0 rfl) ?_
                      refine va_get (D := D) (ci := 8) (v := .ref q0_a) (C := "ConeForgeModel") (T := FM) (N := 46) hx hb hts iM hown hK hP 0 rfl rfl 0 (by decide) (hts _ (bgc bw684)) (fun _ h9 => h9) rfl d_M_set_122 ?_
                      refine lv_bipush (v := 8) hx hb d_M_set_125 (by decide) ?_
                      refine lv_iload_n hx hb d_M_set_127 rfl (lv_at hl 2 rfl) ?_
                      refine lv_imul hx hb d_M_set_128 ?_
                      refine lv_iload_n hx hb d_M_set_129 rfl (lv_at hl 3 rfl) ?_
                      refine lv_iadd hx hb d_M_set_130 ?_
                      obtain ⟨g108, h⟩ := gd_some h
                      refine va_dald hx hb hK hP 1 0 rfl rfl (inb_in g108) d_M_set_131 ?_
                      refine lv_goto (tgt := 155) hx hb d_M_set_132 (by decide) ?_
                      exact J155 0 0 vq0_a vq0_b vq0_c x1 x2 x3 x4 (vq0_a ((8 * x2) + x3).toNatClampNeg) H locs ls hP hD hS (lv_sub hl [0, 1, 2, 3, 4] rfl) h
                  · have h := it_f c102 h
                    refine lv_dconst0 hx hb d_M_set_110 ?_
                    exact rtD hx hb hr hlocks hQ (Option.some.inj h) hP hS d_M_set_111 rfl rfl
                · have h := it_t c101 h
                  refine lv_iconst (v := 2) hx hb d_M_set_95 (by decide) ?_
                  refine lv_goto (tgt := 100) hx hb d_M_set_96 (by decide) ?_
                  refine va_put (D := D) (ci := 8) (v := .int 2) (ty := .int) (C := "ConeForgeModel") (T := FM) (N := 46) hx hb hts iM tM tM_ok nmM hown hK hP hD hS 0 rfl rfl 34 (by decide) (hts _ (bgc bw718)) (fun _ h9 => h9) rfl (by decide +kernel) rfl rfl (Nat.le_of_ble_eq_true rfl) d_M_set_100 (fun H locs hP hD hS => ?_)
                  have hP : va_P D CL (w_M_set T q0 q0_a q0_b q0_c q0_rowScale q0_columnScale q0_sa q0_sb q0_sc q0_x q0_s q0_y q0_p q0_d q0_h q0_f q0_mm q0_low q0_dd q0_r q0_big q0_dt q0_dx q0_t q0_cost q0_rowScaleNow q0_columnScaleNow q0_basic q0_text q0_turned q0_na q0_nb q0_nc vq0_m vq0_n vq0_length vq0_where vq0_effort 2 vq0_at vq0_scaled vq0_solved vq0_second vq0_nm vq0_nn vq0_number vq0_bad vq0_a vq0_b vq0_c) H := hP
                  have hD : va_D A (w_M_set T q0 q0_a q0_b q0_c q0_rowScale q0_columnScale q0_sa q0_sb q0_sc q0_x q0_s q0_y q0_p q0_d q0_h q0_f q0_mm q0_low q0_dd q0_r q0_big q0_dt q0_dx q0_t q0_cost q0_rowScaleNow q0_columnScaleNow q0_basic q0_text q0_turned q0_na q0_nb q0_nc vq0_m vq0_n vq0_length vq0_where vq0_effort 2 vq0_at vq0_scaled vq0_solved vq0_second vq0_nm vq0_nn vq0_number vq0_bad vq0_a vq0_b vq0_c) := hD
                  refine lv_aload_n hx hb d_M_set_103 rfl (lv_at hl 0 rfl) ?_
                  refine va_get (D := D) (ci := 8) (v := .int 2) (C := "ConeForgeModel") (T := FM) (N := 46) hx hb hts iM hown hK hP 0 rfl rfl 34 (by decide) (hts _ (bgc bw718)) (fun _ h9 => h9) rfl d_M_set_104 ?_
                  refine lv_if_le (tgt := 112) hx hb d_M_set_107 (by decide) (fun c109 => ?_) (fun c109 => ?_)
                  · have h := it_t c109 h
                    refine lv_aload_n hx hb d_M_set_112 rfl (lv_at hl 0 rfl) ?_
                    refine lv_iconst (v := 0) hx hb d_M_set_113 (by decide) ?_
                    obtain ⟨g110, h⟩ := gd_some h
                    refine va_put (D := D) (ci := 8) (v := .int 0) (ty := .boolean) (C := "ConeForgeModel") (T := FM) (N := 46) hx hb hts iM tM tM_ok nmM hown hK hP hD hS 0 rfl rfl 37 (by decide) (hts _ (bgc bw721)) (fun _ h9 => h9) rfl (by decide +kernel) (isb_n g110) (isb_f g110) (Nat.le_of_ble_eq_true rfl) d_M_set_114 (fun H locs hP hD hS => ?_)
                    have hP : va_P D CL (w_M_set T q0 q0_a q0_b q0_c q0_rowScale q0_columnScale q0_sa q0_sb q0_sc q0_x q0_s q0_y q0_p q0_d q0_h q0_f q0_mm q0_low q0_dd q0_r q0_big q0_dt q0_dx q0_t q0_cost q0_rowScaleNow q0_columnScaleNow q0_basic q0_text q0_turned q0_na q0_nb q0_nc vq0_m vq0_n vq0_length vq0_where vq0_effort 2 vq0_at vq0_scaled 0 vq0_second vq0_nm vq0_nn vq0_number vq0_bad vq0_a vq0_b vq0_c) H := hP
                    have hD : va_D A (w_M_set T q0 q0_a q0_b q0_c q0_rowScale q0_columnScale q0_sa q0_sb q0_sc q0_x q0_s q0_y q0_p q0_d q0_h q0_f q0_mm q0_low q0_dd q0_r q0_big q0_dt q0_dx q0_t q0_cost q0_rowScaleNow q0_columnScaleNow q0_basic q0_text q0_turned q0_na q0_nb q0_nc vq0_m vq0_n vq0_length vq0_where vq0_effort 2 vq0_at vq0_scaled 0 vq0_second vq0_nm vq0_nn vq0_number vq0_bad vq0_a vq0_b vq0_c) := hD
                    refine lv_iload_n hx hb d_M_set_117 rfl (lv_at hl 1 rfl) ?_
                    refine lv_if_ne (tgt := 135) hx hb d_M_set_118 (by decide) (fun c111 => ?_) (fun c111 => ?_)
                    · have h := it_f c111 h
                      refine lv_iload_n hx hb d_M_set_135 rfl (lv_at hl 1 rfl) ?_
                      refine lv_iconst (v := 1) hx hb d_M_set_136 (by decide) ?_
                      refine lv_icmp_ne (tgt := 149) hx hb d_M_set_137 (by decide) (fun c112 => ?_) (fun c112 => ?_)
                      · have h := it_f c112 h
                        refine lv_aload_n hx hb d_M_set_149 rfl (lv_at hl 0 rfl) ?_
                        refine va_get (D := D) (ci := 8) (v := .ref q0_c) (C := "ConeForgeModel") (T := FM) (N := 46) hx hb hts iM hown hK hP 0 rfl rfl 2 (by decide) (hts _ (bgc bw686)) (fun _ h9 => h9) rfl d_M_set_150 ?_
                        refine lv_iload_n hx hb d_M_set_153 rfl (lv_at hl 3 rfl) ?_
                        obtain ⟨g113, h⟩ := gd_some h
                        refine va_dald hx hb hK hP 3 0 rfl rfl (inb_in g113) d_M_set_154 ?_
                        exact J155 2 0 vq0_a vq0_b vq0_c x1 x2 x3 x4 (vq0_c x3.toNatClampNeg) H locs ls hP hD hS (lv_sub hl [0, 1, 2, 3, 4] rfl) h
                      · have h := it_t c112 h
                        refine lv_aload_n hx hb d_M_set_140 rfl (lv_at hl 0 rfl) ?_
                        refine va_get (D := D) (ci := 8) (v := .ref q0_b) (C := "ConeForgeModel") (T := FM) (N := 46) hx hb hts iM hown hK hP 0 rfl rfl 1 (by decide) (hts _ (bgc bw685)) (fun _ h9 => h9) rfl d_M_set_141 ?_
                        refine lv_iload_n hx hb d_M_set_144 rfl (lv_at hl 2 rfl) ?_
                        obtain ⟨g114, h⟩ := gd_some h
                        refine va_dald hx hb hK hP 2 0 rfl rfl (inb_in g114) d_M_set_145 ?_
                        refine lv_goto (tgt := 155) hx hb d_M_set_146 (by decide) ?_
                        exact J155 2 0 vq0_a vq0_b vq0_c x1 x2 x3 x4 (vq0_b x2.toNatClampNeg) H locs ls hP hD hS (lv_sub hl [0, 1, 2, 3, 4] rfl) h
                    · have h := it_t c111 h
                      refine lv_aload_n hx hb d_M_set_121 rfl (lv_at hl 0 rfl) ?_
                      refine va_get (D := D) (ci := 8) (v := .ref q0_a) (C := "ConeForgeModel") (T := FM) (N := 46) hx hb hts iM hown hK hP 0 rfl rfl 0 (by decide) (hts _ (bgc bw684)) (fun _ h9 => h9) rfl d_M_set_122 ?_
                      refine lv_bipush (v := 8) hx hb d_M_set_125 (by decide) ?_
                      refine lv_iload_n hx hb d_M_set_127 rfl (lv_at hl 2 rfl) ?_
                      refine lv_imul hx hb d_M_set_128 ?_
                      refine lv_iload_n hx hb d_M_set_129 rfl (lv_at hl 3 rfl) ?_
                      refine lv_iadd hx hb d_M_set_130 ?_
                      obtain ⟨g115, h⟩ := gd_some h
                      refine va_dald hx hb hK hP 1 0 rfl rfl (inb_in g115) d_M_set_131 ?_
                      refine lv_goto (tgt := 155) hx hb d_M_set_132 (by decide) ?_
                      exact J155 2 0 vq0_a vq0_b vq0_c x1 x2 x3 x4 (vq0_a ((8 * x2) + x3).toNatClampNeg) H locs ls hP hD hS (lv_sub hl [0, 1, 2, 3, 4] rfl) h
                  · have h := it_f c109 h
                    refine lv_dconst0 hx hb d_M_set_110 ?_
                    exact rtD hx hb hr hlocks hQ (Option.some.inj h) hP hS d_M_set_111 rfl rfl
            · have h := it_f c91 h
              refine lv_iload_n hx hb d_M_set_62 rfl (lv_at hl 2 rfl) ?_
              refine lv_iconst (v := 0) hx hb d_M_set_63 (by decide) ?_
              refine lv_aload_n hx hb d_M_set_64 rfl (lv_at hl 0 rfl) ?_
              refine va_get (D := D) (ci := 8) (v := .int vq0_m) (C := "ConeForgeModel") (T := FM) (N := 46) hx hb hts iM hown hK hP 0 rfl rfl 29 (by decide) (hts _ (bgc bw713)) (fun _ h9 => h9) rfl d_M_set_65 ?_
              refine lv_iconst (v := 1) hx hb d_M_set_68 (by decide) ?_
              refine lv_isub hx hb d_M_set_69 ?_
              obtain ⟨u116, hu116, h⟩ := bi_some h
              refine kI (v := u116) (wc := (w_M_in T  )) (wc' := (w_M_in T  )) (runOS (As := [.int x2, .int 0, .int (vq0_m - 1)]) (rest := [.ref q0]) ((c_M_in l D T   x2 0 (vq0_m - 1) u116 hu116) H.size) ⟨hx, hb, hml, hown, hts⟩ (cwOS bw785 bw786 bw105 bw787 dd_M_in hts ⟨Nat.le_of_ble_eq_true rfl, Nat.le_of_ble_eq_true rfl⟩)  hNW hK hP hD [] rfl (by decide) rfl hl.1 rfl (lv_room (Nat.le_of_ble_eq_true rfl)) d_M_set_70 ⟨Nat.le_of_ble_eq_true rfl, Nat.le_of_ble_eq_true rfl⟩) hP hD hS hA [] rfl rfl (fun H locs hP hD hS => ?_)
              have hP : va_P D CL (w_M_set T q0 q0_a q0_b q0_c q0_rowScale q0_columnScale q0_sa q0_sb q0_sc q0_x q0_s q0_y q0_p q0_d q0_h q0_f q0_mm q0_low q0_dd q0_r q0_big q0_dt q0_dx q0_t q0_cost q0_rowScaleNow q0_columnScaleNow q0_basic q0_text q0_turned q0_na q0_nb q0_nc vq0_m vq0_n vq0_length vq0_where vq0_effort vq0_thrown vq0_at vq0_scaled vq0_solved vq0_second vq0_nm vq0_nn vq0_number vq0_bad vq0_a vq0_b vq0_c) H := hP
              have hD : va_D A (w_M_set T q0 q0_a q0_b q0_c q0_rowScale q0_columnScale q0_sa q0_sb q0_sc q0_x q0_s q0_y q0_p q0_d q0_h q0_f q0_mm q0_low q0_dd q0_r q0_big q0_dt q0_dx q0_t q0_cost q0_rowScaleNow q0_columnScaleNow q0_basic q0_text q0_turned q0_na q0_nb q0_nc vq0_m vq0_n vq0_length vq0_where vq0_effort vq0_thrown vq0_at vq0_scaled vq0_solved vq0_second vq0_nm vq0_nn vq0_number vq0_bad vq0_a vq0_b vq0_c) := hD
              refine lv_if_eq (tgt := 95) hx hb d_M_set_73 (by decide) (fun c117 => ?_) (fun c117 => ?_)
              · have h := it_t c117 h
                refine lv_iconst (v := 2) hx hb d_M_set_95 (by decide) ?_
                refine lv_goto (tgt := 100) hx hb d_M_set_96 (by decide) ?_
                refine va_put (D := D) (ci := 8) (v := .int 2) (ty := .int) (C := "ConeForgeModel") (T := FM) (N := 46) hx hb hts iM tM tM_ok nmM hown hK hP hD hS 0 rfl rfl 34 (by decide) (hts _ (bgc bw718)) (fun _ h9 => h9) rfl (by decide +kernel) rfl rfl (Nat.le_of_ble_eq_true rfl) d_M_set_100 (fun H locs hP hD hS => ?_)
                have hP : va_P D CL (w_M_set T q0 q0_a q0_b q0_c q0_rowScale q0_columnScale q0_sa q0_sb q0_sc q0_x q0_s q0_y q0_p q0_d q0_h q0_f q0_mm q0_low q0_dd q0_r q0_big q0_dt q0_dx q0_t q0_cost q0_rowScaleNow q0_columnScaleNow q0_basic q0_text q0_turned q0_na q0_nb q0_nc vq0_m vq0_n vq0_length vq0_where vq0_effort 2 vq0_at vq0_scaled vq0_solved vq0_second vq0_nm vq0_nn vq0_number vq0_bad vq0_a vq0_b vq0_c) H := hP
                have hD : va_D A (w_M_set T q0 q0_a q0_b q0_c q0_rowScale q0_columnScale q0_sa q0_sb q0_sc q0_x q0_s q0_y q0_p q0_d q0_h q0_f q0_mm q0_low q0_dd q0_r q0_big q0_dt q0_dx q0_t q0_cost q0_rowScaleNow q0_columnScaleNow q0_basic q0_text q0_turned q0_na q0_nb q0_nc vq0_m vq0_n vq0_length vq0_where vq0_effort 2 vq0_at vq0_scaled vq0_solved vq0_second vq0_nm vq0_nn vq0_number vq0_bad vq0_a vq0_b vq0_c) := hD
                refine lv_aload_n hx hb d_M_set_103 rfl (lv_at hl 0 rfl) ?_
                refine va_get (D := D) (ci := 8) (v := .int 2) (C := "ConeForgeModel") (T := FM) (N := 46) hx hb hts iM hown hK hP 0 rfl rfl 34 (by decide) (hts _ (bgc bw718)) (fun _ h9 => h9) rfl d_M_set_104 ?_
                refine lv_if_le (tgt := 112) hx hb d_M_set_107 (by decide) (fun c118 => ?_) (fun c118 => ?_)
                · have h := it_t c118 h
                  refine lv_aload_n hx hb d_M_set_112 rfl (lv_at hl 0 rfl) ?_
                  refine lv_iconst (v := 0) hx hb d_M_set_113 (by decide) ?_
                  obtain ⟨g119, h⟩ := gd_some h
                  refine va_put (D := D) (ci := 8) (v := .int 0) (ty := .boolean) (C := "ConeForgeModel") (T := FM) (N := 46) hx hb hts iM tM tM_ok nmM hown hK hP hD hS 0 rfl rfl 37 (by decide) (hts _ (bgc bw721)) (fun _ h9 => h9) rfl (by decide +kernel) (isb_n g119) (isb_f g119) (Nat.le_of_ble_eq_true rfl) d_M_set_114 (fun H locs hP hD hS => ?_)
                  have hP : va_P D CL (w_M_set T q0 q0_a q0_b q0_c q0_rowScale q0_columnScale q0_sa q0_sb q0_sc q0_x q0_s q0_y q0_p q0_d q0_h q0_f q0_mm q0_low q0_dd q0_r q0_big q0_dt q0_dx q0_t q0_cost q0_rowScaleNow q0_columnScaleNow q0_basic q0_text q0_turned q0_na q0_nb q0_nc vq0_m vq0_n vq0_length vq0_where vq0_effort 2 vq0_at vq0_scaled 0 vq0_second vq0_nm vq0_nn vq0_number vq0_bad vq0_a vq0_b vq0_c) H := hP
                  have hD : va_D A (w_M_set T q0 q0_a q0_b q0_c q0_rowScale q0_columnScale q0_sa q0_sb q0_sc q0_x q0_s q0_y q0_p q0_d q0_h q0_f q0_mm q0_low q0_dd q0_r q0_big q0_dt q0_dx q0_t q0_cost q0_rowScaleNow q0_columnScaleNow q0_basic q0_text q0_turned q0_na q0_nb q0_nc vq0_m vq0_n vq0_length vq0_where vq0_effort 2 vq0_at vq0_scaled 0 vq0_second vq0_nm vq0_nn vq0_number vq0_bad vq0_a vq0_b vq0_c) := hD
                  refine lv_iload_n hx hb d_M_set_117 rfl (lv_at hl 1 rfl) ?_
                  refine lv_if_ne (tgt := 135) hx hb d_M_set_118 (by decide) (fun c120 => ?_) (fun c120 => ?_)
                  · have h := it_f c120 h
                    refine lv_iload_n hx hb d_M_set_135 rfl (lv_at hl 1 rfl) ?_
                    refine lv_iconst (v := 1) hx hb d_M_set_136 (by decide) ?_
                    refine lv_icmp_ne (tgt := 149) hx hb d_M_set_137 (by decide) (fun c121 => ?_) (fun c121 => ?_)
                    · have h := it_f c121 h
                      refine lv_aload_n hx hb d_M_set_149 rfl (lv_at hl 0 rfl) ?_
                      refine va_get (D := D) (ci := 8) (v := .ref q0_c) (C := "ConeForgeModel") (T := FM) (N := 46) hx hb hts iM hown hK hP 0 rfl rfl 2 (by decide) (hts _ (bgc bw686)) (fun _ h9 => h9) rfl d_M_set_150 ?_
                      refine lv_iload_n hx hb d_M_set_153 rfl (lv_at hl 3 rfl) ?_
                      obtain ⟨g122, h⟩ := gd_some h
                      refine va_dald hx hb hK hP 3 0 rfl rfl (inb_in g122) d_M_set_154 ?_
                      exact J155 2 0 vq0_a vq0_b vq0_c x1 x2 x3 x4 (vq0_c x3.toNatClampNeg) H locs ls hP hD hS (lv_sub hl [0, 1, 2, 3, 4] rfl) h
                    · have h := it_t c121 h
                      refine lv_aload_n hx hb d_M_set_140 rfl (lv_at hl 0 rfl) ?_
                      refine va_get (D := D) (ci := 8) (v := .ref q0_b) (C := "ConeForgeModel") (T := FM) (N := 46) hx hb hts iM hown hK hP 0 rfl rfl 1 (by decide) (hts _ (bgc bw685)) (fun _ h9 => h9) rfl d_M_set_141 ?_
                      refine lv_iload_n hx hb d_M_set_144 rfl (lv_at hl 2 rfl) ?_
                      obtain ⟨g123, h⟩ := gd_some h
                      refine va_dald hx hb hK hP 2 0 rfl rfl (inb_in g123) d_M_set_145 ?_
                      refine lv_goto (tgt := 155) hx hb d_M_set_146 (by decide) ?_
                      exact J155 2 0 vq0_a vq0_b vq0_c x1 x2 x3 x4 (vq0_b x2.toNatClampNeg) H locs ls hP hD hS (lv_sub hl [0, 1, 2, 3, 4] rfl) h
                  · have h := it_t c120 h
                    refine lv_aload_n hx hb d_M_set_121 rfl (lv_at hl 0 rfl) ?_
                    refine va_get (D := D) (ci := 8) (v := .ref q0_a) (C := "ConeForgeModel") (T := FM) (N := 46) hx hb hts iM hown hK hP 0 rfl rfl 0 (by decide) (hts _ (bgc bw684)) (fun _ h9 => h9) rfl d_M_set_122 ?_
                    refine lv_bipush (v := 8) hx hb d_M_set_125 (by decide) ?_
                    refine lv_iload_n hx hb d_M_set_127 rfl (lv_at hl 2 rfl) ?_
                    refine lv_imul hx hb d_M_set_128 ?_
                    refine lv_iload_n hx hb d_M_set_129 rfl (lv_at hl 3 rfl) ?_
                    refine lv_iadd hx hb d_M_set_130 ?_
                    obtain ⟨g124, h⟩ := gd_some h
                    refine va_dald hx hb hK hP 1 0 rfl rfl (inb_in g124) d_M_set_131 ?_
                    refine lv_goto (tgt := 155) hx hb d_M_set_132 (by decide) ?_
                    exact J155 2 0 vq0_a vq0_b vq0_c x1 x2 x3 x4 (vq0_a ((8 * x2) + x3).toNatClampNeg) H locs ls hP hD hS (lv_sub hl [0, 1, 2, 3, 4] rfl) h
                · have h := it_f c118 h
                  refine lv_dconst0 hx hb d_M_set_110 ?_
                  exact rtD hx hb hr hlocks hQ (Option.some.inj h) hP hS d_M_set_111 rfl rfl
              · have h := it_f c117 h
                refine lv_iload_n hx hb d_M_set_76 rfl (lv_at hl 1 rfl) ?_
                refine lv_iconst (v := 1) hx hb d_M_set_77 (by decide) ?_
                refine lv_icmp_eq (tgt := 99) hx hb d_M_set_78 (by decide) (fun c125 => ?_) (fun c125 => ?_)
                · have h := it_t c125 h
                  refine lv_iconst (v := 0) hx hb d_M_set_99 (by decide) ?_
                  refine va_put (D := D) (ci := 8) (v := .int 0) (ty := .int) (C := "ConeForgeModel") (T := FM) (N := 46) hx hb hts iM tM tM_ok nmM hown hK hP hD hS 0 rfl rfl 34 (by decide) (hts _ (bgc bw718)) (fun _ h9 => h9) rfl (by decide +kernel) rfl rfl (Nat.le_of_ble_eq_true rfl) d_M_set_100 (fun H locs hP hD hS => ?_)
                  have hP : va_P D CL (w_M_set T q0 q0_a q0_b q0_c q0_rowScale q0_columnScale q0_sa q0_sb q0_sc q0_x q0_s q0_y q0_p q0_d q0_h q0_f q0_mm q0_low q0_dd q0_r q0_big q0_dt q0_dx q0_t q0_cost q0_rowScaleNow q0_columnScaleNow q0_basic q0_text q0_turned q0_na q0_nb q0_nc vq0_m vq0_n vq0_length vq0_where vq0_effort 0 vq0_at vq0_scaled vq0_solved vq0_second vq0_nm vq0_nn vq0_number vq0_bad vq0_a vq0_b vq0_c) H := hP
                  have hD : va_D A (w_M_set T q0 q0_a q0_b q0_c q0_rowScale q0_columnScale q0_sa q0_sb q0_sc q0_x q0_s q0_y q0_p q0_d q0_h q0_f q0_mm q0_low q0_dd q0_r q0_big q0_dt q0_dx q0_t q0_cost q0_rowScaleNow q0_columnScaleNow q0_basic q0_text q0_turned q0_na q0_nb q0_nc vq0_m vq0_n vq0_length vq0_where vq0_effort 0 vq0_at vq0_scaled vq0_solved vq0_second vq0_nm vq0_nn vq0_number vq0_bad vq0_a vq0_b vq0_c) := hD
                  refine lv_aload_n hx hb d_M_set_103 rfl (lv_at hl 0 rfl) ?_
                  refine va_get (D := D) (ci := 8) (v := .int 0) (C := "ConeForgeModel") (T := FM) (N := 46) hx hb hts iM hown hK hP 0 rfl rfl 34 (by decide) (hts _ (bgc bw718)) (fun _ h9 => h9) rfl d_M_set_104 ?_
                  refine lv_if_le (tgt := 112) hx hb d_M_set_107 (by decide) (fun c126 => ?_) (fun c126 => ?_)
                  · have h := it_t c126 h
                    refine lv_aload_n hx hb d_M_set_112 rfl (lv_at hl 0 rfl) ?_
                    refine lv_iconst (v := 0) hx hb d_M_set_113 (by decide) ?_
                    obtain ⟨g127, h⟩ := gd_some h
                    refine va_put (D := D) (ci := 8) (v := .int 0) (ty := .boolean) (C := "ConeForgeModel") (T := FM) (N := 46) hx hb hts iM tM tM_ok nmM hown hK hP hD hS 0 rfl rfl 37 (by decide) (hts _ (bgc bw721)) (fun _ h9 => h9) rfl (by decide +kernel) (isb_n g127) (isb_f g127) (Nat.le_of_ble_eq_true rfl) d_M_set_114 (fun H locs hP hD hS => ?_)
                    have hP : va_P D CL (w_M_set T q0 q0_a q0_b q0_c q0_rowScale q0_columnScale q0_sa q0_sb q0_sc q0_x q0_s q0_y q0_p q0_d q0_h q0_f q0_mm q0_low q0_dd q0_r q0_big q0_dt q0_dx q0_t q0_cost q0_rowScaleNow q0_columnScaleNow q0_basic q0_text q0_turned q0_na q0_nb q0_nc vq0_m vq0_n vq0_length vq0_where vq0_effort 0 vq0_at vq0_scaled 0 vq0_second vq0_nm vq0_nn vq0_number vq0_bad vq0_a vq0_b vq0_c) H := hP
                    have hD : va_D A (w_M_set T q0 q0_a q0_b q0_c q0_rowScale q0_columnScale q0_sa q0_sb q0_sc q0_x q0_s q0_y q0_p q0_d q0_h q0_f q0_mm q0_low q0_dd q0_r q0_big q0_dt q0_dx q0_t q0_cost q0_rowScaleNow q0_columnScaleNow q0_basic q0_text q0_turned q0_na q0_nb q0_nc vq0_m vq0_n vq0_length vq0_where vq0_effort 0 vq0_at vq0_scaled 0 vq0_second vq0_nm vq0_nn vq0_number vq0_bad vq0_a vq0_b vq0_c) := hD
                    refine lv_iload_n hx hb d_M_set_117 rfl (lv_at hl 1 rfl) ?_
                    refine lv_if_ne (tgt := 135) hx hb d_M_set_118 (by decide) (fun c128 => ?_) (fun c128 => ?_)
                    · have h := it_f c128 h
                      refine lv_iload_n hx hb d_M_set_135 rfl (lv_at hl 1 rfl) ?_
                      refine lv_iconst (v := 1) hx hb d_M_set_136 (by decide) ?_
                      refine lv_icmp_ne (tgt := 149) hx hb d_M_set_137 (by decide) (fun c129 => ?_) (fun c129 => ?_)
                      · have h := it_f c129 h
                        refine lv_aload_n hx hb d_M_set_149 rfl (lv_at hl 0 rfl) ?_
                        refine va_get (D := D) (ci := 8) (v := .ref q0_c) (C := "ConeForgeModel") (T := FM) (N := 46) hx hb hts iM hown hK hP 0 rfl rfl 2 (by decide) (hts _ (bgc bw686)) (fun _ h9 => h9) rfl d_M_set_150 ?_
                        refine lv_iload_n hx hb d_M_set_153 rfl (lv_at hl 3 rfl) ?_
                        obtain ⟨g130, h⟩ := gd_some h
                        refine va_dald hx hb hK hP 3 0 rfl rfl (inb_in g130) d_M_set_154 ?_
                        exact J155 0 0 vq0_a vq0_b vq0_c x1 x2 x3 x4 (vq0_c x3.toNatClampNeg) H locs ls hP hD hS (lv_sub hl [0, 1, 2, 3, 4] rfl) h
                      · have h := it_t c129 h
                        refine lv_aload_n hx hb d_M_set_140 rfl (lv_at hl 0 rfl) ?_
                        refine va_get (D := D) (ci := 8) (v := .ref q0_b) (C := "ConeForgeModel") (T := FM) (N := 46) hx hb hts iM hown hK hP 0 rfl rfl 1 (by decide) (hts _ (bgc bw685)) (fun _ h9 => h9) rfl d_M_set_141 ?_
                        refine lv_iload_n hx hb d_M_set_144 rfl (lv_at hl 2 rfl) ?_
                        obtain ⟨g131, h⟩ := gd_some h
                        refine va_dald hx hb hK hP 2 0 rfl rfl (inb_in g131) d_M_set_145 ?_
                        refine lv_goto (tgt := 155) hx hb d_M_set_146 (by decide) ?_
                        exact J155 0 0 vq0_a vq0_b vq0_c x1 x2 x3 x4 (vq0_b x2.toNatClampNeg) H locs ls hP hD hS (lv_sub hl [0, 1, 2, 3, 4] rfl) h
                    · have h := it_t c128 h
                      refine lv_aload_n hx hb d_M_set_121 rfl (lv_at hl 0 rfl) ?_
                      refine va_get (D := D) (ci := 8) (v := .ref q0_a) (C := "ConeForgeModel") (T := FM) (N := 46) hx hb hts iM hown hK hP 0 rfl rfl 0 (by decide) (hts _ (bgc bw684)) (fun _ h9 => h9) rfl d_M_set_122 ?_
                      refine lv_bipush (v := 8) hx hb d_M_set_125 (by decide) ?_
                      refine lv_iload_n hx hb d_M_set_127 rfl (lv_at hl 2 rfl) ?_
                      refine lv_imul hx hb d_M_set_128 ?_
                      refine lv_iload_n hx hb d_M_set_129 rfl (lv_at hl 3 rfl) ?_
                      refine lv_iadd hx hb d_M_set_130 ?_
                      obtain ⟨g132, h⟩ := gd_some h
                      refine va_dald hx hb hK hP 1 0 rfl rfl (inb_in g132) d_M_set_131 ?_
                      refine lv_goto (tgt := 155) hx hb d_M_set_132 (by decide) ?_
                      exact J155 0 0 vq0_a vq0_b vq0_c x1 x2 x3 x4 (vq0_a ((8 * x2) + x3).toNatClampNeg) H locs ls hP hD hS (lv_sub hl [0, 1, 2, 3, 4] rfl) h
                  · have h := it_f c126 h
                    refine lv_dconst0 hx hb d_M_set_110 ?_
                    exact rtD hx hb hr hlocks hQ (Option.some.inj h) hP hS d_M_set_111 rfl rfl
                · have h := it_f c125 h
                  refine lv_iload_n hx hb d_M_set_81 rfl (lv_at hl 3 rfl) ?_
                  refine lv_iconst (v := 0) hx hb d_M_set_82 (by decide) ?_
                  refine lv_aload_n hx hb d_M_set_83 rfl (lv_at hl 0 rfl) ?_
                  refine va_get (D := D) (ci := 8) (v := .int vq0_n) (C := "ConeForgeModel") (T := FM) (N := 46) hx hb hts iM hown hK hP 0 rfl rfl 30 (by decide) (hts _ (bgc bw714)) (fun _ h9 => h9) rfl d_M_set_84 ?_
                  refine lv_iconst (v := 1) hx hb d_M_set_87 (by decide) ?_
                  refine lv_isub hx hb d_M_set_88 ?_
                  obtain ⟨u133, hu133, h⟩ := bi_some h
                  refine kI (v := u133) (wc := (w_M_in T  )) (wc' := (w_M_in T  )) (runOS (As := [.int x3, .int 0, .int (vq0_n - 1)]) (rest := [.ref q0]) ((c_M_in l D T   x3 0 (vq0_n - 1) u133 hu133) H.size) ⟨hx, hb, hml, hown, hts⟩ (cwOS bw785 bw786 bw105 bw787 dd_M_in hts ⟨Nat.le_of_ble_eq_true rfl, Nat.le_of_ble_eq_true rfl⟩)  hNW hK hP hD [] rfl (by decide) rfl hl.1 rfl (lv_room (Nat.le_of_ble_eq_true rfl)) d_M_set_89 ⟨Nat.le_of_ble_eq_true rfl, Nat.le_of_ble_eq_true rfl⟩) hP hD hS hA [] rfl rfl (fun H locs hP hD hS => ?_)
                  have hP : va_P D CL (w_M_set T q0 q0_a q0_b q0_c q0_rowScale q0_columnScale q0_sa q0_sb q0_sc q0_x q0_s q0_y q0_p q0_d q0_h q0_f q0_mm q0_low q0_dd q0_r q0_big q0_dt q0_dx q0_t q0_cost q0_rowScaleNow q0_columnScaleNow q0_basic q0_text q0_turned q0_na q0_nb q0_nc vq0_m vq0_n vq0_length vq0_where vq0_effort vq0_thrown vq0_at vq0_scaled vq0_solved vq0_second vq0_nm vq0_nn vq0_number vq0_bad vq0_a vq0_b vq0_c) H := hP
                  have hD : va_D A (w_M_set T q0 q0_a q0_b q0_c q0_rowScale q0_columnScale q0_sa q0_sb q0_sc q0_x q0_s q0_y q0_p q0_d q0_h q0_f q0_mm q0_low q0_dd q0_r q0_big q0_dt q0_dx q0_t q0_cost q0_rowScaleNow q0_columnScaleNow q0_basic q0_text q0_turned q0_na q0_nb q0_nc vq0_m vq0_n vq0_length vq0_where vq0_effort vq0_thrown vq0_at vq0_scaled vq0_solved vq0_second vq0_nm vq0_nn vq0_number vq0_bad vq0_a vq0_b vq0_c) := hD
                  refine lv_if_ne (tgt := 99) hx hb d_M_set_92 (by decide) (fun c134 => ?_) (fun c134 => ?_)
                  · have h := it_f c134 h
                    refine lv_iconst (v := 0) hx hb d_M_set_99 (by decide) ?_
                    refine va_put (D := D) (ci := 8) (v := .int 0) (ty := .int) (C := "ConeForgeModel") (T := FM) (N := 46) hx hb hts iM tM tM_ok nmM hown hK hP hD hS 0 rfl rfl 34 (by decide) (hts _ (bgc bw718)) (fun _ h9 => h9) rfl (by decide +kernel) rfl rfl (Nat.le_of_ble_eq_true rfl) d_M_set_100 (fun H locs hP hD hS => ?_)
                    have hP : va_P D CL (w_M_set T q0 q0_a q0_b q0_c q0_rowScale q0_columnScale q0_sa q0_sb q0_sc q0_x q0_s q0_y q0_p q0_d q0_h q0_f q0_mm q0_low q0_dd q0_r q0_big q0_dt q0_dx q0_t q0_cost q0_rowScaleNow q0_columnScaleNow q0_basic q0_text q0_turned q0_na q0_nb q0_nc vq0_m vq0_n vq0_length vq0_where vq0_effort 0 vq0_at vq0_scaled vq0_solved vq0_second vq0_nm vq0_nn vq0_number vq0_bad vq0_a vq0_b vq0_c) H := hP
                    have hD : va_D A (w_M_set T q0 q0_a q0_b q0_c q0_rowScale q0_columnScale q0_sa q0_sb q0_sc q0_x q0_s q0_y q0_p q0_d q0_h q0_f q0_mm q0_low q0_dd q0_r q0_big q0_dt q0_dx q0_t q0_cost q0_rowScaleNow q0_columnScaleNow q0_basic q0_text q0_turned q0_na q0_nb q0_nc vq0_m vq0_n vq0_length vq0_where vq0_effort 0 vq0_at vq0_scaled vq0_solved vq0_second vq0_nm vq0_nn vq0_number vq0_bad vq0_a vq0_b vq0_c) := hD
                    refine lv_aload_n hx hb d_M_set_103 rfl (lv_at hl 0 rfl) ?_
                    refine va_get (D := D) (ci := 8) (v := .int 0) (C := "ConeForgeModel") (T := FM) (N := 46) hx hb hts iM hown hK hP 0 rfl rfl 34 (by decide) (hts _ (bgc bw718)) (fun _ h9 => h9) rfl d_M_set_104 ?_
                    refine lv_if_le (tgt := 112) hx hb d_M_set_107 (by decide) (fun c135 => ?_) (fun c135 => ?_)
                    · have h := it_t c135 h
                      refine lv_aload_n hx hb d_M_set_112 rfl (lv_at hl 0 rfl) ?_
                      refine lv_iconst (v := 0) hx hb d_M_set_113 (by decide) ?_
                      obtain ⟨g136, h⟩ := gd_some h
                      refine va_put (D := D) (ci := 8) (v := .int 0) (ty := .boolean) (C := "ConeForgeModel") (T := FM) (N := 46) hx hb hts iM tM tM_ok nmM hown hK hP hD hS 0 rfl rfl 37 (by decide) (hts _ (bgc bw721)) (fun _ h9 => h9) rfl (by decide +kernel) (isb_n g136) (isb_f g136) (Nat.le_of_ble_eq_true rfl) d_M_set_114 (fun H locs hP hD hS => ?_)
                      have hP : va_P D CL (w_M_set T q0 q0_a q0_b q0_c q0_rowScale q0_columnScale q0_sa q0_sb q0_sc q0_x q0_s q0_y q0_p q0_d q0_h q0_f q0_mm q0_low q0_dd q0_r q0_big q0_dt q0_dx q0_t q0_cost q0_rowScaleNow q0_columnScaleNow q0_basic q0_text q0_turned q0_na q0_nb q0_nc vq0_m vq0_n vq0_length vq0_where vq0_effort 0 vq0_at vq0_scaled 0 vq0_second vq0_nm vq0_nn vq0_number vq0_bad vq0_a vq0_b vq0_c) H := hP
                      have hD : va_D A (w_M_set T q0 q0_a q0_b q0_c q0_rowScale q0_columnScale q0_sa q0_sb q0_sc q0_x q0_s q0_y q0_p q0_d q0_h q0_f q0_mm q0_low q0_dd q0_r q0_big q0_dt q0_dx q0_t q0_cost q0_rowScaleNow q0_columnScaleNow q0_basic q0_text q0_turned q0_na q0_nb q0_nc vq0_m vq0_n vq0_length vq0_where vq0_effort 0 vq0_at vq0_scaled 0 vq0_second vq0_nm vq0_nn vq0_number vq0_bad vq0_a vq0_b vq0_c) := hD
                      refine lv_iload_n hx hb d_M_set_117 rfl (lv_at hl 1 rfl) ?_
                      refine lv_if_ne (tgt := 135) hx hb d_M_set_118 (by decide) (fun c137 => ?_) (fun c137 => ?_)
                      · have h := it_f c137 h
                        refine lv_iload_n hx hb d_M_set_135 rfl (lv_at hl 1 rfl) ?_
                        refine lv_iconst (v := 1) hx hb d_M_set_136 (by decide) ?_
                        refine lv_icmp_ne (tgt := 149) hx hb d_M_set_137 (by decide) (fun c138 => ?_) (fun c138 => ?_)
                        · have h := it_f c138 h
                          refine lv_aload_n hx hb d_M_set_149 rfl (lv_at hl 0 rfl) ?_
                          refine va_get (D := D) (ci := 8) (v := .ref q0_c) (C := "ConeForgeModel") (T := FM) (N := 46) hx hb hts iM hown hK hP 0 rfl rfl 2 (by decide) (hts _ (bgc bw686)) (fun _ h9 => h9) rfl d_M_set_150 ?_
                          refine lv_iload_n hx hb d_M_set_153 rfl (lv_at hl 3 rfl) ?_
                          obtain ⟨g139, h⟩ := gd_some h
                          refine va_dald hx hb hK hP 3 0 rfl rfl (inb_in g139) d_M_set_154 ?_
                          exact J155 0 0 vq0_a vq0_b vq0_c x1 x2 x3 x4 (vq0_c x3.toNatClampNeg) H locs ls hP hD hS (lv_sub hl [0, 1, 2, 3, 4] rfl) h
                        · have h := it_t c138 h
                          refine lv_aload_n hx hb d_M_set_140 rfl (lv_at hl 0 rfl) ?_
                          refine va_get (D := D) (ci := 8) (v := .ref q0_b) (C := "ConeForgeModel") (T := FM) (N := 46) hx hb hts iM hown hK hP 0 rfl rfl 1 (by decide) (hts _ (bgc bw685)) (fun _ h9 => h9) rfl d_M_set_141 ?_
                          refine lv_iload_n hx hb d_M_set_144 rfl (lv_at hl 2 rfl) ?_
                          obtain ⟨g140, h⟩ := gd_some h
                          refine va_dald hx hb hK hP 2 0 rfl rfl (inb_in g140) d_M_set_145 ?_
                          refine lv_goto (tgt := 155) hx hb d_M_set_146 (by decide) ?_
                          exact J155 0 0 vq0_a vq0_b vq0_c x1 x2 x3 x4 (vq0_b x2.toNatClampNeg) H locs ls hP hD hS (lv_sub hl [0, 1, 2, 3, 4] rfl) h
                      · have h := it_t c137 h
                        refine lv_aload_n hx hb d_M_set_121 rfl (lv_at hl 0 rfl) ?_
                        refine va_get (D := D) (ci := 8) (v := .ref q0_a) (C := "ConeForgeModel") (T := FM) (N := 46) hx hb hts iM hown hK hP 0 rfl rfl 0 (by decide) (hts _ (bgc bw684)) (fun _ h9 => h9) rfl d_M_set_122 ?_
                        refine lv_bipush (v := 8) hx hb d_M_set_125 (by decide) ?_
                        refine lv_iload_n hx hb d_M_set_127 rfl (lv_at hl 2 rfl) ?_
                        refine lv_imul hx hb d_M_set_128 ?_
                        refine lv_iload_n hx hb d_M_set_129 rfl (lv_at hl 3 rfl) ?_
                        refine lv_iadd hx hb d_M_set_130 ?_
                        obtain ⟨g141, h⟩ := gd_some h
                        refine va_dald hx hb hK hP 1 0 rfl rfl (inb_in g141) d_M_set_131 ?_
                        refine lv_goto (tgt := 155) hx hb d_M_set_132 (by decide) ?_
                        exact J155 0 0 vq0_a vq0_b vq0_c x1 x2 x3 x4 (vq0_a ((8 * x2) + x3).toNatClampNeg) H locs ls hP hD hS (lv_sub hl [0, 1, 2, 3, 4] rfl) h
                    · have h := it_f c135 h
                      refine lv_dconst0 hx hb d_M_set_110 ?_
                      exact rtD hx hb hr hlocks hQ (Option.some.inj h) hP hS d_M_set_111 rfl rfl
                  · have h := it_t c134 h
                    refine lv_iconst (v := 2) hx hb d_M_set_95 (by decide) ?_
                    refine lv_goto (tgt := 100) hx hb d_M_set_96 (by decide) ?_
                    refine va_put (D := D) (ci := 8) (v := .int 2) (ty := .int) (C := "ConeForgeModel") (T := FM) (N := 46) hx hb hts iM tM tM_ok nmM hown hK hP hD hS 0 rfl rfl 34 (by decide) (hts _ (bgc bw718)) (fun _ h9 => h9) rfl (by decide +kernel) rfl rfl (Nat.le_of_ble_eq_true rfl) d_M_set_100 (fun H locs hP hD hS => ?_)
                    have hP : va_P D CL (w_M_set T q0 q0_a q0_b q0_c q0_rowScale q0_columnScale q0_sa q0_sb q0_sc q0_x q0_s q0_y q0_p q0_d q0_h q0_f q0_mm q0_low q0_dd q0_r q0_big q0_dt q0_dx q0_t q0_cost q0_rowScaleNow q0_columnScaleNow q0_basic q0_text q0_turned q0_na q0_nb q0_nc vq0_m vq0_n vq0_length vq0_where vq0_effort 2 vq0_at vq0_scaled vq0_solved vq0_second vq0_nm vq0_nn vq0_number vq0_bad vq0_a vq0_b vq0_c) H := hP
                    have hD : va_D A (w_M_set T q0 q0_a q0_b q0_c q0_rowScale q0_columnScale q0_sa q0_sb q0_sc q0_x q0_s q0_y q0_p q0_d q0_h q0_f q0_mm q0_low q0_dd q0_r q0_big q0_dt q0_dx q0_t q0_cost q0_rowScaleNow q0_columnScaleNow q0_basic q0_text q0_turned q0_na q0_nb q0_nc vq0_m vq0_n vq0_length vq0_where vq0_effort 2 vq0_at vq0_scaled vq0_solved vq0_second vq0_nm vq0_nn vq0_number vq0_bad vq0_a vq0_b vq0_c) := hD
                    refine lv_aload_n hx hb d_M_set_103 rfl (lv_at hl 0 rfl) ?_
                    refine va_get (D := D) (ci := 8) (v := .int 2) (C := "ConeForgeModel") (T := FM) (N := 46) hx hb hts iM hown hK hP 0 rfl rfl 34 (by decide) (hts _ (bgc bw718)) (fun _ h9 => h9) rfl d_M_set_104 ?_
                    refine lv_if_le (tgt := 112) hx hb d_M_set_107 (by decide) (fun c142 => ?_) (fun c142 => ?_)
                    · have h := it_t c142 h
                      refine lv_aload_n hx hb d_M_set_112 rfl (lv_at hl 0 rfl) ?_
                      refine lv_iconst (v := 0) hx hb d_M_set_113 (by decide) ?_
                      obtain ⟨g143, h⟩ := gd_some h
                      refine va_put (D := D) (ci := 8) (v := .int 0) (ty := .boolean) (C := "ConeForgeModel") (T := FM) (N := 46) hx hb hts iM tM tM_ok nmM hown hK hP hD hS 0 rfl rfl 37 (by decide) (hts _ (bgc bw721)) (fun _ h9 => h9) rfl (by decide +kernel) (isb_n g143) (isb_f g143) (Nat.le_of_ble_eq_true rfl) d_M_set_114 (fun H locs hP hD hS => ?_)
                      have hP : va_P D CL (w_M_set T q0 q0_a q0_b q0_c q0_rowScale q0_columnScale q0_sa q0_sb q0_sc q0_x q0_s q0_y q0_p q0_d q0_h q0_f q0_mm q0_low q0_dd q0_r q0_big q0_dt q0_dx q0_t q0_cost q0_rowScaleNow q0_columnScaleNow q0_basic q0_text q0_turned q0_na q0_nb q0_nc vq0_m vq0_n vq0_length vq0_where vq0_effort 2 vq0_at vq0_scaled 0 vq0_second vq0_nm vq0_nn vq0_number vq0_bad vq0_a vq0_b vq0_c) H := hP
                      have hD : va_D A (w_M_set T q0 q0_a q0_b q0_c q0_rowScale q0_columnScale q0_sa q0_sb q0_sc q0_x q0_s q0_y q0_p q0_d q0_h q0_f q0_mm q0_low q0_dd q0_r q0_big q0_dt q0_dx q0_t q0_cost q0_rowScaleNow q0_columnScaleNow q0_basic q0_text q0_turned q0_na q0_nb q0_nc vq0_m vq0_n vq0_length vq0_where vq0_effort 2 vq0_at vq0_scaled 0 vq0_second vq0_nm vq0_nn vq0_number vq0_bad vq0_a vq0_b vq0_c) := hD
                      refine lv_iload_n hx hb d_M_set_117 rfl (lv_at hl 1 rfl) ?_
                      refine lv_if_ne (tgt := 135) hx hb d_M_set_118 (by decide) (fun c144 => ?_) (fun c144 => ?_)
                      · have h := it_f c144 h
                        refine lv_iload_n hx hb d_M_set_135 rfl (lv_at hl 1 rfl) ?_
                        refine lv_iconst (v := 1) hx hb d_M_set_136 (by decide) ?_
                        refine lv_icmp_ne (tgt := 149) hx hb d_M_set_137 (by decide) (fun c145 => ?_) (fun c145 => ?_)
                        · have h := it_f c145 h
                          refine lv_aload_n hx hb d_M_set_149 rfl (lv_at hl 0 rfl) ?_
                          refine va_get (D := D) (ci := 8) (v := .ref q0_c) (C := "ConeForgeModel") (T := FM) (N := 46) hx hb hts iM hown hK hP 0 rfl rfl 2 (by decide) (hts _ (bgc bw686)) (fun _ h9 => h9) rfl d_M_set_150 ?_
                          refine lv_iload_n hx hb d_M_set_153 rfl (lv_at hl 3 rfl) ?_
                          obtain ⟨g146, h⟩ := gd_some h
                          refine va_dald hx hb hK hP 3 0 rfl rfl (inb_in g146) d_M_set_154 ?_
                          exact J155 2 0 vq0_a vq0_b vq0_c x1 x2 x3 x4 (vq0_c x3.toNatClampNeg) H locs ls hP hD hS (lv_sub hl [0, 1, 2, 3, 4] rfl) h
                        · have h := it_t c145 h
                          refine lv_aload_n hx hb d_M_set_140 rfl (lv_at hl 0 rfl) ?_
                          refine va_get (D := D) (ci := 8) (v := .ref q0_b) (C := "ConeForgeModel") (T := FM) (N := 46) hx hb hts iM hown hK hP 0 rfl rfl 1 (by decide) (hts _ (bgc bw685)) (fun _ h9 => h9) rfl d_M_set_141 ?_
                          refine lv_iload_n hx hb d_M_set_144 rfl (lv_at hl 2 rfl) ?_
                          obtain ⟨g147, h⟩ := gd_some h
                          refine va_dald hx hb hK hP 2 0 rfl rfl (inb_in g147) d_M_set_145 ?_
                          refine lv_goto (tgt := 155) hx hb d_M_set_146 (by decide) ?_
                          exact J155 2 0 vq0_a vq0_b vq0_c x1 x2 x3 x4 (vq0_b x2.toNatClampNeg) H locs ls hP hD hS (lv_sub hl [0, 1, 2, 3, 4] rfl) h
                      · have h := it_t c144 h
                        refine lv_aload_n hx hb d_M_set_121 rfl (lv_at hl 0 rfl) ?_
                        refine va_get (D := D) (ci := 8) (v := .ref q0_a) (C := "ConeForgeModel") (T := FM) (N := 46) hx hb hts iM hown hK hP 0 rfl rfl 0 (by decide) (hts _ (bgc bw684)) (fun _ h9 => h9) rfl d_M_set_122 ?_
                        refine lv_bipush (v := 8) hx hb d_M_set_125 (by decide) ?_
                        refine lv_iload_n hx hb d_M_set_127 rfl (lv_at hl 2 rfl) ?_
                        refine lv_imul hx hb d_M_set_128 ?_
                        refine lv_iload_n hx hb d_M_set_129 rfl (lv_at hl 3 rfl) ?_
                        refine lv_iadd hx hb d_M_set_130 ?_
                        obtain ⟨g148, h⟩ := gd_some h
                        refine va_dald hx hb hK hP 1 0 rfl rfl (inb_in g148) d_M_set_131 ?_
                        refine lv_goto (tgt := 155) hx hb d_M_set_132 (by decide) ?_
                        exact J155 2 0 vq0_a vq0_b vq0_c x1 x2 x3 x4 (vq0_a ((8 * x2) + x3).toNatClampNeg) H locs ls hP hD hS (lv_sub hl [0, 1, 2, 3, 4] rfl) h
                    · have h := it_f c142 h
                      refine lv_dconst0 hx hb d_M_set_110 ?_
                      exact rtD hx hb hr hlocks hQ (Option.some.inj h) hP hS d_M_set_111 rfl rfl
          · have h := it_f c90 h
            refine lv_dload hx hb d_M_set_44 (lv_at hl 4 rfl) ?_
            refine lv_ldc2d (v := 13740701229962882445) hx hb hown (hts _ (bgc bw795)) d_M_set_46 ?_
            refine lv_dcmp hx hb d_M_set_49 ?_
            refine lv_if_le (tgt := 57) hx hb d_M_set_50 (by decide) (fun c149 => ?_) (fun c149 => ?_)
            · have h := it_t c149 h
              refine lv_iload_n hx hb d_M_set_57 rfl (lv_at hl 1 rfl) ?_
              refine lv_iconst (v := 2) hx hb d_M_set_58 (by decide) ?_
              refine lv_icmp_ge (tgt := 76) hx hb d_M_set_59 (by decide) (fun c150 => ?_) (fun c150 => ?_)
              · have h := it_t c150 h
                refine lv_iload_n hx hb d_M_set_76 rfl (lv_at hl 1 rfl) ?_
                refine lv_iconst (v := 1) hx hb d_M_set_77 (by decide) ?_
                refine lv_icmp_eq (tgt := 99) hx hb d_M_set_78 (by decide) (fun c151 => ?_) (fun c151 => ?_)
                · have h := it_t c151 h
                  refine lv_iconst (v := 0) hx hb d_M_set_99 (by decide) ?_
                  refine va_put (D := D) (ci := 8) (v := .int 0) (ty := .int) (C := "ConeForgeModel") (T := FM) (N := 46) hx hb hts iM tM tM_ok nmM hown hK hP hD hS 0 rfl rfl 34 (by decide) (hts _ (bgc bw718)) (fun _ h9 => h9) rfl (by decide +kernel) rfl rfl (Nat.le_of_ble_eq_true rfl) d_M_set_100 (fun H locs hP hD hS => ?_)
                  have hP : va_P D CL (w_M_set T q0 q0_a q0_b q0_c q0_rowScale q0_columnScale q0_sa q0_sb q0_sc q0_x q0_s q0_y q0_p q0_d q0_h q0_f q0_mm q0_low q0_dd q0_r q0_big q0_dt q0_dx q0_t q0_cost q0_rowScaleNow q0_columnScaleNow q0_basic q0_text q0_turned q0_na q0_nb q0_nc vq0_m vq0_n vq0_length vq0_where vq0_effort 0 vq0_at vq0_scaled vq0_solved vq0_second vq0_nm vq0_nn vq0_number vq0_bad vq0_a vq0_b vq0_c) H := hP
                  have hD : va_D A (w_M_set T q0 q0_a q0_b q0_c q0_rowScale q0_columnScale q0_sa q0_sb q0_sc q0_x q0_s q0_y q0_p q0_d q0_h q0_f q0_mm q0_low q0_dd q0_r q0_big q0_dt q0_dx q0_t q0_cost q0_rowScaleNow q0_columnScaleNow q0_basic q0_text q0_turned q0_na q0_nb q0_nc vq0_m vq0_n vq0_length vq0_where vq0_effort 0 vq0_at vq0_scaled vq0_solved vq0_second vq0_nm vq0_nn vq0_number vq0_bad vq0_a vq0_b vq0_c) := hD
                  refine lv_aload_n hx hb d_M_set_103 rfl (lv_at hl 0 rfl) ?_
                  refine va_get (D := D) (ci := 8) (v := .int 0) (C := "ConeForgeModel") (T := FM) (N := 46) hx hb hts iM hown hK hP 0 rfl rfl 34 (by decide) (hts _ (bgc bw718)) (fun _ h9 => h9) rfl d_M_set_104 ?_
                  refine lv_if_le (tgt := 112) hx hb d_M_set_107 (by decide) (fun c152 => ?_) (fun c152 => ?_)
                  · have h := it_t c152 h
                    refine lv_aload_n hx hb d_M_set_112 rfl (lv_at hl 0 rfl) ?_
                    refine lv_iconst (v := 0) hx hb d_M_set_113 (by decide) ?_
                    obtain ⟨g153, h⟩ := gd_some h
                    refine va_put (D := D) (ci := 8) (v := .int 0) (ty := .boolean) (C := "ConeForgeModel") (T := FM) (N := 46) hx hb hts iM tM tM_ok nmM hown hK hP hD hS 0 rfl rfl 37 (by decide) (hts _ (bgc bw721)) (fun _ h9 => h9) rfl (by decide +kernel) (isb_n g153) (isb_f g153) (Nat.le_of_ble_eq_true rfl) d_M_set_114 (fun H locs hP hD hS => ?_)
                    have hP : va_P D CL (w_M_set T q0 q0_a q0_b q0_c q0_rowScale q0_columnScale q0_sa q0_sb q0_sc q0_x q0_s q0_y q0_p q0_d q0_h q0_f q0_mm q0_low q0_dd q0_r q0_big q0_dt q0_dx q0_t q0_cost q0_rowScaleNow q0_columnScaleNow q0_basic q0_text q0_turned q0_na q0_nb q0_nc vq0_m vq0_n vq0_length vq0_where vq0_effort 0 vq0_at vq0_scaled 0 vq0_second vq0_nm vq0_nn vq0_number vq0_bad vq0_a vq0_b vq0_c) H := hP
                    have hD : va_D A (w_M_set T q0 q0_a q0_b q0_c q0_rowScale q0_columnScale q0_sa q0_sb q0_sc q0_x q0_s q0_y q0_p q0_d q0_h q0_f q0_mm q0_low q0_dd q0_r q0_big q0_dt q0_dx q0_t q0_cost q0_rowScaleNow q0_columnScaleNow q0_basic q0_text q0_turned q0_na q0_nb q0_nc vq0_m vq0_n vq0_length vq0_where vq0_effort 0 vq0_at vq0_scaled 0 vq0_second vq0_nm vq0_nn vq0_number vq0_bad vq0_a vq0_b vq0_c) := hD
                    refine lv_iload_n hx hb d_M_set_117 rfl (lv_at hl 1 rfl) ?_
                    refine lv_if_ne (tgt := 135) hx hb d_M_set_118 (by decide) (fun c154 => ?_) (fun c154 => ?_)
                    · have h := it_f c154 h
                      refine lv_iload_n hx hb d_M_set_135 rfl (lv_at hl 1 rfl) ?_
                      refine lv_iconst (v := 1) hx hb d_M_set_136 (by decide) ?_
                      refine lv_icmp_ne (tgt := 149) hx hb d_M_set_137 (by decide) (fun c155 => ?_) (fun c155 => ?_)
                      · have h := it_f c155 h
                        refine lv_aload_n hx hb d_M_set_149 rfl (lv_at hl 0 rfl) ?_
                        refine va_get (D := D) (ci := 8) (v := .ref q0_c) (C := "ConeForgeModel") (T := FM) (N := 46) hx hb hts iM hown hK hP 0 rfl rfl 2 (by decide) (hts _ (bgc bw686)) (fun _ h9 => h9) rfl d_M_set_150 ?_
                        refine lv_iload_n hx hb d_M_set_153 rfl (lv_at hl 3 rfl) ?_
                        obtain ⟨g156, h⟩ := gd_some h
                        refine va_dald hx hb hK hP 3 0 rfl rfl (inb_in g156) d_M_set_154 ?_
                        exact J155 0 0 vq0_a vq0_b vq0_c x1 x2 x3 x4 (vq0_c x3.toNatClampNeg) H locs ls hP hD hS (lv_sub hl [0, 1, 2, 3, 4] rfl) h
                      · have h := it_t c155 h
                        refine lv_aload_n hx hb d_M_set_140 rfl (lv_at hl 0 rfl) ?_
                        refine va_get (D := D) (ci := 8) (v := .ref q0_b) (C := "ConeForgeModel") (T := FM) (N := 46) hx hb hts iM hown hK hP 0 rfl rfl 1 (by decide) (hts _ (bgc bw685)) (fun _ h9 => h9) rfl d_M_set_141 ?_
                        refine lv_iload_n hx hb d_M_set_144 rfl (lv_at hl 2 rfl) ?_
                        obtain ⟨g157, h⟩ := gd_some h
                        refine va_dald hx hb hK hP 2 0 rfl rfl (inb_in g157) d_M_set_145 ?_
                        refine lv_goto (tgt := 155) hx hb d_M_set_146 (by decide) ?_
                        exact J155 0 0 vq0_a vq0_b vq0_c x1 x2 x3 x4 (vq0_b x2.toNatClampNeg) H locs ls hP hD hS (lv_sub hl [0, 1, 2, 3, 4] rfl) h
                    · have h := it_t c154 h
                      refine lv_aload_n hx hb d_M_set_121 rfl (lv_at hl 0 rfl) ?_
                      refine va_get (D := D) (ci := 8) (v := .ref q0_a) (C := "ConeForgeModel") (T := FM) (N := 46) hx hb hts iM hown hK hP 0 rfl rfl 0 (by decide) (hts _ (bgc bw684)) (fun _ h9 => h9) rfl d_M_set_122 ?_
                      refine lv_bipush (v := 8) hx hb d_M_set_125 (by decide) ?_
                      refine lv_iload_n hx hb d_M_set_127 rfl (lv_at hl 2 rfl) ?_
                      refine lv_imul hx hb d_M_set_128 ?_
                      refine lv_iload_n hx hb d_M_set_129 rfl (lv_at hl 3 rfl) ?_
                      refine lv_iadd hx hb d_M_set_130 ?_
                      obtain ⟨g158, h⟩ := gd_some h
                      refine va_dald hx hb hK hP 1 0 rfl rfl (inb_in g158) d_M_set_131 ?_
                      refine lv_goto (tgt := 155) hx hb d_M_set_132 (by decide) ?_
                      exact J155 0 0 vq0_a vq0_b vq0_c x1 x2 x3 x4 (vq0_a ((8 * x2) + x3).toNatClampNeg) H locs ls hP hD hS (lv_sub hl [0, 1, 2, 3, 4] rfl) h
                  · have h := it_f c152 h
                    refine lv_dconst0 hx hb d_M_set_110 ?_
                    exact rtD hx hb hr hlocks hQ (Option.some.inj h) hP hS d_M_set_111 rfl rfl
                · have h := it_f c151 h
                  refine lv_iload_n hx hb d_M_set_81 rfl (lv_at hl 3 rfl) ?_
                  refine lv_iconst (v := 0) hx hb d_M_set_82 (by decide) ?_
                  refine lv_aload_n hx hb d_M_set_83 rfl (lv_at hl 0 rfl) ?_
                  refine va_get (D := D) (ci := 8) (v := .int vq0_n) (C := "ConeForgeModel") (T := FM) (N := 46) hx hb hts iM hown hK hP 0 rfl rfl 30 (by decide) (hts _ (bgc bw714)) (fun _ h9 => h9) rfl d_M_set_84 ?_
                  refine lv_iconst (v := 1) hx hb d_M_set_87 (by decide) ?_
                  refine lv_isub hx hb d_M_set_88 ?_
                  obtain ⟨u159, hu159, h⟩ := bi_some h
                  refine kI (v := u159) (wc := (w_M_in T  )) (wc' := (w_M_in T  )) (runOS (As := [.int x3, .int 0, .int (vq0_n - 1)]) (rest := [.ref q0]) ((c_M_in l D T   x3 0 (vq0_n - 1) u159 hu159) H.size) ⟨hx, hb, hml, hown, hts⟩ (cwOS bw785 bw786 bw105 bw787 dd_M_in hts ⟨Nat.le_of_ble_eq_true rfl, Nat.le_of_ble_eq_true rfl⟩)  hNW hK hP hD [] rfl (by decide) rfl hl.1 rfl (lv_room (Nat.le_of_ble_eq_true rfl)) d_M_set_89 ⟨Nat.le_of_ble_eq_true rfl, Nat.le_of_ble_eq_true rfl⟩) hP hD hS hA [] rfl rfl (fun H locs hP hD hS => ?_)
                  have hP : va_P D CL (w_M_set T q0 q0_a q0_b q0_c q0_rowScale q0_columnScale q0_sa q0_sb q0_sc q0_x q0_s q0_y q0_p q0_d q0_h q0_f q0_mm q0_low q0_dd q0_r q0_big q0_dt q0_dx q0_t q0_cost q0_rowScaleNow q0_columnScaleNow q0_basic q0_text q0_turned q0_na q0_nb q0_nc vq0_m vq0_n vq0_length vq0_where vq0_effort vq0_thrown vq0_at vq0_scaled vq0_solved vq0_second vq0_nm vq0_nn vq0_number vq0_bad vq0_a vq0_b vq0_c) H := hP
                  have hD : va_D A (w_M_set T q0 q0_a q0_b q0_c q0_rowScale q0_columnScale q0_sa q0_sb q0_sc q0_x q0_s q0_y q0_p q0_d q0_h q0_f q0_mm q0_low q0_dd q0_r q0_big q0_dt q0_dx q0_t q0_cost q0_rowScaleNow q0_columnScaleNow q0_basic q0_text q0_turned q0_na q0_nb q0_nc vq0_m vq0_n vq0_length vq0_where vq0_effort vq0_thrown vq0_at vq0_scaled vq0_solved vq0_second vq0_nm vq0_nn vq0_number vq0_bad vq0_a vq0_b vq0_c) := hD
                  refine lv_if_ne (tgt := 99) hx hb d_M_set_92 (by decide) (fun c160 => ?_) (fun c160 => ?_)
                  · have h := it_f c160 h
                    refine lv_iconst (v := 0) hx hb d_M_set_99 (by decide) ?_
                    refine va_put (D := D) (ci := 8) (v := .int 0) (ty := .int) (C := "ConeForgeModel") (T := FM) (N := 46) hx hb hts iM tM tM_ok nmM hown hK hP hD hS 0 rfl rfl 34 (by decide) (hts _ (bgc bw718)) (fun _ h9 => h9) rfl (by decide +kernel) rfl rfl (Nat.le_of_ble_eq_true rfl) d_M_set_100 (fun H locs hP hD hS => ?_)
                    have hP : va_P D CL (w_M_set T q0 q0_a q0_b q0_c q0_rowScale q0_columnScale q0_sa q0_sb q0_sc q0_x q0_s q0_y q0_p q0_d q0_h q0_f q0_mm q0_low q0_dd q0_r q0_big q0_dt q0_dx q0_t q0_cost q0_rowScaleNow q0_columnScaleNow q0_basic q0_text q0_turned q0_na q0_nb q0_nc vq0_m vq0_n vq0_length vq0_where vq0_effort 0 vq0_at vq0_scaled vq0_solved vq0_second vq0_nm vq0_nn vq0_number vq0_bad vq0_a vq0_b vq0_c) H := hP
                    have hD : va_D A (w_M_set T q0 q0_a q0_b q0_c q0_rowScale q0_columnScale q0_sa q0_sb q0_sc q0_x q0_s q0_y q0_p q0_d q0_h q0_f q0_mm q0_low q0_dd q0_r q0_big q0_dt q0_dx q0_t q0_cost q0_rowScaleNow q0_columnScaleNow q0_basic q0_text q0_turned q0_na q0_nb q0_nc vq0_m vq0_n vq0_length vq0_where vq0_effort 0 vq0_at vq0_scaled vq0_solved vq0_second vq0_nm vq0_nn vq0_number vq0_bad vq0_a vq0_b vq0_c) := hD
                    refine lv_aload_n hx hb d_M_set_103 rfl (lv_at hl 0 rfl) ?_
                    refine va_get (D := D) (ci := 8) (v := .int 0) (C := "ConeForgeModel") (T := FM) (N := 46) hx hb hts iM hown hK hP 0 rfl rfl 34 (by decide) (hts _ (bgc bw718)) (fun _ h9 => h9) rfl d_M_set_104 ?_
                    refine lv_if_le (tgt := 112) hx hb d_M_set_107 (by decide) (fun c161 => ?_) (fun c161 => ?_)
                    · have h := it_t c161 h
                      refine lv_aload_n hx hb d_M_set_112 rfl (lv_at hl 0 rfl) ?_
                      refine lv_iconst (v := 0) hx hb d_M_set_113 (by decide) ?_
                      obtain ⟨g162, h⟩ := gd_some h
                      refine va_put (D := D) (ci := 8) (v := .int 0) (ty := .boolean) (C := "ConeForgeModel") (T := FM) (N := 46) hx hb hts iM tM tM_ok nmM hown hK hP hD hS 0 rfl rfl 37 (by decide) (hts _ (bgc bw721)) (fun _ h9 => h9) rfl (by decide +kernel) (isb_n g162) (isb_f g162) (Nat.le_of_ble_eq_true rfl) d_M_set_114 (fun H locs hP hD hS => ?_)
                      have hP : va_P D CL (w_M_set T q0 q0_a q0_b q0_c q0_rowScale q0_columnScale q0_sa q0_sb q0_sc q0_x q0_s q0_y q0_p q0_d q0_h q0_f q0_mm q0_low q0_dd q0_r q0_big q0_dt q0_dx q0_t q0_cost q0_rowScaleNow q0_columnScaleNow q0_basic q0_text q0_turned q0_na q0_nb q0_nc vq0_m vq0_n vq0_length vq0_where vq0_effort 0 vq0_at vq0_scaled 0 vq0_second vq0_nm vq0_nn vq0_number vq0_bad vq0_a vq0_b vq0_c) H := hP
                      have hD : va_D A (w_M_set T q0 q0_a q0_b q0_c q0_rowScale q0_columnScale q0_sa q0_sb q0_sc q0_x q0_s q0_y q0_p q0_d q0_h q0_f q0_mm q0_low q0_dd q0_r q0_big q0_dt q0_dx q0_t q0_cost q0_rowScaleNow q0_columnScaleNow q0_basic q0_text q0_turned q0_na q0_nb q0_nc vq0_m vq0_n vq0_length vq0_where vq0_effort 0 vq0_at vq0_scaled 0 vq0_second vq0_nm vq0_nn vq0_number vq0_bad vq0_a vq0_b vq0_c) := hD
                      refine lv_iload_n hx hb d_M_set_117 rfl (lv_at hl 1 rfl) ?_
                      refine lv_if_ne (tgt := 135) hx hb d_M_set_118 (by decide) (fun c163 => ?_) (fun c163 => ?_)
                      · have h := it_f c163 h
                        refine lv_iload_n hx hb d_M_set_135 rfl (lv_at hl 1 rfl) ?_
                        refine lv_iconst (v := 1) hx hb d_M_set_136 (by decide) ?_
                        refine lv_icmp_ne (tgt := 149) hx hb d_M_set_137 (by decide) (fun c164 => ?_) (fun c164 => ?_)
                        · have h := it_f c164 h
                          refine lv_aload_n hx hb d_M_set_149 rfl (lv_at hl 0 rfl) ?_
                          refine va_get (D := D) (ci := 8) (v := .ref q0_c) (C := "ConeForgeModel") (T := FM) (N := 46) hx hb hts iM hown hK hP 0 rfl rfl 2 (by decide) (hts _ (bgc bw686)) (fun _ h9 => h9) rfl d_M_set_150 ?_
                          refine lv_iload_n hx hb d_M_set_153 rfl (lv_at hl 3 rfl) ?_
                          obtain ⟨g165, h⟩ := gd_some h
                          refine va_dald hx hb hK hP 3 0 rfl rfl (inb_in g165) d_M_set_154 ?_
                          exact J155 0 0 vq0_a vq0_b vq0_c x1 x2 x3 x4 (vq0_c x3.toNatClampNeg) H locs ls hP hD hS (lv_sub hl [0, 1, 2, 3, 4] rfl) h
                        · have h := it_t c164 h
                          refine lv_aload_n hx hb d_M_set_140 rfl (lv_at hl 0 rfl) ?_
                          refine va_get (D := D) (ci := 8) (v := .ref q0_b) (C := "ConeForgeModel") (T := FM) (N := 46) hx hb hts iM hown hK hP 0 rfl rfl 1 (by decide) (hts _ (bgc bw685)) (fun _ h9 => h9) rfl d_M_set_141 ?_
                          refine lv_iload_n hx hb d_M_set_144 rfl (lv_at hl 2 rfl) ?_
                          obtain ⟨g166, h⟩ := gd_some h
                          refine va_dald hx hb hK hP 2 0 rfl rfl (inb_in g166) d_M_set_145 ?_
                          refine lv_goto (tgt := 155) hx hb d_M_set_146 (by decide) ?_
                          exact J155 0 0 vq0_a vq0_b vq0_c x1 x2 x3 x4 (vq0_b x2.toNatClampNeg) H locs ls hP hD hS (lv_sub hl [0, 1, 2, 3, 4] rfl) h
                      · have h := it_t c163 h
                        refine lv_aload_n hx hb d_M_set_121 rfl (lv_at hl 0 rfl) ?_
                        refine va_get (D := D) (ci := 8) (v := .ref q0_a) (C := "ConeForgeModel") (T := FM) (N := 46) hx hb hts iM hown hK hP 0 rfl rfl 0 (by decide) (hts _ (bgc bw684)) (fun _ h9 => h9) rfl d_M_set_122 ?_
                        refine lv_bipush (v := 8) hx hb d_M_set_125 (by decide) ?_
                        refine lv_iload_n hx hb d_M_set_127 rfl (lv_at hl 2 rfl) ?_
                        refine lv_imul hx hb d_M_set_128 ?_
                        refine lv_iload_n hx hb d_M_set_129 rfl (lv_at hl 3 rfl) ?_
                        refine lv_iadd hx hb d_M_set_130 ?_
                        obtain ⟨g167, h⟩ := gd_some h
                        refine va_dald hx hb hK hP 1 0 rfl rfl (inb_in g167) d_M_set_131 ?_
                        refine lv_goto (tgt := 155) hx hb d_M_set_132 (by decide) ?_
                        exact J155 0 0 vq0_a vq0_b vq0_c x1 x2 x3 x4 (vq0_a ((8 * x2) + x3).toNatClampNeg) H locs ls hP hD hS (lv_sub hl [0, 1, 2, 3, 4] rfl) h
                    · have h := it_f c161 h
                      refine lv_dconst0 hx hb d_M_set_110 ?_
                      exact rtD hx hb hr hlocks hQ (Option.some.inj h) hP hS d_M_set_111 rfl rfl
                  · have h := it_t c160 h
                    refine lv_iconst (v := 2) hx hb d_M_set_95 (by decide) ?_
                    refine lv_goto (tgt := 100) hx hb d_M_set_96 (by decide) ?_
                    refine va_put (D := D) (ci := 8) (v := .int 2) (ty := .int) (C := "ConeForgeModel") (T := FM) (N := 46) hx hb hts iM tM tM_ok nmM hown hK hP hD hS 0 rfl rfl 34 (by decide) (hts _ (bgc bw718)) (fun _ h9 => h9) rfl (by decide +kernel) rfl rfl (Nat.le_of_ble_eq_true rfl) d_M_set_100 (fun H locs hP hD hS => ?_)
                    have hP : va_P D CL (w_M_set T q0 q0_a q0_b q0_c q0_rowScale q0_columnScale q0_sa q0_sb q0_sc q0_x q0_s q0_y q0_p q0_d q0_h q0_f q0_mm q0_low q0_dd q0_r q0_big q0_dt q0_dx q0_t q0_cost q0_rowScaleNow q0_columnScaleNow q0_basic q0_text q0_turned q0_na q0_nb q0_nc vq0_m vq0_n vq0_length vq0_where vq0_effort 2 vq0_at vq0_scaled vq0_solved vq0_second vq0_nm vq0_nn vq0_number vq0_bad vq0_a vq0_b vq0_c) H := hP
                    have hD : va_D A (w_M_set T q0 q0_a q0_b q0_c q0_rowScale q0_columnScale q0_sa q0_sb q0_sc q0_x q0_s q0_y q0_p q0_d q0_h q0_f q0_mm q0_low q0_dd q0_r q0_big q0_dt q0_dx q0_t q0_cost q0_rowScaleNow q0_columnScaleNow q0_basic q0_text q0_turned q0_na q0_nb q0_nc vq0_m vq0_n vq0_length vq0_where vq0_effort 2 vq0_at vq0_scaled vq0_solved vq0_second vq0_nm vq0_nn vq0_number vq0_bad vq0_a vq0_b vq0_c) := hD
                    refine lv_aload_n hx hb d_M_set_103 rfl (lv_at hl 0 rfl) ?_
                    refine va_get (D := D) (ci := 8) (v := .int 2) (C := "ConeForgeModel") (T := FM) (N := 46) hx hb hts iM hown hK hP 0 rfl rfl 34 (by decide) (hts _ (bgc bw718)) (fun _ h9 => h9) rfl d_M_set_104 ?_
                    refine lv_if_le (tgt := 112) hx hb d_M_set_107 (by decide) (fun c168 => ?_) (fun c168 => ?_)
                    · have h := it_t c168 h
                      refine lv_aload_n hx hb d_M_set_112 rfl (lv_at hl 0 rfl) ?_
                      refine lv_iconst (v := 0) hx hb d_M_set_113 (by decide) ?_
                      obtain ⟨g169, h⟩ := gd_some h
                      refine va_put (D := D) (ci := 8) (v := .int 0) (ty := .boolean) (C := "ConeForgeModel") (T := FM) (N := 46) hx hb hts iM tM tM_ok nmM hown hK hP hD hS 0 rfl rfl 37 (by decide) (hts _ (bgc bw721)) (fun _ h9 => h9) rfl (by decide +kernel) (isb_n g169) (isb_f g169) (Nat.le_of_ble_eq_true rfl) d_M_set_114 (fun H locs hP hD hS => ?_)
                      have hP : va_P D CL (w_M_set T q0 q0_a q0_b q0_c q0_rowScale q0_columnScale q0_sa q0_sb q0_sc q0_x q0_s q0_y q0_p q0_d q0_h q0_f q0_mm q0_low q0_dd q0_r q0_big q0_dt q0_dx q0_t q0_cost q0_rowScaleNow q0_columnScaleNow q0_basic q0_text q0_turned q0_na q0_nb q0_nc vq0_m vq0_n vq0_length vq0_where vq0_effort 2 vq0_at vq0_scaled 0 vq0_second vq0_nm vq0_nn vq0_number vq0_bad vq0_a vq0_b vq0_c) H := hP
                      have hD : va_D A (w_M_set T q0 q0_a q0_b q0_c q0_rowScale q0_columnScale q0_sa q0_sb q0_sc q0_x q0_s q0_y q0_p q0_d q0_h q0_f q0_mm q0_low q0_dd q0_r q0_big q0_dt q0_dx q0_t q0_cost q0_rowScaleNow q0_columnScaleNow q0_basic q0_text q0_turned q0_na q0_nb q0_nc vq0_m vq0_n vq0_length vq0_where vq0_effort 2 vq0_at vq0_scaled 0 vq0_second vq0_nm vq0_nn vq0_number vq0_bad vq0_a vq0_b vq0_c) := hD
                      refine lv_iload_n hx hb d_M_set_117 rfl (lv_at hl 1 rfl) ?_
                      refine lv_if_ne (tgt := 135) hx hb d_M_set_118 (by decide) (fun c170 => ?_) (fun c170 => ?_)
                      · have h := it_f c170 h
                        refine lv_iload_n hx hb d_M_set_135 rfl (lv_at hl 1 rfl) ?_
                        refine lv_iconst (v := 1) hx hb d_M_set_136 (by decide) ?_
                        refine lv_icmp_ne (tgt := 149) hx hb d_M_set_137 (by decide) (fun c171 => ?_) (fun c171 => ?_)
                        · have h := it_f c171 h
                          refine lv_aload_n hx hb d_M_set_149 rfl (lv_at hl 0 rfl) ?_
                          refine va_get (D := D) (ci := 8) (v := .ref q0_c) (C := "ConeForgeModel") (T := FM) (N := 46) hx hb hts iM hown hK hP 0 rfl rfl 2 (by decide) (hts _ (bgc bw686)) (fun _ h9 => h9) rfl d_M_set_150 ?_
                          refine lv_iload_n hx hb d_M_set_153 rfl (lv_at hl 3 rfl) ?_
                          obtain ⟨g172, h⟩ := gd_some h
                          refine va_dald hx hb hK hP 3 0 rfl rfl (inb_in g172) d_M_set_154 ?_
                          exact J155 2 0 vq0_a vq0_b vq0_c x1 x2 x3 x4 (vq0_c x3.toNatClampNeg) H locs ls hP hD hS (lv_sub hl [0, 1, 2, 3, 4] rfl) h
                        · have h := it_t c171 h
                          refine lv_aload_n hx hb d_M_set_140 rfl (lv_at hl 0 rfl) ?_
                          refine va_get (D := D) (ci := 8) (v := .ref q0_b) (C := "ConeForgeModel") (T := FM) (N := 46) hx hb hts iM hown hK hP 0 rfl rfl 1 (by decide) (hts _ (bgc bw685)) (fun _ h9 => h9) rfl d_M_set_141 ?_
                          refine lv_iload_n hx hb d_M_set_144 rfl (lv_at hl 2 rfl) ?_
                          obtain ⟨g173, h⟩ := gd_some h
                          refine va_dald hx hb hK hP 2 0 rfl rfl (inb_in g173) d_M_set_145 ?_
                          refine lv_goto (tgt := 155) hx hb d_M_set_146 (by decide) ?_
                          exact J155 2 0 vq0_a vq0_b vq0_c x1 x2 x3 x4 (vq0_b x2.toNatClampNeg) H locs ls hP hD hS (lv_sub hl [0, 1, 2, 3, 4] rfl) h
                      · have h := it_t c170 h
                        refine lv_aload_n hx hb d_M_set_121 rfl (lv_at hl 0 rfl) ?_
                        refine va_get (D := D) (ci := 8) (v := .ref q0_a) (C := "ConeForgeModel") (T := FM) (N := 46) hx hb hts iM hown hK hP 0 rfl rfl 0 (by decide) (hts _ (bgc bw684)) (fun _ h9 => h9) rfl d_M_set_122 ?_
                        refine lv_bipush (v := 8) hx hb d_M_set_125 (by decide) ?_
                        refine lv_iload_n hx hb d_M_set_127 rfl (lv_at hl 2 rfl) ?_
                        refine lv_imul hx hb d_M_set_128 ?_
                        refine lv_iload_n hx hb d_M_set_129 rfl (lv_at hl 3 rfl) ?_
                        refine lv_iadd hx hb d_M_set_130 ?_
                        obtain ⟨g174, h⟩ := gd_some h
                        refine va_dald hx hb hK hP 1 0 rfl rfl (inb_in g174) d_M_set_131 ?_
                        refine lv_goto (tgt := 155) hx hb d_M_set_132 (by decide) ?_
                        exact J155 2 0 vq0_a vq0_b vq0_c x1 x2 x3 x4 (vq0_a ((8 * x2) + x3).toNatClampNeg) H locs ls hP hD hS (lv_sub hl [0, 1, 2, 3, 4] rfl) h
                    · have h := it_f c168 h
                      refine lv_dconst0 hx hb d_M_set_110 ?_
                      exact rtD hx hb hr hlocks hQ (Option.some.inj h) hP hS d_M_set_111 rfl rfl
              · have h := it_f c150 h
                refine lv_iload_n hx hb d_M_set_62 rfl (lv_at hl 2 rfl) ?_
                refine lv_iconst (v := 0) hx hb d_M_set_63 (by decide) ?_
                refine lv_aload_n hx hb d_M_set_64 rfl (lv_at hl 0 rfl) ?_
                refine va_get (D := D) (ci := 8) (v := .int vq0_m) (C := "ConeForgeModel") (T := FM) (N := 46) hx hb hts iM hown hK hP 0 rfl rfl 29 (by decide) (hts _ (bgc bw713)) (fun _ h9 => h9) rfl d_M_set_65 ?_
                refine lv_iconst (v := 1) hx hb d_M_set_68 (by decide) ?_
                refine lv_isub hx hb d_M_set_69 ?_
                obtain ⟨u175, hu175, h⟩ := bi_some h
                refine kI (v := u175) (wc := (w_M_in T  )) (wc' := (w_M_in T  )) (runOS (As := [.int x2, .int 0, .int (vq0_m - 1)]) (rest := [.ref q0]) ((c_M_in l D T   x2 0 (vq0_m - 1) u175 hu175) H.size) ⟨hx, hb, hml, hown, hts⟩ (cwOS bw785 bw786 bw105 bw787 dd_M_in hts ⟨Nat.le_of_ble_eq_true rfl, Nat.le_of_ble_eq_true rfl⟩)  hNW hK hP hD [] rfl (by decide) rfl hl.1 rfl (lv_room (Nat.le_of_ble_eq_true rfl)) d_M_set_70 ⟨Nat.le_of_ble_eq_true rfl, Nat.le_of_ble_eq_true rfl⟩) hP hD hS hA [] rfl rfl (fun H locs hP hD hS => ?_)
                have hP : va_P D CL (w_M_set T q0 q0_a q0_b q0_c q0_rowScale q0_columnScale q0_sa q0_sb q0_sc q0_x q0_s q0_y q0_p q0_d q0_h q0_f q0_mm q0_low q0_dd q0_r q0_big q0_dt q0_dx q0_t q0_cost q0_rowScaleNow q0_columnScaleNow q0_basic q0_text q0_turned q0_na q0_nb q0_nc vq0_m vq0_n vq0_length vq0_where vq0_effort vq0_thrown vq0_at vq0_scaled vq0_solved vq0_second vq0_nm vq0_nn vq0_number vq0_bad vq0_a vq0_b vq0_c) H := hP
                have hD : va_D A (w_M_set T q0 q0_a q0_b q0_c q0_rowScale q0_columnScale q0_sa q0_sb q0_sc q0_x q0_s q0_y q0_p q0_d q0_h q0_f q0_mm q0_low q0_dd q0_r q0_big q0_dt q0_dx q0_t q0_cost q0_rowScaleNow q0_columnScaleNow q0_basic q0_text q0_turned q0_na q0_nb q0_nc vq0_m vq0_n vq0_length vq0_where vq0_effort vq0_thrown vq0_at vq0_scaled vq0_solved vq0_second vq0_nm vq0_nn vq0_number vq0_bad vq0_a vq0_b vq0_c) := hD
                refine lv_if_eq (tgt := 95) hx hb d_M_set_73 (by decide) (fun c176 => ?_) (fun c176 => ?_)
                · have h := it_t c176 h
                  refine lv_iconst (v := 2) hx hb d_M_set_95 (by decide) ?_
                  refine lv_goto (tgt := 100) hx hb d_M_set_96 (by decide) ?_
                  refine va_put (D := D) (ci := 8) (v := .int 2) (ty := .int) (C := "ConeForgeModel") (T := FM) (N := 46) hx hb hts iM tM tM_ok nmM hown hK hP hD hS 0 rfl rfl 34 (by decide) (hts _ (bgc bw718)) (fun _ h9 => h9) rfl (by decide +kernel) rfl rfl (Nat.le_of_ble_eq_true rfl) d_M_set_100 (fun H locs hP hD hS => ?_)
                  have hP : va_P D CL (w_M_set T q0 q0_a q0_b q0_c q0_rowScale q0_columnScale q0_sa q0_sb q0_sc q0_x q0_s q0_y q0_p q0_d q0_h q0_f q0_mm q0_low q0_dd q0_r q0_big q0_dt q0_dx q0_t q0_cost q0_rowScaleNow q0_columnScaleNow q0_basic q0_text q0_turned q0_na q0_nb q0_nc vq0_m vq0_n vq0_length vq0_where vq0_effort 2 vq0_at vq0_scaled vq0_solved vq0_second vq0_nm vq0_nn vq0_number vq0_bad vq0_a vq0_b vq0_c) H := hP
                  have hD : va_D A (w_M_set T q0 q0_a q0_b q0_c q0_rowScale q0_columnScale q0_sa q0_sb q0_sc q0_x q0_s q0_y q0_p q0_d q0_h q0_f q0_mm q0_low q0_dd q0_r q0_big q0_dt q0_dx q0_t q0_cost q0_rowScaleNow q0_columnScaleNow q0_basic q0_text q0_turned q0_na q0_nb q0_nc vq0_m vq0_n vq0_length vq0_where vq0_effort 2 vq0_at vq0_scaled vq0_solved vq0_second vq0_nm vq0_nn vq0_number vq0_bad vq0_a vq0_b vq0_c) := hD
                  refine lv_aload_n hx hb d_M_set_103 rfl (lv_at hl 0 rfl) ?_
                  refine va_get (D := D) (ci := 8) (v := .int 2) (C := "ConeForgeModel") (T := FM) (N := 46) hx hb hts iM hown hK hP 0 rfl rfl 34 (by decide) (hts _ (bgc bw718)) (fun _ h9 => h9) rfl d_M_set_104 ?_
                  refine lv_if_le (tgt := 112) hx hb d_M_set_107 (by decide) (fun c177 => ?_) (fun c177 => ?_)
                  · have h := it_t c177 h
                    refine lv_aload_n hx hb d_M_set_112 rfl (lv_at hl 0 rfl) ?_
                    refine lv_iconst (v := 0) hx hb d_M_set_113 (by decide) ?_
                    obtain ⟨g178, h⟩ := gd_some h
                    refine va_put (D := D) (ci := 8) (v := .int 0) (ty := .boolean) (C := "ConeForgeModel") (T := FM) (N := 46) hx hb hts iM tM tM_ok nmM hown hK hP hD hS 0 rfl rfl 37 (by decide) (hts _ (bgc bw721)) (fun _ h9 => h9) rfl (by decide +kernel) (isb_n g178) (isb_f g178) (Nat.le_of_ble_eq_true rfl) d_M_set_114 (fun H locs hP hD hS => ?_)
                    have hP : va_P D CL (w_M_set T q0 q0_a q0_b q0_c q0_rowScale q0_columnScale q0_sa q0_sb q0_sc q0_x q0_s q0_y q0_p q0_d q0_h q0_f q0_mm q0_low q0_dd q0_r q0_big q0_dt q0_dx q0_t q0_cost q0_rowScaleNow q0_columnScaleNow q0_basic q0_text q0_turned q0_na q0_nb q0_nc vq0_m vq0_n vq0_length vq0_where vq0_effort 2 vq0_at vq0_scaled 0 vq0_second vq0_nm vq0_nn vq0_number vq0_bad vq0_a vq0_b vq0_c) H := hP
                    have hD : va_D A (w_M_set T q0 q0_a q0_b q0_c q0_rowScale q0_columnScale q0_sa q0_sb q0_sc q0_x q0_s q0_y q0_p q0_d q0_h q0_f q0_mm q0_low q0_dd q0_r q0_big q0_dt q0_dx q0_t q0_cost q0_rowScaleNow q0_columnScaleNow q0_basic q0_text q0_turned q0_na q0_nb q0_nc vq0_m vq0_n vq0_length vq0_where vq0_effort 2 vq0_at vq0_scaled 0 vq0_second vq0_nm vq0_nn vq0_number vq0_bad vq0_a vq0_b vq0_c) := hD
                    refine lv_iload_n hx hb d_M_set_117 rfl (lv_at hl 1 rfl) ?_
                    refine lv_if_ne (tgt := 135) hx hb d_M_set_118 (by decide) (fun c179 => ?_) (fun c179 => ?_)
                    · have h := it_f c179 h
                      refine lv_iload_n hx hb d_M_set_135 rfl (lv_at hl 1 rfl) ?_
                      refine lv_iconst (v := 1) hx hb d_M_set_136 (by decide) ?_
                      refine lv_icmp_ne (tgt := 149) hx hb d_M_set_137 (by decide) (fun c180 => ?_) (fun c180 => ?_)
                      · have h := it_f c180 h
                        refine lv_aload_n hx hb d_M_set_149 rfl (lv_at hl 0 rfl) ?_
                        refine va_get (D := D) (ci := 8) (v := .ref q0_c) (C := "ConeForgeModel") (T := FM) (N := 46) hx hb hts iM hown hK hP 0 rfl rfl 2 (by decide) (hts _ (bgc bw686)) (fun _ h9 => h9) rfl d_M_set_150 ?_
                        refine lv_iload_n hx hb d_M_set_153 rfl (lv_at hl 3 rfl) ?_
                        obtain ⟨g181, h⟩ := gd_some h
                        refine va_dald hx hb hK hP 3 0 rfl rfl (inb_in g181) d_M_set_154 ?_
                        exact J155 2 0 vq0_a vq0_b vq0_c x1 x2 x3 x4 (vq0_c x3.toNatClampNeg) H locs ls hP hD hS (lv_sub hl [0, 1, 2, 3, 4] rfl) h
                      · have h := it_t c180 h
                        refine lv_aload_n hx hb d_M_set_140 rfl (lv_at hl 0 rfl) ?_
                        refine va_get (D := D) (ci := 8) (v := .ref q0_b) (C := "ConeForgeModel") (T := FM) (N := 46) hx hb hts iM hown hK hP 0 rfl rfl 1 (by decide) (hts _ (bgc bw685)) (fun _ h9 => h9) rfl d_M_set_141 ?_
                        refine lv_iload_n hx hb d_M_set_144 rfl (lv_at hl 2 rfl) ?_
                        obtain ⟨g182, h⟩ := gd_some h
                        refine va_dald hx hb hK hP 2 0 rfl rfl (inb_in g182) d_M_set_145 ?_
                        refine lv_goto (tgt := 155) hx hb d_M_set_146 (by decide) ?_
                        exact J155 2 0 vq0_a vq0_b vq0_c x1 x2 x3 x4 (vq0_b x2.toNatClampNeg) H locs ls hP hD hS (lv_sub hl [0, 1, 2, 3, 4] rfl) h
                    · have h := it_t c179 h
                      refine lv_aload_n hx hb d_M_set_121 rfl (lv_at hl 0 rfl) ?_
                      refine va_get (D := D) (ci := 8) (v := .ref q0_a) (C := "ConeForgeModel") (T := FM) (N := 46) hx hb hts iM hown hK hP 0 rfl rfl 0 (by decide) (hts _ (bgc bw684)) (fun _ h9 => h9) rfl d_M_set_122 ?_
                      refine lv_bipush (v := 8) hx hb d_M_set_125 (by decide) ?_
                      refine lv_iload_n hx hb d_M_set_127 rfl (lv_at hl 2 rfl) ?_
                      refine lv_imul hx hb d_M_set_128 ?_
                      refine lv_iload_n hx hb d_M_set_129 rfl (lv_at hl 3 rfl) ?_
                      refine lv_iadd hx hb d_M_set_130 ?_
                      obtain ⟨g183, h⟩ := gd_some h
                      refine va_dald hx hb hK hP 1 0 rfl rfl (inb_in g183) d_M_set_131 ?_
                      refine lv_goto (tgt := 155) hx hb d_M_set_132 (by decide) ?_
                      exact J155 2 0 vq0_a vq0_b vq0_c x1 x2 x3 x4 (vq0_a ((8 * x2) + x3).toNatClampNeg) H locs ls hP hD hS (lv_sub hl [0, 1, 2, 3, 4] rfl) h
                  · have h := it_f c177 h
                    refine lv_dconst0 hx hb d_M_set_110 ?_
                    exact rtD hx hb hr hlocks hQ (Option.some.inj h) hP hS d_M_set_111 rfl rfl
                · have h := it_f c176 h
                  refine lv_iload_n hx hb d_M_set_76 rfl (lv_at hl 1 rfl) ?_
                  refine lv_iconst (v := 1) hx hb d_M_set_77 (by decide) ?_
                  refine lv_icmp_eq (tgt := 99) hx hb d_M_set_78 (by decide) (fun c184 => ?_) (fun c184 => ?_)
                  · have h := it_t c184 h
                    refine lv_iconst (v := 0) hx hb d_M_set_99 (by decide) ?_
                    refine va_put (D := D) (ci := 8) (v := .int 0) (ty := .int) (C := "ConeForgeModel") (T := FM) (N := 46) hx hb hts iM tM tM_ok nmM hown hK hP hD hS 0 rfl rfl 34 (by decide) (hts _ (bgc bw718)) (fun _ h9 => h9) rfl (by decide +kernel) rfl rfl (Nat.le_of_ble_eq_true rfl) d_M_set_100 (fun H locs hP hD hS => ?_)
                    have hP : va_P D CL (w_M_set T q0 q0_a q0_b q0_c q0_rowScale q0_columnScale q0_sa q0_sb q0_sc q0_x q0_s q0_y q0_p q0_d q0_h q0_f q0_mm q0_low q0_dd q0_r q0_big q0_dt q0_dx q0_t q0_cost q0_rowScaleNow q0_columnScaleNow q0_basic q0_text q0_turned q0_na q0_nb q0_nc vq0_m vq0_n vq0_length vq0_where vq0_effort 0 vq0_at vq0_scaled vq0_solved vq0_second vq0_nm vq0_nn vq0_number vq0_bad vq0_a vq0_b vq0_c) H := hP
                    have hD : va_D A (w_M_set T q0 q0_a q0_b q0_c q0_rowScale q0_columnScale q0_sa q0_sb q0_sc q0_x q0_s q0_y q0_p q0_d q0_h q0_f q0_mm q0_low q0_dd q0_r q0_big q0_dt q0_dx q0_t q0_cost q0_rowScaleNow q0_columnScaleNow q0_basic q0_text q0_turned q0_na q0_nb q0_nc vq0_m vq0_n vq0_length vq0_where vq0_effort 0 vq0_at vq0_scaled vq0_solved vq0_second vq0_nm vq0_nn vq0_number vq0_bad vq0_a vq0_b vq0_c) := hD
                    refine lv_aload_n hx hb d_M_set_103 rfl (lv_at hl 0 rfl) ?_
                    refine va_get (D := D) (ci := 8) (v := .int 0) (C := "ConeForgeModel") (T := FM) (N := 46) hx hb hts iM hown hK hP 0 rfl rfl 34 (by decide) (hts _ (bgc bw718)) (fun _ h9 => h9) rfl d_M_set_104 ?_
                    refine lv_if_le (tgt := 112) hx hb d_M_set_107 (by decide) (fun c185 => ?_) (fun c185 => ?_)
                    · have h := it_t c185 h
                      refine lv_aload_n hx hb d_M_set_112 rfl (lv_at hl 0 rfl) ?_
                      refine lv_iconst (v := 0) hx hb d_M_set_113 (by decide) ?_
                      obtain ⟨g186, h⟩ := gd_some h
                      refine va_put (D := D) (ci := 8) (v := .int 0) (ty := .boolean) (C := "ConeForgeModel") (T := FM) (N := 46) hx hb hts iM tM tM_ok nmM hown hK hP hD hS 0 rfl rfl 37 (by decide) (hts _ (bgc bw721)) (fun _ h9 => h9) rfl (by decide +kernel) (isb_n g186) (isb_f g186) (Nat.le_of_ble_eq_true rfl) d_M_set_114 (fun H locs hP hD hS => ?_)
                      have hP : va_P D CL (w_M_set T q0 q0_a q0_b q0_c q0_rowScale q0_columnScale q0_sa q0_sb q0_sc q0_x q0_s q0_y q0_p q0_d q0_h q0_f q0_mm q0_low q0_dd q0_r q0_big q0_dt q0_dx q0_t q0_cost q0_rowScaleNow q0_columnScaleNow q0_basic q0_text q0_turned q0_na q0_nb q0_nc vq0_m vq0_n vq0_length vq0_where vq0_effort 0 vq0_at vq0_scaled 0 vq0_second vq0_nm vq0_nn vq0_number vq0_bad vq0_a vq0_b vq0_c) H := hP
                      have hD : va_D A (w_M_set T q0 q0_a q0_b q0_c q0_rowScale q0_columnScale q0_sa q0_sb q0_sc q0_x q0_s q0_y q0_p q0_d q0_h q0_f q0_mm q0_low q0_dd q0_r q0_big q0_dt q0_dx q0_t q0_cost q0_rowScaleNow q0_columnScaleNow q0_basic q0_text q0_turned q0_na q0_nb q0_nc vq0_m vq0_n vq0_length vq0_where vq0_effort 0 vq0_at vq0_scaled 0 vq0_second vq0_nm vq0_nn vq0_number vq0_bad vq0_a vq0_b vq0_c) := hD
                      refine lv_iload_n hx hb d_M_set_117 rfl (lv_at hl 1 rfl) ?_
                      refine lv_if_ne (tgt := 135) hx hb d_M_set_118 (by decide) (fun c187 => ?_) (fun c187 => ?_)
                      · have h := it_f c187 h
                        refine lv_iload_n hx hb d_M_set_135 rfl (lv_at hl 1 rfl) ?_
                        refine lv_iconst (v := 1) hx hb d_M_set_136 (by decide) ?_
                        refine lv_icmp_ne (tgt := 149) hx hb d_M_set_137 (by decide) (fun c188 => ?_) (fun c188 => ?_)
                        · have h := it_f c188 h
                          refine lv_aload_n hx hb d_M_set_149 rfl (lv_at hl 0 rfl) ?_
                          refine va_get (D := D) (ci := 8) (v := .ref q0_c) (C := "ConeForgeModel") (T := FM) (N := 46) hx hb hts iM hown hK hP 0 rfl rfl 2 (by decide) (hts _ (bgc bw686)) (fun _ h9 => h9) rfl d_M_set_150 ?_
                          refine lv_iload_n hx hb d_M_set_153 rfl (lv_at hl 3 rfl) ?_
                          obtain ⟨g189, h⟩ := gd_some h
                          refine va_dald hx hb hK hP 3 0 rfl rfl (inb_in g189) d_M_set_154 ?_
                          exact J155 0 0 vq0_a vq0_b vq0_c x1 x2 x3 x4 (vq0_c x3.toNatClampNeg) H locs ls hP hD hS (lv_sub hl [0, 1, 2, 3, 4] rfl) h
                        · have h := it_t c188 h
                          refine lv_aload_n hx hb d_M_set_140 rfl (lv_at hl 0 rfl) ?_
                          refine va_get (D := D) (ci := 8) (v := .ref q0_b) (C := "ConeForgeModel") (T := FM) (N := 46) hx hb hts iM hown hK hP 0 rfl rfl 1 (by decide) (hts _ (bgc bw685)) (fun _ h9 => h9) rfl d_M_set_141 ?_
                          refine lv_iload_n hx hb d_M_set_144 rfl (lv_at hl 2 rfl) ?_
                          obtain ⟨g190, h⟩ := gd_some h
                          refine va_dald hx hb hK hP 2 0 rfl rfl (inb_in g190) d_M_set_145 ?_
                          refine lv_goto (tgt := 155) hx hb d_M_set_146 (by decide) ?_
                          exact J155 0 0 vq0_a vq0_b vq0_c x1 x2 x3 x4 (vq0_b x2.toNatClampNeg) H locs ls hP hD hS (lv_sub hl [0, 1, 2, 3, 4] rfl) h
                      · have h := it_t c187 h
                        refine lv_aload_n hx hb d_M_set_121 rfl (lv_at hl 0 rfl) ?_
                        refine va_get (D := D) (ci := 8) (v := .ref q0_a) (C := "ConeForgeModel") (T := FM) (N := 46) hx hb hts iM hown hK hP 0 rfl rfl 0 (by decide) (hts _ (bgc bw684)) (fun _ h9 => h9) rfl d_M_set_122 ?_
                        refine lv_bipush (v := 8) hx hb d_M_set_125 (by decide) ?_
                        refine lv_iload_n hx hb d_M_set_127 rfl (lv_at hl 2 rfl) ?_
                        refine lv_imul hx hb d_M_set_128 ?_
                        refine lv_iload_n hx hb d_M_set_129 rfl (lv_at hl 3 rfl) ?_
                        refine lv_iadd hx hb d_M_set_130 ?_
                        obtain ⟨g191, h⟩ := gd_some h
                        refine va_dald hx hb hK hP 1 0 rfl rfl (inb_in g191) d_M_set_131 ?_
                        refine lv_goto (tgt := 155) hx hb d_M_set_132 (by decide) ?_
                        exact J155 0 0 vq0_a vq0_b vq0_c x1 x2 x3 x4 (vq0_a ((8 * x2) + x3).toNatClampNeg) H locs ls hP hD hS (lv_sub hl [0, 1, 2, 3, 4] rfl) h
                    · have h := it_f c185 h
                      refine lv_dconst0 hx hb d_M_set_110 ?_
                      exact rtD hx hb hr hlocks hQ (Option.some.inj h) hP hS d_M_set_111 rfl rfl
                  · have h := it_f c184 h
                    refine lv_iload_n hx hb d_M_set_81 rfl (lv_at hl 3 rfl) ?_
                    refine lv_iconst (v := 0) hx hb d_M_set_82 (by decide) ?_
                    refine lv_aload_n hx hb d_M_set_83 rfl (lv_at hl 0 rfl) ?_
                    refine va_get (D := D) (ci := 8) (v := .int vq0_n) (C := "ConeForgeModel") (T := FM) (N := 46) hx hb hts iM hown hK hP 0 rfl rfl 30 (by decide) (hts _ (bgc bw714)) (fun _ h9 => h9) rfl d_M_set_84 ?_
                    refine lv_iconst (v := 1) hx hb d_M_set_87 (by decide) ?_
                    refine lv_isub hx hb d_M_set_88 ?_
                    obtain ⟨u192, hu192, h⟩ := bi_some h
                    refine kI (v := u192) (wc := (w_M_in T  )) (wc' := (w_M_in T  )) (runOS (As := [.int x3, .int 0, .int (vq0_n - 1)]) (rest := [.ref q0]) ((c_M_in l D T   x3 0 (vq0_n - 1) u192 hu192) H.size) ⟨hx, hb, hml, hown, hts⟩ (cwOS bw785 bw786 bw105 bw787 dd_M_in hts ⟨Nat.le_of_ble_eq_true rfl, Nat.le_of_ble_eq_true rfl⟩)  hNW hK hP hD [] rfl (by decide) rfl hl.1 rfl (lv_room (Nat.le_of_ble_eq_true rfl)) d_M_set_89 ⟨Nat.le_of_ble_eq_true rfl, Nat.le_of_ble_eq_true rfl⟩) hP hD hS hA [] rfl rfl (fun H locs hP hD hS => ?_)
                    have hP : va_P D CL (w_M_set T q0 q0_a q0_b q0_c q0_rowScale q0_columnScale q0_sa q0_sb q0_sc q0_x q0_s q0_y q0_p q0_d q0_h q0_f q0_mm q0_low q0_dd q0_r q0_big q0_dt q0_dx q0_t q0_cost q0_rowScaleNow q0_columnScaleNow q0_basic q0_text q0_turned q0_na q0_nb q0_nc vq0_m vq0_n vq0_length vq0_where vq0_effort vq0_thrown vq0_at vq0_scaled vq0_solved vq0_second vq0_nm vq0_nn vq0_number vq0_bad vq0_a vq0_b vq0_c) H := hP
                    have hD : va_D A (w_M_set T q0 q0_a q0_b q0_c q0_rowScale q0_columnScale q0_sa q0_sb q0_sc q0_x q0_s q0_y q0_p q0_d q0_h q0_f q0_mm q0_low q0_dd q0_r q0_big q0_dt q0_dx q0_t q0_cost q0_rowScaleNow q0_columnScaleNow q0_basic q0_text q0_turned q0_na q0_nb q0_nc vq0_m vq0_n vq0_length vq0_where vq0_effort vq0_thrown vq0_at vq0_scaled vq0_solved vq0_second vq0_nm vq0_nn vq0_number vq0_bad vq0_a vq0_b vq0_c) := hD
                    refine lv_if_ne (tgt := 99) hx hb d_M_set_92 (by decide) (fun c193 => ?_) (fun c193 => ?_)
                    · have h := it_f c193 h
                      refine lv_iconst (v := 0) hx hb d_M_set_99 (by decide) ?_
                      refine va_put (D := D) (ci := 8) (v := .int 0) (ty := .int) (C := "ConeForgeModel") (T := FM) (N := 46) hx hb hts iM tM tM_ok nmM hown hK hP hD hS 0 rfl rfl 34 (by decide) (hts _ (bgc bw718)) (fun _ h9 => h9) rfl (by decide +kernel) rfl rfl (Nat.le_of_ble_eq_true rfl) d_M_set_100 (fun H locs hP hD hS => ?_)
                      have hP : va_P D CL (w_M_set T q0 q0_a q0_b q0_c q0_rowScale q0_columnScale q0_sa q0_sb q0_sc q0_x q0_s q0_y q0_p q0_d q0_h q0_f q0_mm q0_low q0_dd q0_r q0_big q0_dt q0_dx q0_t q0_cost q0_rowScaleNow q0_columnScaleNow q0_basic q0_text q0_turned q0_na q0_nb q0_nc vq0_m vq0_n vq0_length vq0_where vq0_effort 0 vq0_at vq0_scaled vq0_solved vq0_second vq0_nm vq0_nn vq0_number vq0_bad vq0_a vq0_b vq0_c) H := hP
                      have hD : va_D A (w_M_set T q0 q0_a q0_b q0_c q0_rowScale q0_columnScale q0_sa q0_sb q0_sc q0_x q0_s q0_y q0_p q0_d q0_h q0_f q0_mm q0_low q0_dd q0_r q0_big q0_dt q0_dx q0_t q0_cost q0_rowScaleNow q0_columnScaleNow q0_basic q0_text q0_turned q0_na q0_nb q0_nc vq0_m vq0_n vq0_length vq0_where vq0_effort 0 vq0_at vq0_scaled vq0_solved vq0_second vq0_nm vq0_nn vq0_number vq0_bad vq0_a vq0_b vq0_c) := hD
                      refine lv_aload_n hx hb d_M_set_103 rfl (lv_at hl 0 rfl) ?_
                      refine va_get (D := D) (ci := 8) (v := .int 0) (C := "ConeForgeModel") (T := FM) (N := 46) hx hb hts iM hown hK hP 0 rfl rfl 34 (by decide) (hts _ (bgc bw718)) (fun _ h9 => h9) rfl d_M_set_104 ?_
                      refine lv_if_le (tgt := 112) hx hb d_M_set_107 (by decide) (fun c194 => ?_) (fun c194 => ?_)
                      · have h := it_t c194 h
                        refine lv_aload_n hx hb d_M_set_112 rfl (lv_at hl 0 rfl) ?_
                        refine lv_iconst (v := 0) hx hb d_M_set_113 (by decide) ?_
                        obtain ⟨g195, h⟩ := gd_some h
                        refine va_put (D := D) (ci := 8) (v := .int 0) (ty := .boolean) (C := "ConeForgeModel") (T := FM) (N := 46) hx hb hts iM tM tM_ok nmM hown hK hP hD hS 0 rfl rfl 37 (by decide) (hts _ (bgc bw721)) (fun _ h9 => h9) rfl (by decide +kernel) (isb_n g195) (isb_f g195) (Nat.le_of_ble_eq_true rfl) d_M_set_114 (fun H locs hP hD hS => ?_)
                        have hP : va_P D CL (w_M_set T q0 q0_a q0_b q0_c q0_rowScale q0_columnScale q0_sa q0_sb q0_sc q0_x q0_s q0_y q0_p q0_d q0_h q0_f q0_mm q0_low q0_dd q0_r q0_big q0_dt q0_dx q0_t q0_cost q0_rowScaleNow q0_columnScaleNow q0_basic q0_text q0_turned q0_na q0_nb q0_nc vq0_m vq0_n vq0_length vq0_where vq0_effort 0 vq0_at vq0_scaled 0 vq0_second vq0_nm vq0_nn vq0_number vq0_bad vq0_a vq0_b vq0_c) H := hP
                        have hD : va_D A (w_M_set T q0 q0_a q0_b q0_c q0_rowScale q0_columnScale q0_sa q0_sb q0_sc q0_x q0_s q0_y q0_p q0_d q0_h q0_f q0_mm q0_low q0_dd q0_r q0_big q0_dt q0_dx q0_t q0_cost q0_rowScaleNow q0_columnScaleNow q0_basic q0_text q0_turned q0_na q0_nb q0_nc vq0_m vq0_n vq0_length vq0_where vq0_effort 0 vq0_at vq0_scaled 0 vq0_second vq0_nm vq0_nn vq0_number vq0_bad vq0_a vq0_b vq0_c) := hD
                        refine lv_iload_n hx hb d_M_set_117 rfl (lv_at hl 1 rfl) ?_
                        refine lv_if_ne (tgt := 135) hx hb d_M_set_118 (by decide) (fun c196 => ?_) (fun c196 => ?_)
                        · have h := it_f c196 h
                          refine lv_iload_n hx hb d_M_set_135 rfl (lv_at hl 1 rfl) ?_
                          refine lv_iconst (v := 1) hx hb d_M_set_136 (by decide) ?_
                          refine lv_icmp_ne (tgt := 149) hx hb d_M_set_137 (by decide) (fun c197 => ?_) (fun c197 => ?_)
                          · have h := it_f c197 h
                            refine lv_aload_n hx hb d_M_set_149 rfl (lv_at hl 0 rfl) ?_
                            refine va_get (D := D) (ci := 8) (v := .ref q0_c) (C := "ConeForgeModel") (T := FM) (N := 46) hx hb hts iM hown hK hP 0 rfl rfl 2 (by decide) (hts _ (bgc bw686)) (fun _ h9 => h9) rfl d_M_set_150 ?_
                            refine lv_iload_n hx hb d_M_set_153 rfl (lv_at hl 3 rfl) ?_
                            obtain ⟨g198, h⟩ := gd_some h
                            refine va_dald hx hb hK hP 3 0 rfl rfl (inb_in g198) d_M_set_154 ?_
                            exact J155 0 0 vq0_a vq0_b vq0_c x1 x2 x3 x4 (vq0_c x3.toNatClampNeg) H locs ls hP hD hS (lv_sub hl [0, 1, 2, 3, 4] rfl) h
                          · have h := it_t c197 h
                            refine lv_aload_n hx hb d_M_set_140 rfl (lv_at hl 0 rfl) ?_
                            refine va_get (D := D) (ci := 8) (v := .ref q0_b) (C := "ConeForgeModel") (T := FM) (N := 46) hx hb hts iM hown hK hP 0 rfl rfl 1 (by decide) (hts _ (bgc bw685)) (fun _ h9 => h9) rfl d_M_set_141 ?_
                            refine lv_iload_n hx hb d_M_set_144 rfl (lv_at hl 2 rfl) ?_
                            obtain ⟨g199, h⟩ := gd_some h
                            refine va_dald hx hb hK hP 2 0 rfl rfl (inb_in g199) d_M_set_145 ?_
                            refine lv_goto (tgt := 155) hx hb d_M_set_146 (by decide) ?_
                            exact J155 0 0 vq0_a vq0_b vq0_c x1 x2 x3 x4 (vq0_b x2.toNatClampNeg) H locs ls hP hD hS (lv_sub hl [0, 1, 2, 3, 4] rfl) h
                        · have h := it_t c196 h
                          refine lv_aload_n hx hb d_M_set_121 rfl (lv_at hl 0 rfl) ?_
                          refine va_get (D := D) (ci := 8) (v := .ref q0_a) (C := "ConeForgeModel") (T := FM) (N := 46) hx hb hts iM hown hK hP 0 rfl rfl 0 (by decide) (hts _ (bgc bw684)) (fun _ h9 => h9) rfl d_M_set_122 ?_
                          refine lv_bipush (v := 8) hx hb d_M_set_125 (by decide) ?_
                          refine lv_iload_n hx hb d_M_set_127 rfl (lv_at hl 2 rfl) ?_
                          refine lv_imul hx hb d_M_set_128 ?_
                          refine lv_iload_n hx hb d_M_set_129 rfl (lv_at hl 3 rfl) ?_
                          refine lv_iadd hx hb d_M_set_130 ?_
                          obtain ⟨g200, h⟩ := gd_some h
                          refine va_dald hx hb hK hP 1 0 rfl rfl (inb_in g200) d_M_set_131 ?_
                          refine lv_goto (tgt := 155) hx hb d_M_set_132 (by decide) ?_
                          exact J155 0 0 vq0_a vq0_b vq0_c x1 x2 x3 x4 (vq0_a ((8 * x2) + x3).toNatClampNeg) H locs ls hP hD hS (lv_sub hl [0, 1, 2, 3, 4] rfl) h
                      · have h := it_f c194 h
                        refine lv_dconst0 hx hb d_M_set_110 ?_
                        exact rtD hx hb hr hlocks hQ (Option.some.inj h) hP hS d_M_set_111 rfl rfl
                    · have h := it_t c193 h
                      refine lv_iconst (v := 2) hx hb d_M_set_95 (by decide) ?_
                      refine lv_goto (tgt := 100) hx hb d_M_set_96 (by decide) ?_
                      refine va_put (D := D) (ci := 8) (v := .int 2) (ty := .int) (C := "ConeForgeModel") (T := FM) (N := 46) hx hb hts iM tM tM_ok nmM hown hK hP hD hS 0 rfl rfl 34 (by decide) (hts _ (bgc bw718)) (fun _ h9 => h9) rfl (by decide +kernel) rfl rfl (Nat.le_of_ble_eq_true rfl) d_M_set_100 (fun H locs hP hD hS => ?_)
                      have hP : va_P D CL (w_M_set T q0 q0_a q0_b q0_c q0_rowScale q0_columnScale q0_sa q0_sb q0_sc q0_x q0_s q0_y q0_p q0_d q0_h q0_f q0_mm q0_low q0_dd q0_r q0_big q0_dt q0_dx q0_t q0_cost q0_rowScaleNow q0_columnScaleNow q0_basic q0_text q0_turned q0_na q0_nb q0_nc vq0_m vq0_n vq0_length vq0_where vq0_effort 2 vq0_at vq0_scaled vq0_solved vq0_second vq0_nm vq0_nn vq0_number vq0_bad vq0_a vq0_b vq0_c) H := hP
                      have hD : va_D A (w_M_set T q0 q0_a q0_b q0_c q0_rowScale q0_columnScale q0_sa q0_sb q0_sc q0_x q0_s q0_y q0_p q0_d q0_h q0_f q0_mm q0_low q0_dd q0_r q0_big q0_dt q0_dx q0_t q0_cost q0_rowScaleNow q0_columnScaleNow q0_basic q0_text q0_turned q0_na q0_nb q0_nc vq0_m vq0_n vq0_length vq0_where vq0_effort 2 vq0_at vq0_scaled vq0_solved vq0_second vq0_nm vq0_nn vq0_number vq0_bad vq0_a vq0_b vq0_c) := hD
                      refine lv_aload_n hx hb d_M_set_103 rfl (lv_at hl 0 rfl) ?_
                      refine va_get (D := D) (ci := 8) (v := .int 2) (C := "ConeForgeModel") (T := FM) (N := 46) hx hb hts iM hown hK hP 0 rfl rfl 34 (by decide) (hts _ (bgc bw718)) (fun _ h9 => h9) rfl d_M_set_104 ?_
                      refine lv_if_le (tgt := 112) hx hb d_M_set_107 (by decide) (fun c201 => ?_) (fun c201 => ?_)
                      · have h := it_t c201 h
                        refine lv_aload_n hx hb d_M_set_112 rfl (lv_at hl 0 rfl) ?_
                        refine lv_iconst (v := 0) hx hb d_M_set_113 (by decide) ?_
                        obtain ⟨g202, h⟩ := gd_some h
                        refine va_put (D := D) (ci := 8) (v := .int 0) (ty := .boolean) (C := "ConeForgeModel") (T := FM) (N := 46) hx hb hts iM tM tM_ok nmM hown hK hP hD hS 0 rfl rfl 37 (by decide) (hts _ (bgc bw721)) (fun _ h9 => h9) rfl (by decide +kernel) (isb_n g202) (isb_f g202) (Nat.le_of_ble_eq_true rfl) d_M_set_114 (fun H locs hP hD hS => ?_)
                        have hP : va_P D CL (w_M_set T q0 q0_a q0_b q0_c q0_rowScale q0_columnScale q0_sa q0_sb q0_sc q0_x q0_s q0_y q0_p q0_d q0_h q0_f q0_mm q0_low q0_dd q0_r q0_big q0_dt q0_dx q0_t q0_cost q0_rowScaleNow q0_columnScaleNow q0_basic q0_text q0_turned q0_na q0_nb q0_nc vq0_m vq0_n vq0_length vq0_where vq0_effort 2 vq0_at vq0_scaled 0 vq0_second vq0_nm vq0_nn vq0_number vq0_bad vq0_a vq0_b vq0_c) H := hP
                        have hD : va_D A (w_M_set T q0 q0_a q0_b q0_c q0_rowScale q0_columnScale q0_sa q0_sb q0_sc q0_x q0_s q0_y q0_p q0_d q0_h q0_f q0_mm q0_low q0_dd q0_r q0_big q0_dt q0_dx q0_t q0_cost q0_rowScaleNow q0_columnScaleNow q0_basic q0_text q0_turned q0_na q0_nb q0_nc vq0_m vq0_n vq0_length vq0_where vq0_effort 2 vq0_at vq0_scaled 0 vq0_second vq0_nm vq0_nn vq0_number vq0_bad vq0_a vq0_b vq0_c) := hD
                        refine lv_iload_n hx hb d_M_set_117 rfl (lv_at hl 1 rfl) ?_
                        refine lv_if_ne (tgt := 135) hx hb d_M_set_118 (by decide) (fun c203 => ?_) (fun c203 => ?_)
                        · have h := it_f c203 h
                          refine lv_iload_n hx hb d_M_set_135 rfl (lv_at hl 1 rfl) ?_
                          refine lv_iconst (v := 1) hx hb d_M_set_136 (by decide) ?_
                          refine lv_icmp_ne (tgt := 149) hx hb d_M_set_137 (by decide) (fun c204 => ?_) (fun c204 => ?_)
                          · have h := it_f c204 h
                            refine lv_aload_n hx hb d_M_set_149 rfl (lv_at hl 0 rfl) ?_
                            refine va_get (D := D) (ci := 8) (v := .ref q0_c) (C := "ConeForgeModel") (T := FM) (N := 46) hx hb hts iM hown hK hP 0 rfl rfl 2 (by decide) (hts _ (bgc bw686)) (fun _ h9 => h9) rfl d_M_set_150 ?_
                            refine lv_iload_n hx hb d_M_set_153 rfl (lv_at hl 3 rfl) ?_
                            obtain ⟨g205, h⟩ := gd_some h
                            refine va_dald hx hb hK hP 3 0 rfl rfl (inb_in g205) d_M_set_154 ?_
                            exact J155 2 0 vq0_a vq0_b vq0_c x1 x2 x3 x4 (vq0_c x3.toNatClampNeg) H locs ls hP hD hS (lv_sub hl [0, 1, 2, 3, 4] rfl) h
                          · have h := it_t c204 h
                            refine lv_aload_n hx hb d_M_set_140 rfl (lv_at hl 0 rfl) ?_
                            refine va_get (D := D) (ci := 8) (v := .ref q0_b) (C := "ConeForgeModel") (T := FM) (N := 46) hx hb hts iM hown hK hP 0 rfl rfl 1 (by decide) (hts _ (bgc bw685)) (fun _ h9 => h9) rfl d_M_set_141 ?_
                            refine lv_iload_n hx hb d_M_set_144 rfl (lv_at hl 2 rfl) ?_
                            obtain ⟨g206, h⟩ := gd_some h
                            refine va_dald hx hb hK hP 2 0 rfl rfl (inb_in g206) d_M_set_145 ?_
                            refine lv_goto (tgt := 155) hx hb d_M_set_146 (by decide) ?_
                            exact J155 2 0 vq0_a vq0_b vq0_c x1 x2 x3 x4 (vq0_b x2.toNatClampNeg) H locs ls hP hD hS (lv_sub hl [0, 1, 2, 3, 4] rfl) h
                        · have h := it_t c203 h
                          refine lv_aload_n hx hb d_M_set_121 rfl (lv_at hl 0 rfl) ?_
                          refine va_get (D := D) (ci := 8) (v := .ref q0_a) (C := "ConeForgeModel") (T := FM) (N := 46) hx hb hts iM hown hK hP 0 rfl rfl 0 (by decide) (hts _ (bgc bw684)) (fun _ h9 => h9) rfl d_M_set_122 ?_
                          refine lv_bipush (v := 8) hx hb d_M_set_125 (by decide) ?_
                          refine lv_iload_n hx hb d_M_set_127 rfl (lv_at hl 2 rfl) ?_
                          refine lv_imul hx hb d_M_set_128 ?_
                          refine lv_iload_n hx hb d_M_set_129 rfl (lv_at hl 3 rfl) ?_
                          refine lv_iadd hx hb d_M_set_130 ?_
                          obtain ⟨g207, h⟩ := gd_some h
                          refine va_dald hx hb hK hP 1 0 rfl rfl (inb_in g207) d_M_set_131 ?_
                          refine lv_goto (tgt := 155) hx hb d_M_set_132 (by decide) ?_
                          exact J155 2 0 vq0_a vq0_b vq0_c x1 x2 x3 x4 (vq0_a ((8 * x2) + x3).toNatClampNeg) H locs ls hP hD hS (lv_sub hl [0, 1, 2, 3, 4] rfl) h
                      · have h := it_f c201 h
                        refine lv_dconst0 hx hb d_M_set_110 ?_
                        exact rtD hx hb hr hlocks hQ (Option.some.inj h) hP hS d_M_set_111 rfl rfl
            · have h := it_f c149 h
              refine lv_iconst (v := 1) hx hb d_M_set_53 (by decide) ?_
              refine lv_goto (tgt := 100) hx hb d_M_set_54 (by decide) ?_
              refine va_put (D := D) (ci := 8) (v := .int 1) (ty := .int) (C := "ConeForgeModel") (T := FM) (N := 46) hx hb hts iM tM tM_ok nmM hown hK hP hD hS 0 rfl rfl 34 (by decide) (hts _ (bgc bw718)) (fun _ h9 => h9) rfl (by decide +kernel) rfl rfl (Nat.le_of_ble_eq_true rfl) d_M_set_100 (fun H locs hP hD hS => ?_)
              have hP : va_P D CL (w_M_set T q0 q0_a q0_b q0_c q0_rowScale q0_columnScale q0_sa q0_sb q0_sc q0_x q0_s q0_y q0_p q0_d q0_h q0_f q0_mm q0_low q0_dd q0_r q0_big q0_dt q0_dx q0_t q0_cost q0_rowScaleNow q0_columnScaleNow q0_basic q0_text q0_turned q0_na q0_nb q0_nc vq0_m vq0_n vq0_length vq0_where vq0_effort 1 vq0_at vq0_scaled vq0_solved vq0_second vq0_nm vq0_nn vq0_number vq0_bad vq0_a vq0_b vq0_c) H := hP
              have hD : va_D A (w_M_set T q0 q0_a q0_b q0_c q0_rowScale q0_columnScale q0_sa q0_sb q0_sc q0_x q0_s q0_y q0_p q0_d q0_h q0_f q0_mm q0_low q0_dd q0_r q0_big q0_dt q0_dx q0_t q0_cost q0_rowScaleNow q0_columnScaleNow q0_basic q0_text q0_turned q0_na q0_nb q0_nc vq0_m vq0_n vq0_length vq0_where vq0_effort 1 vq0_at vq0_scaled vq0_solved vq0_second vq0_nm vq0_nn vq0_number vq0_bad vq0_a vq0_b vq0_c) := hD
              refine lv_aload_n hx hb d_M_set_103 rfl (lv_at hl 0 rfl) ?_
              refine va_get (D := D) (ci := 8) (v := .int 1) (C := "ConeForgeModel") (T := FM) (N := 46) hx hb hts iM hown hK hP 0 rfl rfl 34 (by decide) (hts _ (bgc bw718)) (fun _ h9 => h9) rfl d_M_set_104 ?_
              refine lv_if_le (tgt := 112) hx hb d_M_set_107 (by decide) (fun c208 => ?_) (fun c208 => ?_)
              · have h := it_t c208 h
                refine lv_aload_n hx hb d_M_set_112 rfl (lv_at hl 0 rfl) ?_
                refine lv_iconst (v := 0) hx hb d_M_set_113 (by decide) ?_
                obtain ⟨g209, h⟩ := gd_some h
                refine va_put (D := D) (ci := 8) (v := .int 0) (ty := .boolean) (C := "ConeForgeModel") (T := FM) (N := 46) hx hb hts iM tM tM_ok nmM hown hK hP hD hS 0 rfl rfl 37 (by decide) (hts _ (bgc bw721)) (fun _ h9 => h9) rfl (by decide +kernel) (isb_n g209) (isb_f g209) (Nat.le_of_ble_eq_true rfl) d_M_set_114 (fun H locs hP hD hS => ?_)
                have hP : va_P D CL (w_M_set T q0 q0_a q0_b q0_c q0_rowScale q0_columnScale q0_sa q0_sb q0_sc q0_x q0_s q0_y q0_p q0_d q0_h q0_f q0_mm q0_low q0_dd q0_r q0_big q0_dt q0_dx q0_t q0_cost q0_rowScaleNow q0_columnScaleNow q0_basic q0_text q0_turned q0_na q0_nb q0_nc vq0_m vq0_n vq0_length vq0_where vq0_effort 1 vq0_at vq0_scaled 0 vq0_second vq0_nm vq0_nn vq0_number vq0_bad vq0_a vq0_b vq0_c) H := hP
                have hD : va_D A (w_M_set T q0 q0_a q0_b q0_c q0_rowScale q0_columnScale q0_sa q0_sb q0_sc q0_x q0_s q0_y q0_p q0_d q0_h q0_f q0_mm q0_low q0_dd q0_r q0_big q0_dt q0_dx q0_t q0_cost q0_rowScaleNow q0_columnScaleNow q0_basic q0_text q0_turned q0_na q0_nb q0_nc vq0_m vq0_n vq0_length vq0_where vq0_effort 1 vq0_at vq0_scaled 0 vq0_second vq0_nm vq0_nn vq0_number vq0_bad vq0_a vq0_b vq0_c) := hD
                refine lv_iload_n hx hb d_M_set_117 rfl (lv_at hl 1 rfl) ?_
                refine lv_if_ne (tgt := 135) hx hb d_M_set_118 (by decide) (fun c210 => ?_) (fun c210 => ?_)
                · have h := it_f c210 h
                  refine lv_iload_n hx hb d_M_set_135 rfl (lv_at hl 1 rfl) ?_
                  refine lv_iconst (v := 1) hx hb d_M_set_136 (by decide) ?_
                  refine lv_icmp_ne (tgt := 149) hx hb d_M_set_137 (by decide) (fun c211 => ?_) (fun c211 => ?_)
                  · have h := it_f c211 h
                    refine lv_aload_n hx hb d_M_set_149 rfl (lv_at hl 0 rfl) ?_
                    refine va_get (D := D) (ci := 8) (v := .ref q0_c) (C := "ConeForgeModel") (T := FM) (N := 46) hx hb hts iM hown hK hP 0 rfl rfl 2 (by decide) (hts _ (bgc bw686)) (fun _ h9 => h9) rfl d_M_set_150 ?_
                    refine lv_iload_n hx hb d_M_set_153 rfl (lv_at hl 3 rfl) ?_
                    obtain ⟨g212, h⟩ := gd_some h
                    refine va_dald hx hb hK hP 3 0 rfl rfl (inb_in g212) d_M_set_154 ?_
                    exact J155 1 0 vq0_a vq0_b vq0_c x1 x2 x3 x4 (vq0_c x3.toNatClampNeg) H locs ls hP hD hS (lv_sub hl [0, 1, 2, 3, 4] rfl) h
                  · have h := it_t c211 h
                    refine lv_aload_n hx hb d_M_set_140 rfl (lv_at hl 0 rfl) ?_
                    refine va_get (D := D) (ci := 8) (v := .ref q0_b) (C := "ConeForgeModel") (T := FM) (N := 46) hx hb hts iM hown hK hP 0 rfl rfl 1 (by decide) (hts _ (bgc bw685)) (fun _ h9 => h9) rfl d_M_set_141 ?_
                    refine lv_iload_n hx hb d_M_set_144 rfl (lv_at hl 2 rfl) ?_
                    obtain ⟨g213, h⟩ := gd_some h
                    refine va_dald hx hb hK hP 2 0 rfl rfl (inb_in g213) d_M_set_145 ?_
                    refine lv_goto (tgt := 155) hx hb d_M_set_146 (by decide) ?_
                    exact J155 1 0 vq0_a vq0_b vq0_c x1 x2 x3 x4 (vq0_b x2.toNatClampNeg) H locs ls hP hD hS (lv_sub hl [0, 1, 2, 3, 4] rfl) h
                · have h := it_t c210 h
                  refine lv_aload_n hx hb d_M_set_121 rfl (lv_at hl 0 rfl) ?_
                  refine va_get (D := D) (ci := 8) (v := .ref q0_a) (C := "ConeForgeModel") (T := FM) (N := 46) hx hb hts iM hown hK hP 0 rfl rfl 0 (by decide) (hts _ (bgc bw684)) (fun _ h9 => h9) rfl d_M_set_122 ?_
                  refine lv_bipush (v := 8) hx hb d_M_set_125 (by decide) ?_
                  refine lv_iload_n hx hb d_M_set_127 rfl (lv_at hl 2 rfl) ?_
                  refine lv_imul hx hb d_M_set_128 ?_
                  refine lv_iload_n hx hb d_M_set_129 rfl (lv_at hl 3 rfl) ?_
                  refine lv_iadd hx hb d_M_set_130 ?_
                  obtain ⟨g214, h⟩ := gd_some h
                  refine va_dald hx hb hK hP 1 0 rfl rfl (inb_in g214) d_M_set_131 ?_
                  refine lv_goto (tgt := 155) hx hb d_M_set_132 (by decide) ?_
                  exact J155 1 0 vq0_a vq0_b vq0_c x1 x2 x3 x4 (vq0_a ((8 * x2) + x3).toNatClampNeg) H locs ls hP hD hS (lv_sub hl [0, 1, 2, 3, 4] rfl) h
              · have h := it_f c208 h
                refine lv_dconst0 hx hb d_M_set_110 ?_
                exact rtD hx hb hr hlocks hQ (Option.some.inj h) hP hS d_M_set_111 rfl rfl
