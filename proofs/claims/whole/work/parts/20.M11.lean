theorem d_M_table_0 : decode prog_10_method_30_code 0 = .ok (.iconst 0, 1) := by decide +kernel
theorem d_M_table_1 : decode prog_10_method_30_code 1 = .ok (.istore_n 1, 1) := by decide +kernel
theorem d_M_table_2 : decode prog_10_method_30_code 2 = .ok (.iload_n 1, 1) := by decide +kernel
theorem d_M_table_3 : decode prog_10_method_30_code 3 = .ok (.aload_n 0, 1) := by decide +kernel
theorem d_M_table_4 : decode prog_10_method_30_code 4 = .ok (.getfield 99, 3) := by decide +kernel
theorem d_M_table_7 : decode prog_10_method_30_code 7 = .ok (.if_icmp .ge 198, 3) := by decide +kernel
theorem d_M_table_10 : decode prog_10_method_30_code 10 = .ok (.aload_n 0, 1) := by decide +kernel
theorem d_M_table_11 : decode prog_10_method_30_code 11 = .ok (.getfield 95, 3) := by decide +kernel
theorem d_M_table_14 : decode prog_10_method_30_code 14 = .ok (.iload_n 1, 1) := by decide +kernel
theorem d_M_table_15 : decode prog_10_method_30_code 15 = .ok (.aload_n 0, 1) := by decide +kernel
theorem d_M_table_16 : decode prog_10_method_30_code 16 = .ok (.getfield 28, 3) := by decide +kernel
theorem d_M_table_19 : decode prog_10_method_30_code 19 = .ok (.iload_n 1, 1) := by decide +kernel
theorem d_M_table_20 : decode prog_10_method_30_code 20 = .ok (.daload, 1) := by decide +kernel
theorem d_M_table_21 : decode prog_10_method_30_code 21 = .ok (.dconst 0, 1) := by decide +kernel
theorem d_M_table_22 : decode prog_10_method_30_code 22 = .ok (.dcmp .g, 1) := by decide +kernel
theorem d_M_table_23 : decode prog_10_method_30_code 23 = .ok (.ifCond .ge 7, 3) := by decide +kernel
theorem d_M_table_26 : decode prog_10_method_30_code 26 = .ok (.iconst 1, 1) := by decide +kernel
theorem d_M_table_27 : decode prog_10_method_30_code 27 = .ok (.goto 4, 3) := by decide +kernel
theorem d_M_table_30 : decode prog_10_method_30_code 30 = .ok (.iconst 0, 1) := by decide +kernel
theorem d_M_table_31 : decode prog_10_method_30_code 31 = .ok (.bastore, 1) := by decide +kernel
theorem d_M_table_32 : decode prog_10_method_30_code 32 = .ok (.iconst 0, 1) := by decide +kernel
theorem d_M_table_33 : decode prog_10_method_30_code 33 = .ok (.istore_n 2, 1) := by decide +kernel
theorem d_M_table_34 : decode prog_10_method_30_code 34 = .ok (.iload_n 2, 1) := by decide +kernel
theorem d_M_table_35 : decode prog_10_method_30_code 35 = .ok (.aload_n 0, 1) := by decide +kernel
theorem d_M_table_36 : decode prog_10_method_30_code 36 = .ok (.getfield 103, 3) := by decide +kernel
theorem d_M_table_39 : decode prog_10_method_30_code 39 = .ok (.if_icmp .ge 66, 3) := by decide +kernel
theorem d_M_table_42 : decode prog_10_method_30_code 42 = .ok (.aload_n 0, 1) := by decide +kernel
theorem d_M_table_43 : decode prog_10_method_30_code 43 = .ok (.getfield 95, 3) := by decide +kernel
theorem d_M_table_46 : decode prog_10_method_30_code 46 = .ok (.iload_n 1, 1) := by decide +kernel
theorem d_M_table_47 : decode prog_10_method_30_code 47 = .ok (.baload, 1) := by decide +kernel
theorem d_M_table_48 : decode prog_10_method_30_code 48 = .ok (.ifCond .eq 29, 3) := by decide +kernel
theorem d_M_table_51 : decode prog_10_method_30_code 51 = .ok (.aload_n 0, 1) := by decide +kernel
theorem d_M_table_52 : decode prog_10_method_30_code 52 = .ok (.getfield 25, 3) := by decide +kernel
theorem d_M_table_55 : decode prog_10_method_30_code 55 = .ok (.bipush 8, 2) := by decide +kernel
theorem d_M_table_57 : decode prog_10_method_30_code 57 = .ok (.iload_n 1, 1) := by decide +kernel
theorem d_M_table_58 : decode prog_10_method_30_code 58 = .ok (.imul, 1) := by decide +kernel
theorem d_M_table_59 : decode prog_10_method_30_code 59 = .ok (.iload_n 2, 1) := by decide +kernel
theorem d_M_table_60 : decode prog_10_method_30_code 60 = .ok (.iadd, 1) := by decide +kernel
theorem d_M_table_61 : decode prog_10_method_30_code 61 = .ok (.aload_n 0, 1) := by decide +kernel
theorem d_M_table_62 : decode prog_10_method_30_code 62 = .ok (.getfield 25, 3) := by decide +kernel
theorem d_M_table_65 : decode prog_10_method_30_code 65 = .ok (.bipush 8, 2) := by decide +kernel
theorem d_M_table_67 : decode prog_10_method_30_code 67 = .ok (.iload_n 1, 1) := by decide +kernel
theorem d_M_table_68 : decode prog_10_method_30_code 68 = .ok (.imul, 1) := by decide +kernel
theorem d_M_table_69 : decode prog_10_method_30_code 69 = .ok (.iload_n 2, 1) := by decide +kernel
theorem d_M_table_70 : decode prog_10_method_30_code 70 = .ok (.iadd, 1) := by decide +kernel
theorem d_M_table_71 : decode prog_10_method_30_code 71 = .ok (.daload, 1) := by decide +kernel
theorem d_M_table_72 : decode prog_10_method_30_code 72 = .ok (.ldc2_w 253, 3) := by decide +kernel
theorem d_M_table_75 : decode prog_10_method_30_code 75 = .ok (.dmul, 1) := by decide +kernel
theorem d_M_table_76 : decode prog_10_method_30_code 76 = .ok (.dastore, 1) := by decide +kernel
theorem d_M_table_77 : decode prog_10_method_30_code 77 = .ok (.aload_n 0, 1) := by decide +kernel
theorem d_M_table_78 : decode prog_10_method_30_code 78 = .ok (.getfield 76, 3) := by decide +kernel
theorem d_M_table_81 : decode prog_10_method_30_code 81 = .ok (.bipush 14, 2) := by decide +kernel
theorem d_M_table_83 : decode prog_10_method_30_code 83 = .ok (.iload_n 1, 1) := by decide +kernel
theorem d_M_table_84 : decode prog_10_method_30_code 84 = .ok (.imul, 1) := by decide +kernel
theorem d_M_table_85 : decode prog_10_method_30_code 85 = .ok (.iload_n 2, 1) := by decide +kernel
theorem d_M_table_86 : decode prog_10_method_30_code 86 = .ok (.iadd, 1) := by decide +kernel
theorem d_M_table_87 : decode prog_10_method_30_code 87 = .ok (.aload_n 0, 1) := by decide +kernel
theorem d_M_table_88 : decode prog_10_method_30_code 88 = .ok (.getfield 25, 3) := by decide +kernel
theorem d_M_table_91 : decode prog_10_method_30_code 91 = .ok (.bipush 8, 2) := by decide +kernel
theorem d_M_table_93 : decode prog_10_method_30_code 93 = .ok (.iload_n 1, 1) := by decide +kernel
theorem d_M_table_94 : decode prog_10_method_30_code 94 = .ok (.imul, 1) := by decide +kernel
theorem d_M_table_95 : decode prog_10_method_30_code 95 = .ok (.iload_n 2, 1) := by decide +kernel
theorem d_M_table_96 : decode prog_10_method_30_code 96 = .ok (.iadd, 1) := by decide +kernel
theorem d_M_table_97 : decode prog_10_method_30_code 97 = .ok (.daload, 1) := by decide +kernel
theorem d_M_table_98 : decode prog_10_method_30_code 98 = .ok (.dastore, 1) := by decide +kernel
theorem d_M_table_99 : decode prog_10_method_30_code 99 = .ok (.iinc 2 1, 3) := by decide +kernel
theorem d_M_table_102 : decode prog_10_method_30_code 102 = .ok (.goto (-68), 3) := by decide +kernel
theorem d_M_table_105 : decode prog_10_method_30_code 105 = .ok (.iconst 0, 1) := by decide +kernel
theorem d_M_table_106 : decode prog_10_method_30_code 106 = .ok (.istore_n 2, 1) := by decide +kernel
theorem d_M_table_107 : decode prog_10_method_30_code 107 = .ok (.iload_n 2, 1) := by decide +kernel
theorem d_M_table_108 : decode prog_10_method_30_code 108 = .ok (.aload_n 0, 1) := by decide +kernel
theorem d_M_table_109 : decode prog_10_method_30_code 109 = .ok (.getfield 99, 3) := by decide +kernel
theorem d_M_table_112 : decode prog_10_method_30_code 112 = .ok (.if_icmp .ge 35, 3) := by decide +kernel
theorem d_M_table_115 : decode prog_10_method_30_code 115 = .ok (.aload_n 0, 1) := by decide +kernel
theorem d_M_table_116 : decode prog_10_method_30_code 116 = .ok (.getfield 76, 3) := by decide +kernel
theorem d_M_table_119 : decode prog_10_method_30_code 119 = .ok (.bipush 14, 2) := by decide +kernel
theorem d_M_table_121 : decode prog_10_method_30_code 121 = .ok (.iload_n 1, 1) := by decide +kernel
theorem d_M_table_122 : decode prog_10_method_30_code 122 = .ok (.imul, 1) := by decide +kernel
theorem d_M_table_123 : decode prog_10_method_30_code 123 = .ok (.aload_n 0, 1) := by decide +kernel
theorem d_M_table_124 : decode prog_10_method_30_code 124 = .ok (.getfield 103, 3) := by decide +kernel
theorem d_M_table_127 : decode prog_10_method_30_code 127 = .ok (.iadd, 1) := by decide +kernel
theorem d_M_table_128 : decode prog_10_method_30_code 128 = .ok (.iload_n 2, 1) := by decide +kernel
theorem d_M_table_129 : decode prog_10_method_30_code 129 = .ok (.iadd, 1) := by decide +kernel
theorem d_M_table_130 : decode prog_10_method_30_code 130 = .ok (.iload_n 2, 1) := by decide +kernel
theorem d_M_table_131 : decode prog_10_method_30_code 131 = .ok (.iload_n 1, 1) := by decide +kernel
theorem d_M_table_132 : decode prog_10_method_30_code 132 = .ok (.if_icmp .ne 7, 3) := by decide +kernel
theorem d_M_table_135 : decode prog_10_method_30_code 135 = .ok (.dconst 1, 1) := by decide +kernel
theorem d_M_table_136 : decode prog_10_method_30_code 136 = .ok (.goto 4, 3) := by decide +kernel
theorem d_M_table_139 : decode prog_10_method_30_code 139 = .ok (.dconst 0, 1) := by decide +kernel
theorem d_M_table_140 : decode prog_10_method_30_code 140 = .ok (.dastore, 1) := by decide +kernel
theorem d_M_table_141 : decode prog_10_method_30_code 141 = .ok (.iinc 2 1, 3) := by decide +kernel
theorem d_M_table_144 : decode prog_10_method_30_code 144 = .ok (.goto (-37), 3) := by decide +kernel
theorem d_M_table_147 : decode prog_10_method_30_code 147 = .ok (.aload_n 0, 1) := by decide +kernel
theorem d_M_table_148 : decode prog_10_method_30_code 148 = .ok (.getfield 76, 3) := by decide +kernel
theorem d_M_table_151 : decode prog_10_method_30_code 151 = .ok (.bipush 14, 2) := by decide +kernel
theorem d_M_table_153 : decode prog_10_method_30_code 153 = .ok (.iload_n 1, 1) := by decide +kernel
theorem d_M_table_154 : decode prog_10_method_30_code 154 = .ok (.imul, 1) := by decide +kernel
theorem d_M_table_155 : decode prog_10_method_30_code 155 = .ok (.bipush 13, 2) := by decide +kernel
theorem d_M_table_157 : decode prog_10_method_30_code 157 = .ok (.iadd, 1) := by decide +kernel
theorem d_M_table_158 : decode prog_10_method_30_code 158 = .ok (.aload_n 0, 1) := by decide +kernel
theorem d_M_table_159 : decode prog_10_method_30_code 159 = .ok (.getfield 95, 3) := by decide +kernel
theorem d_M_table_162 : decode prog_10_method_30_code 162 = .ok (.iload_n 1, 1) := by decide +kernel
theorem d_M_table_163 : decode prog_10_method_30_code 163 = .ok (.baload, 1) := by decide +kernel
theorem d_M_table_164 : decode prog_10_method_30_code 164 = .ok (.ifCond .eq 16, 3) := by decide +kernel
theorem d_M_table_167 : decode prog_10_method_30_code 167 = .ok (.aload_n 0, 1) := by decide +kernel
theorem d_M_table_168 : decode prog_10_method_30_code 168 = .ok (.getfield 28, 3) := by decide +kernel
theorem d_M_table_171 : decode prog_10_method_30_code 171 = .ok (.iload_n 1, 1) := by decide +kernel
theorem d_M_table_172 : decode prog_10_method_30_code 172 = .ok (.daload, 1) := by decide +kernel
theorem d_M_table_173 : decode prog_10_method_30_code 173 = .ok (.ldc2_w 253, 3) := by decide +kernel
theorem d_M_table_176 : decode prog_10_method_30_code 176 = .ok (.dmul, 1) := by decide +kernel
theorem d_M_table_177 : decode prog_10_method_30_code 177 = .ok (.goto 9, 3) := by decide +kernel
theorem d_M_table_180 : decode prog_10_method_30_code 180 = .ok (.aload_n 0, 1) := by decide +kernel
theorem d_M_table_181 : decode prog_10_method_30_code 181 = .ok (.getfield 28, 3) := by decide +kernel
theorem d_M_table_184 : decode prog_10_method_30_code 184 = .ok (.iload_n 1, 1) := by decide +kernel
theorem d_M_table_185 : decode prog_10_method_30_code 185 = .ok (.daload, 1) := by decide +kernel
theorem d_M_table_186 : decode prog_10_method_30_code 186 = .ok (.dastore, 1) := by decide +kernel
theorem d_M_table_187 : decode prog_10_method_30_code 187 = .ok (.aload_n 0, 1) := by decide +kernel
theorem d_M_table_188 : decode prog_10_method_30_code 188 = .ok (.getfield 88, 3) := by decide +kernel
theorem d_M_table_191 : decode prog_10_method_30_code 191 = .ok (.iload_n 1, 1) := by decide +kernel
theorem d_M_table_192 : decode prog_10_method_30_code 192 = .ok (.aload_n 0, 1) := by decide +kernel
theorem d_M_table_193 : decode prog_10_method_30_code 193 = .ok (.getfield 103, 3) := by decide +kernel
theorem d_M_table_196 : decode prog_10_method_30_code 196 = .ok (.iload_n 1, 1) := by decide +kernel
theorem d_M_table_197 : decode prog_10_method_30_code 197 = .ok (.iadd, 1) := by decide +kernel
theorem d_M_table_198 : decode prog_10_method_30_code 198 = .ok (.iastore, 1) := by decide +kernel
theorem d_M_table_199 : decode prog_10_method_30_code 199 = .ok (.iinc 1 1, 3) := by decide +kernel
theorem d_M_table_202 : decode prog_10_method_30_code 202 = .ok (.goto (-200), 3) := by decide +kernel
theorem d_M_table_205 : decode prog_10_method_30_code 205 = .ok (.return_, 1) := by decide +kernel
abbrev w_M_table (T : Nat → ClassId) (q0 : Nat) (q0_a : Nat) (q0_b : Nat) (q0_c : Nat) (q0_rowScale : Nat) (q0_columnScale : Nat) (q0_sa : Nat) (q0_sb : Nat) (q0_sc : Nat) (q0_x : Nat) (q0_s : Nat) (q0_y : Nat) (q0_p : Nat) (q0_d : Nat) (q0_h : Nat) (q0_f : Nat) (q0_mm : Nat) (q0_low : Nat) (q0_dd : Nat) (q0_r : Nat) (q0_big : Nat) (q0_dt : Nat) (q0_dx : Nat) (q0_t : Nat) (q0_cost : Nat) (q0_rowScaleNow : Nat) (q0_columnScaleNow : Nat) (q0_basic : Nat) (q0_text : Nat) (q0_turned : Nat) (q0_na : Nat) (q0_nb : Nat) (q0_nc : Nat) (vq0_m : Int32) (vq0_n : Int32) (vq0_length : Int32) (vq0_where : Int32) (vq0_effort : Int32) (vq0_thrown : Int32) (vq0_at : Int32) (vq0_scaled : Int32) (vq0_solved : Int32) (vq0_second : Int32) (vq0_nm : Int32) (vq0_nn : Int32) (vq0_number : UInt64) (vq0_bad : Int32) (vq0_sa : Nat → UInt64) (vq0_sb : Nat → UInt64) (vq0_t : Nat → UInt64) (vq0_basic : Nat → Int32) (vq0_turned : Nat → Int32) : va_W := [(q0, .inr (8, [.ref q0_a, .ref q0_b, .ref q0_c, .ref q0_rowScale, .ref q0_columnScale, .ref q0_sa, .ref q0_sb, .ref q0_sc, .ref q0_x, .ref q0_s, .ref q0_y, .ref q0_p, .ref q0_d, .ref q0_h, .ref q0_f, .ref q0_mm, .ref q0_low, .ref q0_dd, .ref q0_r, .ref q0_big, .ref q0_dt, .ref q0_dx, .ref q0_t, .ref q0_cost, .ref q0_rowScaleNow, .ref q0_columnScaleNow, .ref q0_basic, .ref q0_text, .ref q0_turned, .int vq0_m, .int vq0_n, .int vq0_length, .int vq0_where, .int vq0_effort, .int vq0_thrown, .int vq0_at, .int vq0_scaled, .int vq0_solved, .int vq0_second, .ref q0_na, .ref q0_nb, .ref q0_nc, .int vq0_nm, .int vq0_nn, .double vq0_number, .int vq0_bad])), (q0_sa, .inl (T 0, 40, .inr (.inr (.inr (.inl vq0_sa))))), (q0_sb, .inl (T 0, 5, .inr (.inr (.inr (.inl vq0_sb))))), (q0_t, .inl (T 0, 70, .inr (.inr (.inr (.inl vq0_t))))), (q0_basic, .inl (T 1, 5, .inl vq0_basic)), (q0_turned, .inl (T 5, 5, .inl vq0_turned))]
def s_M_table_J186 (vq0_m : Int32) (vq0_n : Int32) (vq0_length : Int32) (vq0_where : Int32) (vq0_effort : Int32) (vq0_thrown : Int32) (vq0_at : Int32) (vq0_scaled : Int32) (vq0_solved : Int32) (vq0_second : Int32) (vq0_nm : Int32) (vq0_nn : Int32) (vq0_number : UInt64) (vq0_bad : Int32) (vq0_sa : Nat → UInt64) (vq0_sb : Nat → UInt64) (vq0_t : Nat → UInt64) (vq0_basic : Nat → Int32) (vq0_turned : Nat → Int32) (x1 : Int32) (y1 : Int32) (y2 : UInt64) : Option (((Nat → UInt64) × (Nat → UInt64) × (Nat → Int32) × (Nat → Int32) × Int32) ⊕ ((Nat → UInt64) × (Nat → UInt64) × (Nat → Int32) × (Nat → Int32))) :=
  gd (inb y1 70) <| gd (inb x1 5) <| some (.inl (vq0_sa, vf_upd vq0_t y1.toNatClampNeg y2, upd vq0_basic x1.toNatClampNeg (vq0_n + x1), vq0_turned, x1 + 1))
def s_M_table_J140 (vq0_m : Int32) (vq0_n : Int32) (vq0_length : Int32) (vq0_where : Int32) (vq0_effort : Int32) (vq0_thrown : Int32) (vq0_at : Int32) (vq0_scaled : Int32) (vq0_solved : Int32) (vq0_second : Int32) (vq0_nm : Int32) (vq0_nn : Int32) (vq0_number : UInt64) (vq0_bad : Int32) (vq0_sa : Nat → UInt64) (vq0_sb : Nat → UInt64) (vq0_t : Nat → UInt64) (vq0_basic : Nat → Int32) (vq0_turned : Nat → Int32) (x1 : Int32) (x2 : Int32) (y1 : Int32) (y2 : UInt64) : Option (((Nat → UInt64) × Int32) ⊕ ((Nat → UInt64))) :=
  gd (inb y1 70) <| some (.inl (vf_upd vq0_t y1.toNatClampNeg y2, x2 + 1))
def s_M_table_B107 (vq0_m : Int32) (vq0_n : Int32) (vq0_length : Int32) (vq0_where : Int32) (vq0_effort : Int32) (vq0_thrown : Int32) (vq0_at : Int32) (vq0_scaled : Int32) (vq0_solved : Int32) (vq0_second : Int32) (vq0_nm : Int32) (vq0_nn : Int32) (vq0_number : UInt64) (vq0_bad : Int32) (vq0_sa : Nat → UInt64) (vq0_sb : Nat → UInt64) (vq0_basic : Nat → Int32) (vq0_turned : Nat → Int32) (x1 : Int32) (vq0_t : Nat → UInt64) (x2 : Int32) : Option (((Nat → UInt64) × Int32) ⊕ ((Nat → UInt64))) :=
  if vq0_m ≤ x2 then (some (.inr vq0_t)) else (if x2 = x1 then (s_M_table_J140 vq0_m vq0_n vq0_length vq0_where vq0_effort vq0_thrown vq0_at vq0_scaled vq0_solved vq0_second vq0_nm vq0_nn vq0_number vq0_bad vq0_sa vq0_sb vq0_t vq0_basic vq0_turned x1 x2 (((14 * x1) + vq0_n) + x2) FP.dconst1) else (s_M_table_J140 vq0_m vq0_n vq0_length vq0_where vq0_effort vq0_thrown vq0_at vq0_scaled vq0_solved vq0_second vq0_nm vq0_nn vq0_number vq0_bad vq0_sa vq0_sb vq0_t vq0_basic vq0_turned x1 x2 (((14 * x1) + vq0_n) + x2) FP.dconst0))
def s_M_table_L107 (vq0_m : Int32) (vq0_n : Int32) (vq0_length : Int32) (vq0_where : Int32) (vq0_effort : Int32) (vq0_thrown : Int32) (vq0_at : Int32) (vq0_scaled : Int32) (vq0_solved : Int32) (vq0_second : Int32) (vq0_nm : Int32) (vq0_nn : Int32) (vq0_number : UInt64) (vq0_bad : Int32) (vq0_sa : Nat → UInt64) (vq0_sb : Nat → UInt64) (vq0_t : Nat → UInt64) (vq0_basic : Nat → Int32) (vq0_turned : Nat → Int32) (x1 : Int32) (x2 : Int32) : Option (((Nat → UInt64) × (Nat → UInt64) × (Nat → Int32) × (Nat → Int32) × Int32) ⊕ ((Nat → UInt64) × (Nat → UInt64) × (Nat → Int32) × (Nat → Int32))) :=
  (loopO (fun (st : (Nat → UInt64) × Int32) => s_M_table_B107 vq0_m vq0_n vq0_length vq0_where vq0_effort vq0_thrown vq0_at vq0_scaled vq0_solved vq0_second vq0_nm vq0_nn vq0_number vq0_bad vq0_sa vq0_sb vq0_basic vq0_turned x1 st.1 st.2) 2000 (vq0_t, x2)).bind fun ul107 => gd (inb x1 5) <| if (vq0_turned x1.toNatClampNeg) = 0 then (gd (inb x1 5) <| s_M_table_J186 vq0_m vq0_n vq0_length vq0_where vq0_effort vq0_thrown vq0_at vq0_scaled vq0_solved vq0_second vq0_nm vq0_nn vq0_number vq0_bad vq0_sa vq0_sb ul107 vq0_basic vq0_turned x1 ((14 * x1) + 13) (vq0_sb x1.toNatClampNeg)) else (gd (inb x1 5) <| gd (isn (FP.dmul (vq0_sb x1.toNatClampNeg) 13830554455654793216)) <| s_M_table_J186 vq0_m vq0_n vq0_length vq0_where vq0_effort vq0_thrown vq0_at vq0_scaled vq0_solved vq0_second vq0_nm vq0_nn vq0_number vq0_bad vq0_sa vq0_sb ul107 vq0_basic vq0_turned x1 ((14 * x1) + 13) (FP.dmul (vq0_sb x1.toNatClampNeg) 13830554455654793216))
def s_M_table_J77 (vq0_m : Int32) (vq0_n : Int32) (vq0_length : Int32) (vq0_where : Int32) (vq0_effort : Int32) (vq0_thrown : Int32) (vq0_at : Int32) (vq0_scaled : Int32) (vq0_solved : Int32) (vq0_second : Int32) (vq0_nm : Int32) (vq0_nn : Int32) (vq0_number : UInt64) (vq0_bad : Int32) (vq0_sa : Nat → UInt64) (vq0_sb : Nat → UInt64) (vq0_t : Nat → UInt64) (vq0_basic : Nat → Int32) (vq0_turned : Nat → Int32) (x1 : Int32) (x2 : Int32) : Option (((Nat → UInt64) × (Nat → UInt64) × Int32) ⊕ ((Nat → UInt64) × (Nat → UInt64))) :=
  gd (inb ((8 * x1) + x2) 40) <| gd (inb ((14 * x1) + x2) 70) <| some (.inl (vq0_sa, vf_upd vq0_t ((14 * x1) + x2).toNatClampNeg (vq0_sa ((8 * x1) + x2).toNatClampNeg), x2 + 1))
def s_M_table_B34 (vq0_m : Int32) (vq0_n : Int32) (vq0_length : Int32) (vq0_where : Int32) (vq0_effort : Int32) (vq0_thrown : Int32) (vq0_at : Int32) (vq0_scaled : Int32) (vq0_solved : Int32) (vq0_second : Int32) (vq0_nm : Int32) (vq0_nn : Int32) (vq0_number : UInt64) (vq0_bad : Int32) (vq0_sb : Nat → UInt64) (vq0_basic : Nat → Int32) (vq0_turned : Nat → Int32) (x1 : Int32) (vq0_sa : Nat → UInt64) (vq0_t : Nat → UInt64) (x2 : Int32) : Option (((Nat → UInt64) × (Nat → UInt64) × Int32) ⊕ ((Nat → UInt64) × (Nat → UInt64))) :=
  if vq0_n ≤ x2 then (some (.inr (vq0_sa, vq0_t))) else (gd (inb x1 5) <| if (vq0_turned x1.toNatClampNeg) = 0 then (s_M_table_J77 vq0_m vq0_n vq0_length vq0_where vq0_effort vq0_thrown vq0_at vq0_scaled vq0_solved vq0_second vq0_nm vq0_nn vq0_number vq0_bad vq0_sa vq0_sb vq0_t vq0_basic vq0_turned x1 x2) else (gd (inb ((8 * x1) + x2) 40) <| gd (isn (FP.dmul (vq0_sa ((8 * x1) + x2).toNatClampNeg) 13830554455654793216)) <| gd (inb ((8 * x1) + x2) 40) <| s_M_table_J77 vq0_m vq0_n vq0_length vq0_where vq0_effort vq0_thrown vq0_at vq0_scaled vq0_solved vq0_second vq0_nm vq0_nn vq0_number vq0_bad (vf_upd vq0_sa ((8 * x1) + x2).toNatClampNeg (FP.dmul (vq0_sa ((8 * x1) + x2).toNatClampNeg) 13830554455654793216)) vq0_sb vq0_t vq0_basic vq0_turned x1 x2))
def s_M_table_L34 (vq0_m : Int32) (vq0_n : Int32) (vq0_length : Int32) (vq0_where : Int32) (vq0_effort : Int32) (vq0_thrown : Int32) (vq0_at : Int32) (vq0_scaled : Int32) (vq0_solved : Int32) (vq0_second : Int32) (vq0_nm : Int32) (vq0_nn : Int32) (vq0_number : UInt64) (vq0_bad : Int32) (vq0_sa : Nat → UInt64) (vq0_sb : Nat → UInt64) (vq0_t : Nat → UInt64) (vq0_basic : Nat → Int32) (vq0_turned : Nat → Int32) (x1 : Int32) (x2 : Int32) : Option (((Nat → UInt64) × (Nat → UInt64) × (Nat → Int32) × (Nat → Int32) × Int32) ⊕ ((Nat → UInt64) × (Nat → UInt64) × (Nat → Int32) × (Nat → Int32))) :=
  (loopO (fun (st : (Nat → UInt64) × (Nat → UInt64) × Int32) => s_M_table_B34 vq0_m vq0_n vq0_length vq0_where vq0_effort vq0_thrown vq0_at vq0_scaled vq0_solved vq0_second vq0_nm vq0_nn vq0_number vq0_bad vq0_sb vq0_basic vq0_turned x1 st.1 st.2.1 st.2.2) 2000 (vq0_sa, vq0_t, x2)).bind fun ul34 => s_M_table_L107 vq0_m vq0_n vq0_length vq0_where vq0_effort vq0_thrown vq0_at vq0_scaled vq0_solved vq0_second vq0_nm vq0_nn vq0_number vq0_bad ul34.1 vq0_sb ul34.2 vq0_basic vq0_turned x1 0
def s_M_table_J31 (vq0_m : Int32) (vq0_n : Int32) (vq0_length : Int32) (vq0_where : Int32) (vq0_effort : Int32) (vq0_thrown : Int32) (vq0_at : Int32) (vq0_scaled : Int32) (vq0_solved : Int32) (vq0_second : Int32) (vq0_nm : Int32) (vq0_nn : Int32) (vq0_number : UInt64) (vq0_bad : Int32) (vq0_sa : Nat → UInt64) (vq0_sb : Nat → UInt64) (vq0_t : Nat → UInt64) (vq0_basic : Nat → Int32) (vq0_turned : Nat → Int32) (x1 : Int32) (y1 : Int32) (y2 : Int32) : Option (((Nat → UInt64) × (Nat → UInt64) × (Nat → Int32) × (Nat → Int32) × Int32) ⊕ ((Nat → UInt64) × (Nat → UInt64) × (Nat → Int32) × (Nat → Int32))) :=
  gd (inb y1 5) <| s_M_table_L34 vq0_m vq0_n vq0_length vq0_where vq0_effort vq0_thrown vq0_at vq0_scaled vq0_solved vq0_second vq0_nm vq0_nn vq0_number vq0_bad vq0_sa vq0_sb vq0_t vq0_basic (upd vq0_turned y1.toNatClampNeg (vp_nar .boolean y2)) x1 0
def s_M_table_B2 (vq0_m : Int32) (vq0_n : Int32) (vq0_length : Int32) (vq0_where : Int32) (vq0_effort : Int32) (vq0_thrown : Int32) (vq0_at : Int32) (vq0_scaled : Int32) (vq0_solved : Int32) (vq0_second : Int32) (vq0_nm : Int32) (vq0_nn : Int32) (vq0_number : UInt64) (vq0_bad : Int32) (vq0_sb : Nat → UInt64) (vq0_sa : Nat → UInt64) (vq0_t : Nat → UInt64) (vq0_basic : Nat → Int32) (vq0_turned : Nat → Int32) (x1 : Int32) : Option (((Nat → UInt64) × (Nat → UInt64) × (Nat → Int32) × (Nat → Int32) × Int32) ⊕ ((Nat → UInt64) × (Nat → UInt64) × (Nat → Int32) × (Nat → Int32))) :=
  if vq0_m ≤ x1 then (some (.inr (vq0_sa, vq0_t, vq0_basic, vq0_turned))) else (gd (inb x1 5) <| if 0 ≤ (Op.cmpValue (FP.dcmp (vq0_sb x1.toNatClampNeg) FP.dconst0) .g) then (s_M_table_J31 vq0_m vq0_n vq0_length vq0_where vq0_effort vq0_thrown vq0_at vq0_scaled vq0_solved vq0_second vq0_nm vq0_nn vq0_number vq0_bad vq0_sa vq0_sb vq0_t vq0_basic vq0_turned x1 x1 0) else (s_M_table_J31 vq0_m vq0_n vq0_length vq0_where vq0_effort vq0_thrown vq0_at vq0_scaled vq0_solved vq0_second vq0_nm vq0_nn vq0_number vq0_bad vq0_sa vq0_sb vq0_t vq0_basic vq0_turned x1 x1 1))
def s_M_table_L2 (vq0_m : Int32) (vq0_n : Int32) (vq0_length : Int32) (vq0_where : Int32) (vq0_effort : Int32) (vq0_thrown : Int32) (vq0_at : Int32) (vq0_scaled : Int32) (vq0_solved : Int32) (vq0_second : Int32) (vq0_nm : Int32) (vq0_nn : Int32) (vq0_number : UInt64) (vq0_bad : Int32) (vq0_sa : Nat → UInt64) (vq0_sb : Nat → UInt64) (vq0_t : Nat → UInt64) (vq0_basic : Nat → Int32) (vq0_turned : Nat → Int32) (x1 : Int32) : Option ((Nat → UInt64) × (Nat → UInt64) × (Nat → Int32) × (Nat → Int32)) :=
  (loopO (fun (st : (Nat → UInt64) × (Nat → UInt64) × (Nat → Int32) × (Nat → Int32) × Int32) => s_M_table_B2 vq0_m vq0_n vq0_length vq0_where vq0_effort vq0_thrown vq0_at vq0_scaled vq0_solved vq0_second vq0_nm vq0_nn vq0_number vq0_bad vq0_sb st.1 st.2.1 st.2.2.1 st.2.2.2.1 st.2.2.2.2) 2000 (vq0_sa, vq0_t, vq0_basic, vq0_turned, x1)).bind fun ul2 => some (ul2.1, ul2.2.1, ul2.2.2.1, ul2.2.2.2)
def s_M_table (vq0_m : Int32) (vq0_n : Int32) (vq0_length : Int32) (vq0_where : Int32) (vq0_effort : Int32) (vq0_thrown : Int32) (vq0_at : Int32) (vq0_scaled : Int32) (vq0_solved : Int32) (vq0_second : Int32) (vq0_nm : Int32) (vq0_nn : Int32) (vq0_number : UInt64) (vq0_bad : Int32) (vq0_sa : Nat → UInt64) (vq0_sb : Nat → UInt64) (vq0_t : Nat → UInt64) (vq0_basic : Nat → Int32) (vq0_turned : Nat → Int32) : Option ((Nat → UInt64) × (Nat → UInt64) × (Nat → Int32) × (Nat → Int32)) :=
  s_M_table_L2 vq0_m vq0_n vq0_length vq0_where vq0_effort vq0_thrown vq0_at vq0_scaled vq0_solved vq0_second vq0_nm vq0_nn vq0_number vq0_bad vq0_sa vq0_sb vq0_t vq0_basic vq0_turned 0
set_option maxHeartbeats 40000000 in
set_option maxRecDepth 100000 in
theorem c_M_table (l : Launch) (D : va_G) (T : Nat → ClassId) (q0 : Nat) (q0_a : Nat) (q0_b : Nat) (q0_c : Nat) (q0_rowScale : Nat) (q0_columnScale : Nat) (q0_sa : Nat) (q0_sb : Nat) (q0_sc : Nat) (q0_x : Nat) (q0_s : Nat) (q0_y : Nat) (q0_p : Nat) (q0_d : Nat) (q0_h : Nat) (q0_f : Nat) (q0_mm : Nat) (q0_low : Nat) (q0_dd : Nat) (q0_r : Nat) (q0_big : Nat) (q0_dt : Nat) (q0_dx : Nat) (q0_t : Nat) (q0_cost : Nat) (q0_rowScaleNow : Nat) (q0_columnScaleNow : Nat) (q0_basic : Nat) (q0_text : Nat) (q0_turned : Nat) (q0_na : Nat) (q0_nb : Nat) (q0_nc : Nat) (vq0_m : Int32) (vq0_n : Int32) (vq0_length : Int32) (vq0_where : Int32) (vq0_effort : Int32) (vq0_thrown : Int32) (vq0_at : Int32) (vq0_scaled : Int32) (vq0_solved : Int32) (vq0_second : Int32) (vq0_nm : Int32) (vq0_nn : Int32) (vq0_number : UInt64) (vq0_bad : Int32) (vq0_sa : Nat → UInt64) (vq0_sb : Nat → UInt64) (vq0_t : Nat → UInt64) (vq0_basic : Nat → Int32) (vq0_turned : Nat → Int32) (rm : (Nat → UInt64) × (Nat → UInt64) × (Nat → Int32) × (Nat → Int32)) (h : s_M_table vq0_m vq0_n vq0_length vq0_where vq0_effort vq0_thrown vq0_at vq0_scaled vq0_solved vq0_second vq0_nm vq0_nn vq0_number vq0_bad vq0_sa vq0_sb vq0_t vq0_basic vq0_turned = some rm) : CtV l y_M_table (Cond.code y_M_table prog_10_method_30_code 3 none :: BIG) 0 0 D T [.ref q0] (w_M_table T q0 q0_a q0_b q0_c q0_rowScale q0_columnScale q0_sa q0_sb q0_sc q0_x q0_s q0_y q0_p q0_d q0_h q0_f q0_mm q0_low q0_dd q0_r q0_big q0_dt q0_dx q0_t q0_cost q0_rowScaleNow q0_columnScaleNow q0_basic q0_text q0_turned q0_na q0_nb q0_nc vq0_m vq0_n vq0_length vq0_where vq0_effort vq0_thrown vq0_at vq0_scaled vq0_solved vq0_second vq0_nm vq0_nn vq0_number vq0_bad vq0_sa vq0_sb vq0_t vq0_basic vq0_turned) (fun r => (w_M_table T q0 q0_a q0_b q0_c q0_rowScale q0_columnScale q0_sa q0_sb q0_sc q0_x q0_s q0_y q0_p q0_d q0_h q0_f q0_mm q0_low q0_dd q0_r q0_big q0_dt q0_dx q0_t q0_cost q0_rowScaleNow q0_columnScaleNow q0_basic q0_text q0_turned q0_na q0_nb q0_nc vq0_m vq0_n vq0_length vq0_where vq0_effort vq0_thrown vq0_at vq0_scaled vq0_solved vq0_second vq0_nm vq0_nn vq0_number vq0_bad r.1 vq0_sb r.2.1 r.2.2.1 r.2.2.2)) rm := by
  refine cf_entry (y := y_M_table) (cc := prog_10_method_30_code) (nL := 3) (ret := none) (fr := 0) (lo := 0) (T := T) (av := [.ref q0]) (w := (w_M_table T q0 q0_a q0_b q0_c q0_rowScale q0_columnScale q0_sa q0_sb q0_sc q0_x q0_s q0_y q0_p q0_d q0_h q0_f q0_mm q0_low q0_dd q0_r q0_big q0_dt q0_dx q0_t q0_cost q0_rowScaleNow q0_columnScaleNow q0_basic q0_text q0_turned q0_na q0_nb q0_nc vq0_m vq0_n vq0_length vq0_where vq0_effort vq0_thrown vq0_at vq0_scaled vq0_solved vq0_second vq0_nm vq0_nn vq0_number vq0_bad vq0_sa vq0_sb vq0_t vq0_basic vq0_turned)) (Qc := cfQv D (fun r => (w_M_table T q0 q0_a q0_b q0_c q0_rowScale q0_columnScale q0_sa q0_sb q0_sc q0_x q0_s q0_y q0_p q0_d q0_h q0_f q0_mm q0_low q0_dd q0_r q0_big q0_dt q0_dx q0_t q0_cost q0_rowScaleNow q0_columnScaleNow q0_basic q0_text q0_turned q0_na q0_nb q0_nc vq0_m vq0_n vq0_length vq0_where vq0_effort vq0_thrown vq0_at vq0_scaled vq0_solved vq0_second vq0_nm vq0_nn vq0_number vq0_bad r.1 vq0_sb r.2.1 r.2.2.1 r.2.2.2)) rm) (by decide) rfl (Nat.le_of_ble_eq_true rfl) ?_
  intro p e s m args below meth c A Q H locs ls hx hb hr hlocks hml hown hts hNW hK hA hQ hP hD hS hl
  have hown : s.vm.findClass "ConeForgeModel" = some m.cls := hown
  have hl : lv_has ls 3 [(0, .ref q0)] := hl
  have L2 : ∀ (vq0_sa : Nat → UInt64) (vq0_t : Nat → UInt64) (vq0_basic : Nat → Int32) (vq0_turned : Nat → Int32) (x1 : Int32), ∀ (H : Heap) (locs : List Loc) (ls : Array Slot), va_P D CL (w_M_table T q0 q0_a q0_b q0_c q0_rowScale q0_columnScale q0_sa q0_sb q0_sc q0_x q0_s q0_y q0_p q0_d q0_h q0_f q0_mm q0_low q0_dd q0_r q0_big q0_dt q0_dx q0_t q0_cost q0_rowScaleNow q0_columnScaleNow q0_basic q0_text q0_turned q0_na q0_nb q0_nc vq0_m vq0_n vq0_length vq0_where vq0_effort vq0_thrown vq0_at vq0_scaled vq0_solved vq0_second vq0_nm vq0_nn vq0_number vq0_bad vq0_sa vq0_sb vq0_t vq0_basic vq0_turned) H → va_D A (w_M_table T q0 q0_a q0_b q0_c q0_rowScale q0_columnScale q0_sa q0_sb q0_sc q0_x q0_s q0_y q0_p q0_d q0_h q0_f q0_mm q0_low q0_dd q0_r q0_big q0_dt q0_dx q0_t q0_cost q0_rowScaleNow q0_columnScaleNow q0_basic q0_text q0_turned q0_na q0_nb q0_nc vq0_m vq0_n vq0_length vq0_where vq0_effort vq0_thrown vq0_at vq0_scaled vq0_solved vq0_second vq0_nm vq0_nn vq0_number vq0_bad vq0_sa vq0_sb vq0_t vq0_basic vq0_turned) → va_S A s.heap H locs → lv_has ls 3 [(0, .ref q0), (1, .int x1)] → s_M_table_L2 vq0_m vq0_n vq0_length vq0_where vq0_effort vq0_thrown vq0_at vq0_scaled vq0_solved vq0_second vq0_nm vq0_nn vq0_number vq0_bad vq0_sa vq0_sb vq0_t vq0_basic vq0_turned x1 = some rm → W p l e (rmk 0 0) s m args below meth c H locs 0 0 Q (F0 m 2 ls []) := by
    intro vq0_sa vq0_t vq0_basic vq0_turned x1 H locs ls hP hD hS hl h
    unfold s_M_table_L2 at h
    obtain ⟨ul2, hul2, h⟩ := bi_some h
    refine loopO_W (Wh := fun (st : (Nat → UInt64) × (Nat → UInt64) × (Nat → Int32) × (Nat → Int32) × Int32) => ∀ (H : Heap) (locs : List Loc) (ls : Array Slot), va_P D CL (w_M_table T q0 q0_a q0_b q0_c q0_rowScale q0_columnScale q0_sa q0_sb q0_sc q0_x q0_s q0_y q0_p q0_d q0_h q0_f q0_mm q0_low q0_dd q0_r q0_big q0_dt q0_dx q0_t q0_cost q0_rowScaleNow q0_columnScaleNow q0_basic q0_text q0_turned q0_na q0_nb q0_nc vq0_m vq0_n vq0_length vq0_where vq0_effort vq0_thrown vq0_at vq0_scaled vq0_solved vq0_second vq0_nm vq0_nn vq0_number vq0_bad st.1 vq0_sb st.2.1 st.2.2.1 st.2.2.2.1) H → va_D A (w_M_table T q0 q0_a q0_b q0_c q0_rowScale q0_columnScale q0_sa q0_sb q0_sc q0_x q0_s q0_y q0_p q0_d q0_h q0_f q0_mm q0_low q0_dd q0_r q0_big q0_dt q0_dx q0_t q0_cost q0_rowScaleNow q0_columnScaleNow q0_basic q0_text q0_turned q0_na q0_nb q0_nc vq0_m vq0_n vq0_length vq0_where vq0_effort vq0_thrown vq0_at vq0_scaled vq0_solved vq0_second vq0_nm vq0_nn vq0_number vq0_bad st.1 vq0_sb st.2.1 st.2.2.1 st.2.2.2.1) → va_S A s.heap H locs → lv_has ls 3 [(0, .ref q0), (1, .int st.2.2.2.2)] → W p l e (rmk 0 0) s m args below meth c H locs 0 0 Q (F0 m 2 ls [])) (Wx := fun (e1 : (Nat → UInt64) × (Nat → UInt64) × (Nat → Int32) × (Nat → Int32)) => ∀ (H : Heap) (locs : List Loc) (ls : Array Slot), va_P D CL (w_M_table T q0 q0_a q0_b q0_c q0_rowScale q0_columnScale q0_sa q0_sb q0_sc q0_x q0_s q0_y q0_p q0_d q0_h q0_f q0_mm q0_low q0_dd q0_r q0_big q0_dt q0_dx q0_t q0_cost q0_rowScaleNow q0_columnScaleNow q0_basic q0_text q0_turned q0_na q0_nb q0_nc vq0_m vq0_n vq0_length vq0_where vq0_effort vq0_thrown vq0_at vq0_scaled vq0_solved vq0_second vq0_nm vq0_nn vq0_number vq0_bad e1.1 vq0_sb e1.2.1 e1.2.2.1 e1.2.2.2) H → va_D A (w_M_table T q0 q0_a q0_b q0_c q0_rowScale q0_columnScale q0_sa q0_sb q0_sc q0_x q0_s q0_y q0_p q0_d q0_h q0_f q0_mm q0_low q0_dd q0_r q0_big q0_dt q0_dx q0_t q0_cost q0_rowScaleNow q0_columnScaleNow q0_basic q0_text q0_turned q0_na q0_nb q0_nc vq0_m vq0_n vq0_length vq0_where vq0_effort vq0_thrown vq0_at vq0_scaled vq0_solved vq0_second vq0_nm vq0_nn vq0_number vq0_bad e1.1 vq0_sb e1.2.1 e1.2.2.1 e1.2.2.2) → va_S A s.heap H locs → lv_has ls 3 [] → W p l e (rmk 0 0) s m args below meth c H locs 0 0 Q (F0 m 205 ls [])) ?_ 2000 _ ul2 hul2 ?_ H locs ls hP hD hS hl
    · intro st rb2 h kc2 kx2 H locs ls hP hD hS hl
      obtain ⟨vq0_sa, vq0_t, vq0_basic, vq0_turned, x1⟩ := st
      have h : s_M_table_B2 vq0_m vq0_n vq0_length vq0_where vq0_effort vq0_thrown vq0_at vq0_scaled vq0_solved vq0_second vq0_nm vq0_nn vq0_number vq0_bad vq0_sb vq0_sa vq0_t vq0_basic vq0_turned x1 = some rb2 := h
      have J186 : ∀ (vq0_sa : Nat → UInt64) (vq0_t : Nat → UInt64) (vq0_basic : Nat → Int32) (vq0_turned : Nat → Int32) (x1 : Int32) (y1 : Int32) (y2 : UInt64), ∀ (H : Heap) (locs : List Loc) (ls : Array Slot), va_P D CL (w_M_table T q0 q0_a q0_b q0_c q0_rowScale q0_columnScale q0_sa q0_sb q0_sc q0_x q0_s q0_y q0_p q0_d q0_h q0_f q0_mm q0_low q0_dd q0_r q0_big q0_dt q0_dx q0_t q0_cost q0_rowScaleNow q0_columnScaleNow q0_basic q0_text q0_turned q0_na q0_nb q0_nc vq0_m vq0_n vq0_length vq0_where vq0_effort vq0_thrown vq0_at vq0_scaled vq0_solved vq0_second vq0_nm vq0_nn vq0_number vq0_bad vq0_sa vq0_sb vq0_t vq0_basic vq0_turned) H → va_D A (w_M_table T q0 q0_a q0_b q0_c q0_rowScale q0_columnScale q0_sa q0_sb q0_sc q0_x q0_s q0_y q0_p q0_d q0_h q0_f q0_mm q0_low q0_dd q0_r q0_big q0_dt q0_dx q0_t q0_cost q0_rowScaleNow q0_columnScaleNow q0_basic q0_text q0_turned q0_na q0_nb q0_nc vq0_m vq0_n vq0_length vq0_where vq0_effort vq0_thrown vq0_at vq0_scaled vq0_solved vq0_second vq0_nm vq0_nn vq0_number vq0_bad vq0_sa vq0_sb vq0_t vq0_basic vq0_turned) → va_S A s.heap H locs → lv_has ls 3 [(0, .ref q0), (1, .int x1)] → s_M_table_J186 vq0_m vq0_n vq0_length vq0_where vq0_effort vq0_thrown vq0_at vq0_scaled vq0_solved vq0_second vq0_nm vq0_nn vq0_number vq0_bad vq0_sa vq0_sb vq0_t vq0_basic vq0_turned x1 y1 y2 = some rb2 → W p l e (rmk 0 0) s m args below meth c H locs 0 0 Q (F0 m 186 ls [.double y2, .int y1, .ref q0_t]) := by
        intro vq0_sa vq0_t vq0_basic vq0_turned x1 y1 y2 H locs ls hP hD hS hl h
        unfold s_M_table_J186 at h
        obtain ⟨g1, h⟩ := gd_some h
        refine va_dast hx hb hK hP hD hS 3 0 rfl rfl (inb_in g1) d_M_table_186 (fun H locs hP hD hS => ?_)
        have hP : va_P D CL (w_M_table T q0 q0_a q0_b q0_c q0_rowScale q0_columnScale q0_sa q0_sb q0_sc q0_x q0_s q0_y q0_p q0_d q0_h q0_f q0_mm q0_low q0_dd q0_r q0_big q0_dt q0_dx q0_t q0_cost q0_rowScaleNow q0_columnScaleNow q0_basic q0_text q0_turned q0_na q0_nb q0_nc vq0_m vq0_n vq0_length vq0_where vq0_effort vq0_thrown vq0_at vq0_scaled vq0_solved vq0_second vq0_nm vq0_nn vq0_number vq0_bad vq0_sa vq0_sb (vf_upd vq0_t y1.toNatClampNeg y2) vq0_basic vq0_turned) H := hP
        have hD : va_D A (w_M_table T q0 q0_a q0_b q0_c q0_rowScale q0_columnScale q0_sa q0_sb q0_sc q0_x q0_s q0_y q0_p q0_d q0_h q0_f q0_mm q0_low q0_dd q0_r q0_big q0_dt q0_dx q0_t q0_cost q0_rowScaleNow q0_columnScaleNow q0_basic q0_text q0_turned q0_na q0_nb q0_nc vq0_m vq0_n vq0_length vq0_where vq0_effort vq0_thrown vq0_at vq0_scaled vq0_solved vq0_second vq0_nm vq0_nn vq0_number vq0_bad vq0_sa vq0_sb (vf_upd vq0_t y1.toNatClampNeg y2) vq0_basic vq0_turned) := hD
        refine lv_aload_n hx hb d_M_table_187 rfl (lv_at hl 0 rfl) ?_
        refine va_get (D := D) (ci := 8) (v := .ref q0_basic) (C := "ConeForgeModel") (T := FM) (N := 46) hx hb hts iM hown hK hP 0 rfl rfl 26 (by decide) (hts _ (bgc bw710)) (fun _ h9 => h9) rfl d_M_table_188 ?_
        refine lv_iload_n hx hb d_M_table_191 rfl (lv_at hl 1 rfl) ?_
        refine lv_aload_n hx hb d_M_table_192 rfl (lv_at hl 0 rfl) ?_
        refine va_get (D := D) (ci := 8) (v := .int vq0_n) (C := "ConeForgeModel") (T := FM) (N := 46) hx hb hts iM hown hK hP 0 rfl rfl 30 (by decide) (hts _ (bgc bw714)) (fun _ h9 => h9) rfl d_M_table_193 ?_
        refine lv_iload_n hx hb d_M_table_196 rfl (lv_at hl 1 rfl) ?_
        refine lv_iadd hx hb d_M_table_197 ?_
        obtain ⟨g2, h⟩ := gd_some h
        refine va_iast hx hb hK hP hD hS 4 1 rfl rfl (inb_in g2) d_M_table_198 (fun H locs hP hD hS => ?_)
        have hP : va_P D CL (w_M_table T q0 q0_a q0_b q0_c q0_rowScale q0_columnScale q0_sa q0_sb q0_sc q0_x q0_s q0_y q0_p q0_d q0_h q0_f q0_mm q0_low q0_dd q0_r q0_big q0_dt q0_dx q0_t q0_cost q0_rowScaleNow q0_columnScaleNow q0_basic q0_text q0_turned q0_na q0_nb q0_nc vq0_m vq0_n vq0_length vq0_where vq0_effort vq0_thrown vq0_at vq0_scaled vq0_solved vq0_second vq0_nm vq0_nn vq0_number vq0_bad vq0_sa vq0_sb (vf_upd vq0_t y1.toNatClampNeg y2) (upd vq0_basic x1.toNatClampNeg (vq0_n + x1)) vq0_turned) H := hP
        have hD : va_D A (w_M_table T q0 q0_a q0_b q0_c q0_rowScale q0_columnScale q0_sa q0_sb q0_sc q0_x q0_s q0_y q0_p q0_d q0_h q0_f q0_mm q0_low q0_dd q0_r q0_big q0_dt q0_dx q0_t q0_cost q0_rowScaleNow q0_columnScaleNow q0_basic q0_text q0_turned q0_na q0_nb q0_nc vq0_m vq0_n vq0_length vq0_where vq0_effort vq0_thrown vq0_at vq0_scaled vq0_solved vq0_second vq0_nm vq0_nn vq0_number vq0_bad vq0_sa vq0_sb (vf_upd vq0_t y1.toNatClampNeg y2) (upd vq0_basic x1.toNatClampNeg (vq0_n + x1)) vq0_turned) := hD
        refine lv_iinc (v := x1 + 1) (lv' := [(1, .int (x1 + 1)), (0, .ref q0)]) hx hb d_M_table_199 hl (k := 1) rfl rfl (by decide) rfl (fun ls hl => ?_)
        refine lv_goto (tgt := 2) hx hb d_M_table_202 (by decide) ?_
        exact kc2 _ (Option.some.inj h).symm H locs ls hP hD hS (lv_sub hl [1, 0] rfl)
      have L107 : ∀ (vq0_sa : Nat → UInt64) (vq0_t : Nat → UInt64) (vq0_basic : Nat → Int32) (vq0_turned : Nat → Int32) (x1 : Int32) (x2 : Int32), ∀ (H : Heap) (locs : List Loc) (ls : Array Slot), va_P D CL (w_M_table T q0 q0_a q0_b q0_c q0_rowScale q0_columnScale q0_sa q0_sb q0_sc q0_x q0_s q0_y q0_p q0_d q0_h q0_f q0_mm q0_low q0_dd q0_r q0_big q0_dt q0_dx q0_t q0_cost q0_rowScaleNow q0_columnScaleNow q0_basic q0_text q0_turned q0_na q0_nb q0_nc vq0_m vq0_n vq0_length vq0_where vq0_effort vq0_thrown vq0_at vq0_scaled vq0_solved vq0_second vq0_nm vq0_nn vq0_number vq0_bad vq0_sa vq0_sb vq0_t vq0_basic vq0_turned) H → va_D A (w_M_table T q0 q0_a q0_b q0_c q0_rowScale q0_columnScale q0_sa q0_sb q0_sc q0_x q0_s q0_y q0_p q0_d q0_h q0_f q0_mm q0_low q0_dd q0_r q0_big q0_dt q0_dx q0_t q0_cost q0_rowScaleNow q0_columnScaleNow q0_basic q0_text q0_turned q0_na q0_nb q0_nc vq0_m vq0_n vq0_length vq0_where vq0_effort vq0_thrown vq0_at vq0_scaled vq0_solved vq0_second vq0_nm vq0_nn vq0_number vq0_bad vq0_sa vq0_sb vq0_t vq0_basic vq0_turned) → va_S A s.heap H locs → lv_has ls 3 [(0, .ref q0), (1, .int x1), (2, .int x2)] → s_M_table_L107 vq0_m vq0_n vq0_length vq0_where vq0_effort vq0_thrown vq0_at vq0_scaled vq0_solved vq0_second vq0_nm vq0_nn vq0_number vq0_bad vq0_sa vq0_sb vq0_t vq0_basic vq0_turned x1 x2 = some rb2 → W p l e (rmk 0 0) s m args below meth c H locs 0 0 Q (F0 m 107 ls []) := by
        intro vq0_sa vq0_t vq0_basic vq0_turned x1 x2 H locs ls hP hD hS hl h
        unfold s_M_table_L107 at h
        obtain ⟨ul107, hul107, h⟩ := bi_some h
        refine loopO_W (Wh := fun (st : (Nat → UInt64) × Int32) => ∀ (H : Heap) (locs : List Loc) (ls : Array Slot), va_P D CL (w_M_table T q0 q0_a q0_b q0_c q0_rowScale q0_columnScale q0_sa q0_sb q0_sc q0_x q0_s q0_y q0_p q0_d q0_h q0_f q0_mm q0_low q0_dd q0_r q0_big q0_dt q0_dx q0_t q0_cost q0_rowScaleNow q0_columnScaleNow q0_basic q0_text q0_turned q0_na q0_nb q0_nc vq0_m vq0_n vq0_length vq0_where vq0_effort vq0_thrown vq0_at vq0_scaled vq0_solved vq0_second vq0_nm vq0_nn vq0_number vq0_bad vq0_sa vq0_sb st.1 vq0_basic vq0_turned) H → va_D A (w_M_table T q0 q0_a q0_b q0_c q0_rowScale q0_columnScale q0_sa q0_sb q0_sc q0_x q0_s q0_y q0_p q0_d q0_h q0_f q0_mm q0_low q0_dd q0_r q0_big q0_dt q0_dx q0_t q0_cost q0_rowScaleNow q0_columnScaleNow q0_basic q0_text q0_turned q0_na q0_nb q0_nc vq0_m vq0_n vq0_length vq0_where vq0_effort vq0_thrown vq0_at vq0_scaled vq0_solved vq0_second vq0_nm vq0_nn vq0_number vq0_bad vq0_sa vq0_sb st.1 vq0_basic vq0_turned) → va_S A s.heap H locs → lv_has ls 3 [(0, .ref q0), (1, .int x1), (2, .int st.2)] → W p l e (rmk 0 0) s m args below meth c H locs 0 0 Q (F0 m 107 ls [])) (Wx := fun (e1 : (Nat → UInt64)) => ∀ (H : Heap) (locs : List Loc) (ls : Array Slot), va_P D CL (w_M_table T q0 q0_a q0_b q0_c q0_rowScale q0_columnScale q0_sa q0_sb q0_sc q0_x q0_s q0_y q0_p q0_d q0_h q0_f q0_mm q0_low q0_dd q0_r q0_big q0_dt q0_dx q0_t q0_cost q0_rowScaleNow q0_columnScaleNow q0_basic q0_text q0_turned q0_na q0_nb q0_nc vq0_m vq0_n vq0_length vq0_where vq0_effort vq0_thrown vq0_at vq0_scaled vq0_solved vq0_second vq0_nm vq0_nn vq0_number vq0_bad vq0_sa vq0_sb e1 vq0_basic vq0_turned) H → va_D A (w_M_table T q0 q0_a q0_b q0_c q0_rowScale q0_columnScale q0_sa q0_sb q0_sc q0_x q0_s q0_y q0_p q0_d q0_h q0_f q0_mm q0_low q0_dd q0_r q0_big q0_dt q0_dx q0_t q0_cost q0_rowScaleNow q0_columnScaleNow q0_basic q0_text q0_turned q0_na q0_nb q0_nc vq0_m vq0_n vq0_length vq0_where vq0_effort vq0_thrown vq0_at vq0_scaled vq0_solved vq0_second vq0_nm vq0_nn vq0_number vq0_bad vq0_sa vq0_sb e1 vq0_basic vq0_turned) → va_S A s.heap H locs → lv_has ls 3 [(0, .ref q0), (1, .int x1)] → W p l e (rmk 0 0) s m args below meth c H locs 0 0 Q (F0 m 147 ls [])) ?_ 2000 _ ul107 hul107 ?_ H locs ls hP hD hS hl
        · intro st rb107 h kc107 kx107 H locs ls hP hD hS hl
          obtain ⟨vq0_t, x2⟩ := st
          have h : s_M_table_B107 vq0_m vq0_n vq0_length vq0_where vq0_effort vq0_thrown vq0_at vq0_scaled vq0_solved vq0_second vq0_nm vq0_nn vq0_number vq0_bad vq0_sa vq0_sb vq0_basic vq0_turned x1 vq0_t x2 = some rb107 := h
          have J140 : ∀ (vq0_t : Nat → UInt64) (x2 : Int32) (y1 : Int32) (y2 : UInt64), ∀ (H : Heap) (locs : List Loc) (ls : Array Slot), va_P D CL (w_M_table T q0 q0_a q0_b q0_c q0_rowScale q0_columnScale q0_sa q0_sb q0_sc q0_x q0_s q0_y q0_p q0_d q0_h q0_f q0_mm q0_low q0_dd q0_r q0_big q0_dt q0_dx q0_t q0_cost q0_rowScaleNow q0_columnScaleNow q0_basic q0_text q0_turned q0_na q0_nb q0_nc vq0_m vq0_n vq0_length vq0_where vq0_effort vq0_thrown vq0_at vq0_scaled vq0_solved vq0_second vq0_nm vq0_nn vq0_number vq0_bad vq0_sa vq0_sb vq0_t vq0_basic vq0_turned) H → va_D A (w_M_table T q0 q0_a q0_b q0_c q0_rowScale q0_columnScale q0_sa q0_sb q0_sc q0_x q0_s q0_y q0_p q0_d q0_h q0_f q0_mm q0_low q0_dd q0_r q0_big q0_dt q0_dx q0_t q0_cost q0_rowScaleNow q0_columnScaleNow q0_basic q0_text q0_turned q0_na q0_nb q0_nc vq0_m vq0_n vq0_length vq0_where vq0_effort vq0_thrown vq0_at vq0_scaled vq0_solved vq0_second vq0_nm vq0_nn vq0_number vq0_bad vq0_sa vq0_sb vq0_t vq0_basic vq0_turned) → va_S A s.heap H locs → lv_has ls 3 [(0, .ref q0), (1, .int x1), (2, .int x2)] → s_M_table_J140 vq0_m vq0_n vq0_length vq0_where vq0_effort vq0_thrown vq0_at vq0_scaled vq0_solved vq0_second vq0_nm vq0_nn vq0_number vq0_bad vq0_sa vq0_sb vq0_t vq0_basic vq0_turned x1 x2 y1 y2 = some rb107 → W p l e (rmk 0 0) s m args below meth c H locs 0 0 Q (F0 m 140 ls [.double y2, .int y1, .ref q0_t]) := by
            intro vq0_t x2 y1 y2 H locs ls hP hD hS hl h
            unfold s_M_table_J140 at h
            obtain ⟨g3, h⟩ := gd_some h
            refine va_dast hx hb hK hP hD hS 3 0 rfl rfl (inb_in g3) d_M_table_140 (fun H locs hP hD hS => ?_)
            have hP : va_P D CL (w_M_table T q0 q0_a q0_b q0_c q0_rowScale q0_columnScale q0_sa q0_sb q0_sc q0_x q0_s q0_y q0_p q0_d q0_h q0_f q0_mm q0_low q0_dd q0_r q0_big q0_dt q0_dx q0_t q0_cost q0_rowScaleNow q0_columnScaleNow q0_basic q0_text q0_turned q0_na q0_nb q0_nc vq0_m vq0_n vq0_length vq0_where vq0_effort vq0_thrown vq0_at vq0_scaled vq0_solved vq0_second vq0_nm vq0_nn vq0_number vq0_bad vq0_sa vq0_sb (vf_upd vq0_t y1.toNatClampNeg y2) vq0_basic vq0_turned) H := hP
            have hD : va_D A (w_M_table T q0 q0_a q0_b q0_c q0_rowScale q0_columnScale q0_sa q0_sb q0_sc q0_x q0_s q0_y q0_p q0_d q0_h q0_f q0_mm q0_low q0_dd q0_r q0_big q0_dt q0_dx q0_t q0_cost q0_rowScaleNow q0_columnScaleNow q0_basic q0_text q0_turned q0_na q0_nb q0_nc vq0_m vq0_n vq0_length vq0_where vq0_effort vq0_thrown vq0_at vq0_scaled vq0_solved vq0_second vq0_nm vq0_nn vq0_number vq0_bad vq0_sa vq0_sb (vf_upd vq0_t y1.toNatClampNeg y2) vq0_basic vq0_turned) := hD
            refine lv_iinc (v := x2 + 1) (lv' := [(2, .int (x2 + 1)), (0, .ref q0), (1, .int x1)]) hx hb d_M_table_141 hl (k := 2) rfl rfl (by decide) rfl (fun ls hl => ?_)
            refine lv_goto (tgt := 107) hx hb d_M_table_144 (by decide) ?_
            exact kc107 _ (Option.some.inj h).symm H locs ls hP hD hS (lv_sub hl [1, 2, 0] rfl)
          unfold s_M_table_B107 at h
          refine lv_iload_n hx hb d_M_table_107 rfl (lv_at hl 2 rfl) ?_
          refine lv_aload_n hx hb d_M_table_108 rfl (lv_at hl 0 rfl) ?_
          refine va_get (D := D) (ci := 8) (v := .int vq0_m) (C := "ConeForgeModel") (T := FM) (N := 46) hx hb hts iM hown hK hP 0 rfl rfl 29 (by decide) (hts _ (bgc bw713)) (fun _ h9 => h9) rfl d_M_table_109 ?_
          refine lv_icmp_ge (tgt := 147) hx hb d_M_table_112 (by decide) (fun c4 => ?_) (fun c4 => ?_)
          · have h := it_t c4 h
            exact kx107 _ (Option.some.inj h).symm H locs ls hP hD hS (lv_sub hl [0, 1] rfl)
          · have h := it_f c4 h
            refine lv_aload_n hx hb d_M_table_115 rfl (lv_at hl 0 rfl) ?_
            refine va_get (D := D) (ci := 8) (v := .ref q0_t) (C := "ConeForgeModel") (T := FM) (N := 46) hx hb hts iM hown hK hP 0 rfl rfl 22 (by decide) (hts _ (bgc bw706)) (fun _ h9 => h9) rfl d_M_table_116 ?_
            refine lv_bipush (v := 14) hx hb d_M_table_119 (by decide) ?_
            refine lv_iload_n hx hb d_M_table_121 rfl (lv_at hl 1 rfl) ?_
            refine lv_imul hx hb d_M_table_122 ?_
            refine lv_aload_n hx hb d_M_table_123 rfl (lv_at hl 0 rfl) ?_
            refine va_get (D := D) (ci := 8) (v := .int vq0_n) (C := "ConeForgeModel") (T := FM) (N := 46) hx hb hts iM hown hK hP 0 rfl rfl 30 (by decide) (hts _ (bgc bw714)) (fun _ h9 => h9) rfl d_M_table_124 ?_
            refine lv_iadd hx hb d_M_table_127 ?_
            refine lv_iload_n hx hb d_M_table_128 rfl (lv_at hl 2 rfl) ?_
            refine lv_iadd hx hb d_M_table_129 ?_
            refine lv_iload_n hx hb d_M_table_130 rfl (lv_at hl 2 rfl) ?_
            refine lv_iload_n hx hb d_M_table_131 rfl (lv_at hl 1 rfl) ?_
            refine lv_icmp_ne (tgt := 139) hx hb d_M_table_132 (by decide) (fun c5 => ?_) (fun c5 => ?_)
            · have h := it_f c5 h
              refine lv_dconst0 hx hb d_M_table_139 ?_
              exact J140 vq0_t x2 (((14 * x1) + vq0_n) + x2) FP.dconst0 H locs ls hP hD hS (lv_sub hl [0, 1, 2] rfl) h
            · have h := it_t c5 h
              refine lv_dconst1 hx hb d_M_table_135 ?_
              refine lv_goto (tgt := 140) hx hb d_M_table_136 (by decide) ?_
              exact J140 vq0_t x2 (((14 * x1) + vq0_n) + x2) FP.dconst1 H locs ls hP hD hS (lv_sub hl [0, 1, 2] rfl) h
        · intro H locs ls hP hD hS hl
          refine lv_aload_n hx hb d_M_table_147 rfl (lv_at hl 0 rfl) ?_
          refine va_get (D := D) (ci := 8) (v := .ref q0_t) (C := "ConeForgeModel") (T := FM) (N := 46) hx hb hts iM hown hK hP 0 rfl rfl 22 (by decide) (hts _ (bgc bw706)) (fun _ h9 => h9) rfl d_M_table_148 ?_
          refine lv_bipush (v := 14) hx hb d_M_table_151 (by decide) ?_
          refine lv_iload_n hx hb d_M_table_153 rfl (lv_at hl 1 rfl) ?_
          refine lv_imul hx hb d_M_table_154 ?_
          refine lv_bipush (v := 13) hx hb d_M_table_155 (by decide) ?_
          refine lv_iadd hx hb d_M_table_157 ?_
          refine lv_aload_n hx hb d_M_table_158 rfl (lv_at hl 0 rfl) ?_
          refine va_get (D := D) (ci := 8) (v := .ref q0_turned) (C := "ConeForgeModel") (T := FM) (N := 46) hx hb hts iM hown hK hP 0 rfl rfl 28 (by decide) (hts _ (bgc bw712)) (fun _ h9 => h9) rfl d_M_table_159 ?_
          refine lv_iload_n hx hb d_M_table_162 rfl (lv_at hl 1 rfl) ?_
          obtain ⟨g6, h⟩ := gd_some h
          refine va_zald hx hb hK hP 5 5 rfl rfl (inb_in g6) d_M_table_163 ?_
          refine lv_if_eq (tgt := 180) hx hb d_M_table_164 (by decide) (fun c7 => ?_) (fun c7 => ?_)
          · have h := it_t c7 h
            refine lv_aload_n hx hb d_M_table_180 rfl (lv_at hl 0 rfl) ?_
            refine va_get (D := D) (ci := 8) (v := .ref q0_sb) (C := "ConeForgeModel") (T := FM) (N := 46) hx hb hts iM hown hK hP 0 rfl rfl 6 (by decide) (hts _ (bgc bw690)) (fun _ h9 => h9) rfl d_M_table_181 ?_
            refine lv_iload_n hx hb d_M_table_184 rfl (lv_at hl 1 rfl) ?_
            obtain ⟨g8, h⟩ := gd_some h
            refine va_dald hx hb hK hP 2 0 rfl rfl (inb_in g8) d_M_table_185 ?_
            exact J186 vq0_sa ul107 vq0_basic vq0_turned x1 ((14 * x1) + 13) (vq0_sb x1.toNatClampNeg) H locs ls hP hD hS (lv_sub hl [0, 1] rfl) h
          · have h := it_f c7 h
            refine lv_aload_n hx hb d_M_table_167 rfl (lv_at hl 0 rfl) ?_
            refine va_get (D := D) (ci := 8) (v := .ref q0_sb) (C := "ConeForgeModel") (T := FM) (N := 46) hx hb hts iM hown hK hP 0 rfl rfl 6 (by decide) (hts _ (bgc bw690)) (fun _ h9 => h9) rfl d_M_table_168 ?_
            refine lv_iload_n hx hb d_M_table_171 rfl (lv_at hl 1 rfl) ?_
            obtain ⟨g9, h⟩ := gd_some h
            refine va_dald hx hb hK hP 2 0 rfl rfl (inb_in g9) d_M_table_172 ?_
            refine lv_ldc2d (v := 13830554455654793216) hx hb hown (hts _ (bgc bw891)) d_M_table_173 ?_
            obtain ⟨g10, h⟩ := gd_some h
            refine lv_dmul hx hb d_M_table_176 (isn_n g10) ?_
            refine lv_goto (tgt := 186) hx hb d_M_table_177 (by decide) ?_
            exact J186 vq0_sa ul107 vq0_basic vq0_turned x1 ((14 * x1) + 13) (FP.dmul (vq0_sb x1.toNatClampNeg) 13830554455654793216) H locs ls hP hD hS (lv_sub hl [0, 1] rfl) h
      have L34 : ∀ (vq0_sa : Nat → UInt64) (vq0_t : Nat → UInt64) (vq0_basic : Nat → Int32) (vq0_turned : Nat → Int32) (x1 : Int32) (x2 : Int32), ∀ (H : Heap) (locs : List Loc) (ls : Array Slot), va_P D CL (w_M_table T q0 q0_a q0_b q0_c q0_rowScale q0_columnScale q0_sa q0_sb q0_sc q0_x q0_s q0_y q0_p q0_d q0_h q0_f q0_mm q0_low q0_dd q0_r q0_big q0_dt q0_dx q0_t q0_cost q0_rowScaleNow q0_columnScaleNow q0_basic q0_text q0_turned q0_na q0_nb q0_nc vq0_m vq0_n vq0_length vq0_where vq0_effort vq0_thrown vq0_at vq0_scaled vq0_solved vq0_second vq0_nm vq0_nn vq0_number vq0_bad vq0_sa vq0_sb vq0_t vq0_basic vq0_turned) H → va_D A (w_M_table T q0 q0_a q0_b q0_c q0_rowScale q0_columnScale q0_sa q0_sb q0_sc q0_x q0_s q0_y q0_p q0_d q0_h q0_f q0_mm q0_low q0_dd q0_r q0_big q0_dt q0_dx q0_t q0_cost q0_rowScaleNow q0_columnScaleNow q0_basic q0_text q0_turned q0_na q0_nb q0_nc vq0_m vq0_n vq0_length vq0_where vq0_effort vq0_thrown vq0_at vq0_scaled vq0_solved vq0_second vq0_nm vq0_nn vq0_number vq0_bad vq0_sa vq0_sb vq0_t vq0_basic vq0_turned) → va_S A s.heap H locs → lv_has ls 3 [(0, .ref q0), (1, .int x1), (2, .int x2)] → s_M_table_L34 vq0_m vq0_n vq0_length vq0_where vq0_effort vq0_thrown vq0_at vq0_scaled vq0_solved vq0_second vq0_nm vq0_nn vq0_number vq0_bad vq0_sa vq0_sb vq0_t vq0_basic vq0_turned x1 x2 = some rb2 → W p l e (rmk 0 0) s m args below meth c H locs 0 0 Q (F0 m 34 ls []) := by
        intro vq0_sa vq0_t vq0_basic vq0_turned x1 x2 H locs ls hP hD hS hl h
        unfold s_M_table_L34 at h
        obtain ⟨ul34, hul34, h⟩ := bi_some h
        refine loopO_W (Wh := fun (st : (Nat → UInt64) × (Nat → UInt64) × Int32) => ∀ (H : Heap) (locs : List Loc) (ls : Array Slot), va_P D CL (w_M_table T q0 q0_a q0_b q0_c q0_rowScale q0_columnScale q0_sa q0_sb q0_sc q0_x q0_s q0_y q0_p q0_d q0_h q0_f q0_mm q0_low q0_dd q0_r q0_big q0_dt q0_dx q0_t q0_cost q0_rowScaleNow q0_columnScaleNow q0_basic q0_text q0_turned q0_na q0_nb q0_nc vq0_m vq0_n vq0_length vq0_where vq0_effort vq0_thrown vq0_at vq0_scaled vq0_solved vq0_second vq0_nm vq0_nn vq0_number vq0_bad st.1 vq0_sb st.2.1 vq0_basic vq0_turned) H → va_D A (w_M_table T q0 q0_a q0_b q0_c q0_rowScale q0_columnScale q0_sa q0_sb q0_sc q0_x q0_s q0_y q0_p q0_d q0_h q0_f q0_mm q0_low q0_dd q0_r q0_big q0_dt q0_dx q0_t q0_cost q0_rowScaleNow q0_columnScaleNow q0_basic q0_text q0_turned q0_na q0_nb q0_nc vq0_m vq0_n vq0_length vq0_where vq0_effort vq0_thrown vq0_at vq0_scaled vq0_solved vq0_second vq0_nm vq0_nn vq0_number vq0_bad st.1 vq0_sb st.2.1 vq0_basic vq0_turned) → va_S A s.heap H locs → lv_has ls 3 [(0, .ref q0), (1, .int x1), (2, .int st.2.2)] → W p l e (rmk 0 0) s m args below meth c H locs 0 0 Q (F0 m 34 ls [])) (Wx := fun (e1 : (Nat → UInt64) × (Nat → UInt64)) => ∀ (H : Heap) (locs : List Loc) (ls : Array Slot), va_P D CL (w_M_table T q0 q0_a q0_b q0_c q0_rowScale q0_columnScale q0_sa q0_sb q0_sc q0_x q0_s q0_y q0_p q0_d q0_h q0_f q0_mm q0_low q0_dd q0_r q0_big q0_dt q0_dx q0_t q0_cost q0_rowScaleNow q0_columnScaleNow q0_basic q0_text q0_turned q0_na q0_nb q0_nc vq0_m vq0_n vq0_length vq0_where vq0_effort vq0_thrown vq0_at vq0_scaled vq0_solved vq0_second vq0_nm vq0_nn vq0_number vq0_bad e1.1 vq0_sb e1.2 vq0_basic vq0_turned) H → va_D A (w_M_table T q0 q0_a q0_b q0_c q0_rowScale q0_columnScale q0_sa q0_sb q0_sc q0_x q0_s q0_y q0_p q0_d q0_h q0_f q0_mm q0_low q0_dd q0_r q0_big q0_dt q0_dx q0_t q0_cost q0_rowScaleNow q0_columnScaleNow q0_basic q0_text q0_turned q0_na q0_nb q0_nc vq0_m vq0_n vq0_length vq0_where vq0_effort vq0_thrown vq0_at vq0_scaled vq0_solved vq0_second vq0_nm vq0_nn vq0_number vq0_bad e1.1 vq0_sb e1.2 vq0_basic vq0_turned) → va_S A s.heap H locs → lv_has ls 3 [(0, .ref q0), (1, .int x1)] → W p l e (rmk 0 0) s m args below meth c H locs 0 0 Q (F0 m 105 ls [])) ?_ 2000 _ ul34 hul34 ?_ H locs ls hP hD hS hl
        · intro st rb34 h kc34 kx34 H locs ls hP hD hS hl
          obtain ⟨vq0_sa, vq0_t, x2⟩ := st
          have h : s_M_table_B34 vq0_m vq0_n vq0_length vq0_where vq0_effort vq0_thrown vq0_at vq0_scaled vq0_solved vq0_second vq0_nm vq0_nn vq0_number vq0_bad vq0_sb vq0_basic vq0_turned x1 vq0_sa vq0_t x2 = some rb34 := h
          have J77 : ∀ (vq0_sa : Nat → UInt64) (vq0_t : Nat → UInt64) (x2 : Int32), ∀ (H : Heap) (locs : List Loc) (ls : Array Slot), va_P D CL (w_M_table T q0 q0_a q0_b q0_c q0_rowScale q0_columnScale q0_sa q0_sb q0_sc q0_x q0_s q0_y q0_p q0_d q0_h q0_f q0_mm q0_low q0_dd q0_r q0_big q0_dt q0_dx q0_t q0_cost q0_rowScaleNow q0_columnScaleNow q0_basic q0_text q0_turned q0_na q0_nb q0_nc vq0_m vq0_n vq0_length vq0_where vq0_effort vq0_thrown vq0_at vq0_scaled vq0_solved vq0_second vq0_nm vq0_nn vq0_number vq0_bad vq0_sa vq0_sb vq0_t vq0_basic vq0_turned) H → va_D A (w_M_table T q0 q0_a q0_b q0_c q0_rowScale q0_columnScale q0_sa q0_sb q0_sc q0_x q0_s q0_y q0_p q0_d q0_h q0_f q0_mm q0_low q0_dd q0_r q0_big q0_dt q0_dx q0_t q0_cost q0_rowScaleNow q0_columnScaleNow q0_basic q0_text q0_turned q0_na q0_nb q0_nc vq0_m vq0_n vq0_length vq0_where vq0_effort vq0_thrown vq0_at vq0_scaled vq0_solved vq0_second vq0_nm vq0_nn vq0_number vq0_bad vq0_sa vq0_sb vq0_t vq0_basic vq0_turned) → va_S A s.heap H locs → lv_has ls 3 [(0, .ref q0), (1, .int x1), (2, .int x2)] → s_M_table_J77 vq0_m vq0_n vq0_length vq0_where vq0_effort vq0_thrown vq0_at vq0_scaled vq0_solved vq0_second vq0_nm vq0_nn vq0_number vq0_bad vq0_sa vq0_sb vq0_t vq0_basic vq0_turned x1 x2 = some rb34 → W p l e (rmk 0 0) s m args below meth c H locs 0 0 Q (F0 m 77 ls []) := by
            intro vq0_sa vq0_t x2 H locs ls hP hD hS hl h
            unfold s_M_table_J77 at h
            refine lv_aload_n hx hb d_M_table_77 rfl (lv_at hl 0 rfl) ?_
            refine va_get (D := D) (ci := 8) (v := .ref q0_t) (C := "ConeForgeModel") (T := FM) (N := 46) hx hb hts iM hown hK hP 0 rfl rfl 22 (by decide) (hts _ (bgc bw706)) (fun _ h9 => h9) rfl d_M_table_78 ?_
            refine lv_bipush (v := 14) hx hb d_M_table_81 (by decide) ?_
            refine lv_iload_n hx hb d_M_table_83 rfl (lv_at hl 1 rfl) ?_
            refine lv_imul hx hb d_M_table_84 ?_
            refine lv_iload_n hx hb d_M_table_85 rfl (lv_at hl 2 rfl) ?_
            refine lv_iadd hx hb d_M_table_86 ?_
            refine lv_aload_n hx hb d_M_table_87 rfl (lv_at hl 0 rfl) ?_
            refine va_get (D := D) (ci := 8) (v := .ref q0_sa) (C := "ConeForgeModel") (T := FM) (N := 46) hx hb hts iM hown hK hP 0 rfl rfl 5 (by decide) (hts _ (bgc bw689)) (fun _ h9 => h9) rfl d_M_table_88 ?_
            refine lv_bipush (v := 8) hx hb d_M_table_91 (by decide) ?_
            refine lv_iload_n hx hb d_M_table_93 rfl (lv_at hl 1 rfl) ?_
            refine lv_imul hx hb d_M_table_94 ?_
            refine lv_iload_n hx hb d_M_table_95 rfl (lv_at hl 2 rfl) ?_
            refine lv_iadd hx hb d_M_table_96 ?_
            obtain ⟨g11, h⟩ := gd_some h
            refine va_dald hx hb hK hP 1 0 rfl rfl (inb_in g11) d_M_table_97 ?_
            obtain ⟨g12, h⟩ := gd_some h
            refine va_dast hx hb hK hP hD hS 3 0 rfl rfl (inb_in g12) d_M_table_98 (fun H locs hP hD hS => ?_)
            have hP : va_P D CL (w_M_table T q0 q0_a q0_b q0_c q0_rowScale q0_columnScale q0_sa q0_sb q0_sc q0_x q0_s q0_y q0_p q0_d q0_h q0_f q0_mm q0_low q0_dd q0_r q0_big q0_dt q0_dx q0_t q0_cost q0_rowScaleNow q0_columnScaleNow q0_basic q0_text q0_turned q0_na q0_nb q0_nc vq0_m vq0_n vq0_length vq0_where vq0_effort vq0_thrown vq0_at vq0_scaled vq0_solved vq0_second vq0_nm vq0_nn vq0_number vq0_bad vq0_sa vq0_sb (vf_upd vq0_t ((14 * x1) + x2).toNatClampNeg (vq0_sa ((8 * x1) + x2).toNatClampNeg)) vq0_basic vq0_turned) H := hP
            have hD : va_D A (w_M_table T q0 q0_a q0_b q0_c q0_rowScale q0_columnScale q0_sa q0_sb q0_sc q0_x q0_s q0_y q0_p q0_d q0_h q0_f q0_mm q0_low q0_dd q0_r q0_big q0_dt q0_dx q0_t q0_cost q0_rowScaleNow q0_columnScaleNow q0_basic q0_text q0_turned q0_na q0_nb q0_nc vq0_m vq0_n vq0_length vq0_where vq0_effort vq0_thrown vq0_at vq0_scaled vq0_solved vq0_second vq0_nm vq0_nn vq0_number vq0_bad vq0_sa vq0_sb (vf_upd vq0_t ((14 * x1) + x2).toNatClampNeg (vq0_sa ((8 * x1) + x2).toNatClampNeg)) vq0_basic vq0_turned) := hD
            refine lv_iinc (v := x2 + 1) (lv' := [(2, .int (x2 + 1)), (0, .ref q0), (1, .int x1)]) hx hb d_M_table_99 hl (k := 2) rfl rfl (by decide) rfl (fun ls hl => ?_)
            refine lv_goto (tgt := 34) hx hb d_M_table_102 (by decide) ?_
            exact kc34 _ (Option.some.inj h).symm H locs ls hP hD hS (lv_sub hl [1, 2, 0] rfl)
          unfold s_M_table_B34 at h
          refine lv_iload_n hx hb d_M_table_34 rfl (lv_at hl 2 rfl) ?_
          refine lv_aload_n hx hb d_M_table_35 rfl (lv_at hl 0 rfl) ?_
          refine va_get (D := D) (ci := 8) (v := .int vq0_n) (C := "ConeForgeModel") (T := FM) (N := 46) hx hb hts iM hown hK hP 0 rfl rfl 30 (by decide) (hts _ (bgc bw714)) (fun _ h9 => h9) rfl d_M_table_36 ?_
          refine lv_icmp_ge (tgt := 105) hx hb d_M_table_39 (by decide) (fun c13 => ?_) (fun c13 => ?_)
          · have h := it_t c13 h
            exact kx34 _ (Option.some.inj h).symm H locs ls hP hD hS (lv_sub hl [0, 1] rfl)
          · have h := it_f c13 h
            refine lv_aload_n hx hb d_M_table_42 rfl (lv_at hl 0 rfl) ?_
            refine va_get (D := D) (ci := 8) (v := .ref q0_turned) (C := "ConeForgeModel") (T := FM) (N := 46) hx hb hts iM hown hK hP 0 rfl rfl 28 (by decide) (hts _ (bgc bw712)) (fun _ h9 => h9) rfl d_M_table_43 ?_
            refine lv_iload_n hx hb d_M_table_46 rfl (lv_at hl 1 rfl) ?_
            obtain ⟨g14, h⟩ := gd_some h
            refine va_zald hx hb hK hP 5 5 rfl rfl (inb_in g14) d_M_table_47 ?_
            refine lv_if_eq (tgt := 77) hx hb d_M_table_48 (by decide) (fun c15 => ?_) (fun c15 => ?_)
            · have h := it_t c15 h
              exact J77 vq0_sa vq0_t x2 H locs ls hP hD hS (lv_sub hl [0, 1, 2] rfl) h
            · have h := it_f c15 h
              refine lv_aload_n hx hb d_M_table_51 rfl (lv_at hl 0 rfl) ?_
              refine va_get (D := D) (ci := 8) (v := .ref q0_sa) (C := "ConeForgeModel") (T := FM) (N := 46) hx hb hts iM hown hK hP 0 rfl rfl 5 (by decide) (hts _ (bgc bw689)) (fun _ h9 => h9) rfl d_M_table_52 ?_
              refine lv_bipush (v := 8) hx hb d_M_table_55 (by decide) ?_
              refine lv_iload_n hx hb d_M_table_57 rfl (lv_at hl 1 rfl) ?_
              refine lv_imul hx hb d_M_table_58 ?_
              refine lv_iload_n hx hb d_M_table_59 rfl (lv_at hl 2 rfl) ?_
              refine lv_iadd hx hb d_M_table_60 ?_
              refine lv_aload_n hx hb d_M_table_61 rfl (lv_at hl 0 rfl) ?_
              refine va_get (D := D) (ci := 8) (v := .ref q0_sa) (C := "ConeForgeModel") (T := FM) (N := 46) hx hb hts iM hown hK hP 0 rfl rfl 5 (by decide) (hts _ (bgc bw689)) (fun _ h9 => h9) rfl d_M_table_62 ?_
              refine lv_bipush (v := 8) hx hb d_M_table_65 (by decide) ?_
              refine lv_iload_n hx hb d_M_table_67 rfl (lv_at hl 1 rfl) ?_
              refine lv_imul hx hb d_M_table_68 ?_
              refine lv_iload_n hx hb d_M_table_69 rfl (lv_at hl 2 rfl) ?_
              refine lv_iadd hx hb d_M_table_70 ?_
              obtain ⟨g16, h⟩ := gd_some h
              refine va_dald hx hb hK hP 1 0 rfl rfl (inb_in g16) d_M_table_71 ?_
              refine lv_ldc2d (v := 13830554455654793216) hx hb hown (hts _ (bgc bw891)) d_M_table_72 ?_
              obtain ⟨g17, h⟩ := gd_some h
              refine lv_dmul hx hb d_M_table_75 (isn_n g17) ?_
              obtain ⟨g18, h⟩ := gd_some h
              refine va_dast hx hb hK hP hD hS 1 0 rfl rfl (inb_in g18) d_M_table_76 (fun H locs hP hD hS => ?_)
              have hP : va_P D CL (w_M_table T q0 q0_a q0_b q0_c q0_rowScale q0_columnScale q0_sa q0_sb q0_sc q0_x q0_s q0_y q0_p q0_d q0_h q0_f q0_mm q0_low q0_dd q0_r q0_big q0_dt q0_dx q0_t q0_cost q0_rowScaleNow q0_columnScaleNow q0_basic q0_text q0_turned q0_na q0_nb q0_nc vq0_m vq0_n vq0_length vq0_where vq0_effort vq0_thrown vq0_at vq0_scaled vq0_solved vq0_second vq0_nm vq0_nn vq0_number vq0_bad (vf_upd vq0_sa ((8 * x1) + x2).toNatClampNeg (FP.dmul (vq0_sa ((8 * x1) + x2).toNatClampNeg) 13830554455654793216)) vq0_sb vq0_t vq0_basic vq0_turned) H := hP
              have hD : va_D A (w_M_table T q0 q0_a q0_b q0_c q0_rowScale q0_columnScale q0_sa q0_sb q0_sc q0_x q0_s q0_y q0_p q0_d q0_h q0_f q0_mm q0_low q0_dd q0_r q0_big q0_dt q0_dx q0_t q0_cost q0_rowScaleNow q0_columnScaleNow q0_basic q0_text q0_turned q0_na q0_nb q0_nc vq0_m vq0_n vq0_length vq0_where vq0_effort vq0_thrown vq0_at vq0_scaled vq0_solved vq0_second vq0_nm vq0_nn vq0_number vq0_bad (vf_upd vq0_sa ((8 * x1) + x2).toNatClampNeg (FP.dmul (vq0_sa ((8 * x1) + x2).toNatClampNeg) 13830554455654793216)) vq0_sb vq0_t vq0_basic vq0_turned) := hD
              exact J77 (vf_upd vq0_sa ((8 * x1) + x2).toNatClampNeg (FP.dmul (vq0_sa ((8 * x1) + x2).toNatClampNeg) 13830554455654793216)) vq0_t x2 H locs ls hP hD hS (lv_sub hl [0, 1, 2] rfl) h
        · intro H locs ls hP hD hS hl
          refine lv_iconst (v := 0) hx hb d_M_table_105 (by decide) ?_
          refine lv_istore_n (lv' := [(2, .int 0), (0, .ref q0), (1, .int x1)]) hx hb d_M_table_106 rfl hl (by decide) rfl (fun ls hl => ?_)
          exact L107 ul34.1 ul34.2 vq0_basic vq0_turned x1 0 H locs ls hP hD hS (lv_sub hl [1, 2, 0] rfl) h
      have J31 : ∀ (vq0_sa : Nat → UInt64) (vq0_t : Nat → UInt64) (vq0_basic : Nat → Int32) (vq0_turned : Nat → Int32) (x1 : Int32) (y1 : Int32) (y2 : Int32), ∀ (H : Heap) (locs : List Loc) (ls : Array Slot), va_P D CL (w_M_table T q0 q0_a q0_b q0_c q0_rowScale q0_columnScale q0_sa q0_sb q0_sc q0_x q0_s q0_y q0_p q0_d q0_h q0_f q0_mm q0_low q0_dd q0_r q0_big q0_dt q0_dx q0_t q0_cost q0_rowScaleNow q0_columnScaleNow q0_basic q0_text q0_turned q0_na q0_nb q0_nc vq0_m vq0_n vq0_length vq0_where vq0_effort vq0_thrown vq0_at vq0_scaled vq0_solved vq0_second vq0_nm vq0_nn vq0_number vq0_bad vq0_sa vq0_sb vq0_t vq0_basic vq0_turned) H → va_D A (w_M_table T q0 q0_a q0_b q0_c q0_rowScale q0_columnScale q0_sa q0_sb q0_sc q0_x q0_s q0_y q0_p q0_d q0_h q0_f q0_mm q0_low q0_dd q0_r q0_big q0_dt q0_dx q0_t q0_cost q0_rowScaleNow q0_columnScaleNow q0_basic q0_text q0_turned q0_na q0_nb q0_nc vq0_m vq0_n vq0_length vq0_where vq0_effort vq0_thrown vq0_at vq0_scaled vq0_solved vq0_second vq0_nm vq0_nn vq0_number vq0_bad vq0_sa vq0_sb vq0_t vq0_basic vq0_turned) → va_S A s.heap H locs → lv_has ls 3 [(0, .ref q0), (1, .int x1)] → s_M_table_J31 vq0_m vq0_n vq0_length vq0_where vq0_effort vq0_thrown vq0_at vq0_scaled vq0_solved vq0_second vq0_nm vq0_nn vq0_number vq0_bad vq0_sa vq0_sb vq0_t vq0_basic vq0_turned x1 y1 y2 = some rb2 → W p l e (rmk 0 0) s m args below meth c H locs 0 0 Q (F0 m 31 ls [.int y2, .int y1, .ref q0_turned]) := by
        intro vq0_sa vq0_t vq0_basic vq0_turned x1 y1 y2 H locs ls hP hD hS hl h
        unfold s_M_table_J31 at h
        obtain ⟨g19, h⟩ := gd_some h
        refine va_zast hx hb hK hP hD hS 5 5 rfl rfl (inb_in g19) d_M_table_31 (fun H locs hP hD hS => ?_)
        have hP : va_P D CL (w_M_table T q0 q0_a q0_b q0_c q0_rowScale q0_columnScale q0_sa q0_sb q0_sc q0_x q0_s q0_y q0_p q0_d q0_h q0_f q0_mm q0_low q0_dd q0_r q0_big q0_dt q0_dx q0_t q0_cost q0_rowScaleNow q0_columnScaleNow q0_basic q0_text q0_turned q0_na q0_nb q0_nc vq0_m vq0_n vq0_length vq0_where vq0_effort vq0_thrown vq0_at vq0_scaled vq0_solved vq0_second vq0_nm vq0_nn vq0_number vq0_bad vq0_sa vq0_sb vq0_t vq0_basic (upd vq0_turned y1.toNatClampNeg (vp_nar .boolean y2))) H := hP
        have hD : va_D A (w_M_table T q0 q0_a q0_b q0_c q0_rowScale q0_columnScale q0_sa q0_sb q0_sc q0_x q0_s q0_y q0_p q0_d q0_h q0_f q0_mm q0_low q0_dd q0_r q0_big q0_dt q0_dx q0_t q0_cost q0_rowScaleNow q0_columnScaleNow q0_basic q0_text q0_turned q0_na q0_nb q0_nc vq0_m vq0_n vq0_length vq0_where vq0_effort vq0_thrown vq0_at vq0_scaled vq0_solved vq0_second vq0_nm vq0_nn vq0_number vq0_bad vq0_sa vq0_sb vq0_t vq0_basic (upd vq0_turned y1.toNatClampNeg (vp_nar .boolean y2))) := hD
        refine lv_iconst (v := 0) hx hb d_M_table_32 (by decide) ?_
        refine lv_istore_n (lv' := [(2, .int 0), (0, .ref q0), (1, .int x1)]) hx hb d_M_table_33 rfl hl (by decide) rfl (fun ls hl => ?_)
        exact L34 vq0_sa vq0_t vq0_basic (upd vq0_turned y1.toNatClampNeg (vp_nar .boolean y2)) x1 0 H locs ls hP hD hS (lv_sub hl [1, 2, 0] rfl) h
      unfold s_M_table_B2 at h
      refine lv_iload_n hx hb d_M_table_2 rfl (lv_at hl 1 rfl) ?_
      refine lv_aload_n hx hb d_M_table_3 rfl (lv_at hl 0 rfl) ?_
      refine va_get (D := D) (ci := 8) (v := .int vq0_m) (C := "ConeForgeModel") (T := FM) (N := 46) hx hb hts iM hown hK hP 0 rfl rfl 29 (by decide) (hts _ (bgc bw713)) (fun _ h9 => h9) rfl d_M_table_4 ?_
      refine lv_icmp_ge (tgt := 205) hx hb d_M_table_7 (by decide) (fun c20 => ?_) (fun c20 => ?_)
      · have h := it_t c20 h
        exact kx2 _ (Option.some.inj h).symm H locs ls hP hD hS (lv_sub hl [] rfl)
      · have h := it_f c20 h
        refine lv_aload_n hx hb d_M_table_10 rfl (lv_at hl 0 rfl) ?_
        refine va_get (D := D) (ci := 8) (v := .ref q0_turned) (C := "ConeForgeModel") (T := FM) (N := 46) hx hb hts iM hown hK hP 0 rfl rfl 28 (by decide) (hts _ (bgc bw712)) (fun _ h9 => h9) rfl d_M_table_11 ?_
        refine lv_iload_n hx hb d_M_table_14 rfl (lv_at hl 1 rfl) ?_
        refine lv_aload_n hx hb d_M_table_15 rfl (lv_at hl 0 rfl) ?_
        refine va_get (D := D) (ci := 8) (v := .ref q0_sb) (C := "ConeForgeModel") (T := FM) (N := 46) hx hb hts iM hown hK hP 0 rfl rfl 6 (by decide) (hts _ (bgc bw690)) (fun _ h9 => h9) rfl d_M_table_16 ?_
        refine lv_iload_n hx hb d_M_table_19 rfl (lv_at hl 1 rfl) ?_
        obtain ⟨g21, h⟩ := gd_some h
        refine va_dald hx hb hK hP 2 0 rfl rfl (inb_in g21) d_M_table_20 ?_
        refine lv_dconst0 hx hb d_M_table_21 ?_
        refine lv_dcmp hx hb d_M_table_22 ?_
        refine lv_if_ge (tgt := 30) hx hb d_M_table_23 (by decide) (fun c22 => ?_) (fun c22 => ?_)
        · have h := it_t c22 h
          refine lv_iconst (v := 0) hx hb d_M_table_30 (by decide) ?_
          exact J31 vq0_sa vq0_t vq0_basic vq0_turned x1 x1 0 H locs ls hP hD hS (lv_sub hl [0, 1] rfl) h
        · have h := it_f c22 h
          refine lv_iconst (v := 1) hx hb d_M_table_26 (by decide) ?_
          refine lv_goto (tgt := 31) hx hb d_M_table_27 (by decide) ?_
          exact J31 vq0_sa vq0_t vq0_basic vq0_turned x1 x1 1 H locs ls hP hD hS (lv_sub hl [0, 1] rfl) h
    · intro H locs ls hP hD hS hl
      exact rtV hx hb hr hlocks hQ (Option.some.inj h) hP hS d_M_table_205 rfl
  unfold s_M_table at h
  refine lv_iconst (v := 0) hx hb d_M_table_0 (by decide) ?_
  refine lv_istore_n (lv' := [(1, .int 0), (0, .ref q0)]) hx hb d_M_table_1 rfl hl (by decide) rfl (fun ls hl => ?_)
  exact L2 vq0_sa vq0_t vq0_basic vq0_turned 0 H locs ls hP hD hS (lv_sub hl [1, 0] rfl) h
theorem d_M_entering_0 : decode prog_10_method_31_code 0 = .ok (.iconst 0, 1) := by decide +kernel
theorem d_M_entering_1 : decode prog_10_method_31_code 1 = .ok (.istore_n 1, 1) := by decide +kernel
theorem d_M_entering_2 : decode prog_10_method_31_code 2 = .ok (.iload_n 1, 1) := by decide +kernel
theorem d_M_entering_3 : decode prog_10_method_31_code 3 = .ok (.aload_n 0, 1) := by decide +kernel
theorem d_M_entering_4 : decode prog_10_method_31_code 4 = .ok (.getfield 103, 3) := by decide +kernel
theorem d_M_entering_7 : decode prog_10_method_31_code 7 = .ok (.if_icmp .ge 72, 3) := by decide +kernel
theorem d_M_entering_10 : decode prog_10_method_31_code 10 = .ok (.aload_n 0, 1) := by decide +kernel
theorem d_M_entering_11 : decode prog_10_method_31_code 11 = .ok (.getfield 79, 3) := by decide +kernel
theorem d_M_entering_14 : decode prog_10_method_31_code 14 = .ok (.iload_n 1, 1) := by decide +kernel
theorem d_M_entering_15 : decode prog_10_method_31_code 15 = .ok (.daload, 1) := by decide +kernel
theorem d_M_entering_16 : decode prog_10_method_31_code 16 = .ok (.dstore_n 2, 1) := by decide +kernel
theorem d_M_entering_17 : decode prog_10_method_31_code 17 = .ok (.iconst 0, 1) := by decide +kernel
theorem d_M_entering_18 : decode prog_10_method_31_code 18 = .ok (.istore 4, 2) := by decide +kernel
theorem d_M_entering_20 : decode prog_10_method_31_code 20 = .ok (.iload 4, 2) := by decide +kernel
theorem d_M_entering_22 : decode prog_10_method_31_code 22 = .ok (.aload_n 0, 1) := by decide +kernel
theorem d_M_entering_23 : decode prog_10_method_31_code 23 = .ok (.getfield 99, 3) := by decide +kernel
theorem d_M_entering_26 : decode prog_10_method_31_code 26 = .ok (.if_icmp .ge 37, 3) := by decide +kernel
theorem d_M_entering_29 : decode prog_10_method_31_code 29 = .ok (.dload_n 2, 1) := by decide +kernel
theorem d_M_entering_30 : decode prog_10_method_31_code 30 = .ok (.aload_n 0, 1) := by decide +kernel
theorem d_M_entering_31 : decode prog_10_method_31_code 31 = .ok (.getfield 79, 3) := by decide +kernel
theorem d_M_entering_34 : decode prog_10_method_31_code 34 = .ok (.aload_n 0, 1) := by decide +kernel
theorem d_M_entering_35 : decode prog_10_method_31_code 35 = .ok (.getfield 88, 3) := by decide +kernel
theorem d_M_entering_38 : decode prog_10_method_31_code 38 = .ok (.iload 4, 2) := by decide +kernel
theorem d_M_entering_40 : decode prog_10_method_31_code 40 = .ok (.iaload, 1) := by decide +kernel
theorem d_M_entering_41 : decode prog_10_method_31_code 41 = .ok (.daload, 1) := by decide +kernel
theorem d_M_entering_42 : decode prog_10_method_31_code 42 = .ok (.aload_n 0, 1) := by decide +kernel
theorem d_M_entering_43 : decode prog_10_method_31_code 43 = .ok (.getfield 76, 3) := by decide +kernel
theorem d_M_entering_46 : decode prog_10_method_31_code 46 = .ok (.bipush 14, 2) := by decide +kernel
theorem d_M_entering_48 : decode prog_10_method_31_code 48 = .ok (.iload 4, 2) := by decide +kernel
theorem d_M_entering_50 : decode prog_10_method_31_code 50 = .ok (.imul, 1) := by decide +kernel
theorem d_M_entering_51 : decode prog_10_method_31_code 51 = .ok (.iload_n 1, 1) := by decide +kernel
theorem d_M_entering_52 : decode prog_10_method_31_code 52 = .ok (.iadd, 1) := by decide +kernel
theorem d_M_entering_53 : decode prog_10_method_31_code 53 = .ok (.daload, 1) := by decide +kernel
theorem d_M_entering_54 : decode prog_10_method_31_code 54 = .ok (.dmul, 1) := by decide +kernel
theorem d_M_entering_55 : decode prog_10_method_31_code 55 = .ok (.dsub, 1) := by decide +kernel
theorem d_M_entering_56 : decode prog_10_method_31_code 56 = .ok (.dstore_n 2, 1) := by decide +kernel
theorem d_M_entering_57 : decode prog_10_method_31_code 57 = .ok (.iinc 4 1, 3) := by decide +kernel
theorem d_M_entering_60 : decode prog_10_method_31_code 60 = .ok (.goto (-40), 3) := by decide +kernel
theorem d_M_entering_63 : decode prog_10_method_31_code 63 = .ok (.dload_n 2, 1) := by decide +kernel
theorem d_M_entering_64 : decode prog_10_method_31_code 64 = .ok (.ldc2_w 255, 3) := by decide +kernel
theorem d_M_entering_67 : decode prog_10_method_31_code 67 = .ok (.dcmp .g, 1) := by decide +kernel
theorem d_M_entering_68 : decode prog_10_method_31_code 68 = .ok (.ifCond .ge 5, 3) := by decide +kernel
theorem d_M_entering_71 : decode prog_10_method_31_code 71 = .ok (.iload_n 1, 1) := by decide +kernel
theorem d_M_entering_72 : decode prog_10_method_31_code 72 = .ok (.ireturn, 1) := by decide +kernel
theorem d_M_entering_73 : decode prog_10_method_31_code 73 = .ok (.iinc 1 1, 3) := by decide +kernel
theorem d_M_entering_76 : decode prog_10_method_31_code 76 = .ok (.goto (-74), 3) := by decide +kernel
theorem d_M_entering_79 : decode prog_10_method_31_code 79 = .ok (.iconst (-1), 1) := by decide +kernel
theorem d_M_entering_80 : decode prog_10_method_31_code 80 = .ok (.ireturn, 1) := by decide +kernel
abbrev w_M_entering (T : Nat → ClassId) (q0 : Nat) (q0_a : Nat) (q0_b : Nat) (q0_c : Nat) (q0_rowScale : Nat) (q0_columnScale : Nat) (q0_sa : Nat) (q0_sb : Nat) (q0_sc : Nat) (q0_x : Nat) (q0_s : Nat) (q0_y : Nat) (q0_p : Nat) (q0_d : Nat) (q0_h : Nat) (q0_f : Nat) (q0_mm : Nat) (q0_low : Nat) (q0_dd : Nat) (q0_r : Nat) (q0_big : Nat) (q0_dt : Nat) (q0_dx : Nat) (q0_t : Nat) (q0_cost : Nat) (q0_rowScaleNow : Nat) (q0_columnScaleNow : Nat) (q0_basic : Nat) (q0_text : Nat) (q0_turned : Nat) (q0_na : Nat) (q0_nb : Nat) (q0_nc : Nat) (vq0_m : Int32) (vq0_n : Int32) (vq0_length : Int32) (vq0_where : Int32) (vq0_effort : Int32) (vq0_thrown : Int32) (vq0_at : Int32) (vq0_scaled : Int32) (vq0_solved : Int32) (vq0_second : Int32) (vq0_nm : Int32) (vq0_nn : Int32) (vq0_number : UInt64) (vq0_bad : Int32) (vq0_t : Nat → UInt64) (vq0_cost : Nat → UInt64) (vq0_basic : Nat → Int32) : va_W := [(q0, .inr (8, [.ref q0_a, .ref q0_b, .ref q0_c, .ref q0_rowScale, .ref q0_columnScale, .ref q0_sa, .ref q0_sb, .ref q0_sc, .ref q0_x, .ref q0_s, .ref q0_y, .ref q0_p, .ref q0_d, .ref q0_h, .ref q0_f, .ref q0_mm, .ref q0_low, .ref q0_dd, .ref q0_r, .ref q0_big, .ref q0_dt, .ref q0_dx, .ref q0_t, .ref q0_cost, .ref q0_rowScaleNow, .ref q0_columnScaleNow, .ref q0_basic, .ref q0_text, .ref q0_turned, .int vq0_m, .int vq0_n, .int vq0_length, .int vq0_where, .int vq0_effort, .int vq0_thrown, .int vq0_at, .int vq0_scaled, .int vq0_solved, .int vq0_second, .ref q0_na, .ref q0_nb, .ref q0_nc, .int vq0_nm, .int vq0_nn, .double vq0_number, .int vq0_bad])), (q0_t, .inl (T 0, 70, .inr (.inr (.inr (.inl vq0_t))))), (q0_cost, .inl (T 0, 13, .inr (.inr (.inr (.inl vq0_cost))))), (q0_basic, .inl (T 1, 5, .inl vq0_basic))]
def s_M_entering_B20 (vq0_m : Int32) (vq0_n : Int32) (vq0_length : Int32) (vq0_where : Int32) (vq0_effort : Int32) (vq0_thrown : Int32) (vq0_at : Int32) (vq0_scaled : Int32) (vq0_solved : Int32) (vq0_second : Int32) (vq0_nm : Int32) (vq0_nn : Int32) (vq0_number : UInt64) (vq0_bad : Int32) (vq0_t : Nat → UInt64) (vq0_cost : Nat → UInt64) (vq0_basic : Nat → Int32) (x1 : Int32) (x2 : UInt64) (x4 : Int32) : Option ((UInt64 × Int32) ⊕ (UInt64)) :=
  if vq0_m ≤ x4 then (some (.inr x2)) else (gd (inb x4 5) <| gd (inb (vq0_basic x4.toNatClampNeg) 13) <| gd (inb ((14 * x4) + x1) 70) <| gd (isn (FP.dmul (vq0_cost (vq0_basic x4.toNatClampNeg).toNatClampNeg) (vq0_t ((14 * x4) + x1).toNatClampNeg))) <| gd (isn (FP.dsub x2 (FP.dmul (vq0_cost (vq0_basic x4.toNatClampNeg).toNatClampNeg) (vq0_t ((14 * x4) + x1).toNatClampNeg)))) <| some (.inl (FP.dsub x2 (FP.dmul (vq0_cost (vq0_basic x4.toNatClampNeg).toNatClampNeg) (vq0_t ((14 * x4) + x1).toNatClampNeg)), x4 + 1)))
def s_M_entering_L20 (vq0_m : Int32) (vq0_n : Int32) (vq0_length : Int32) (vq0_where : Int32) (vq0_effort : Int32) (vq0_thrown : Int32) (vq0_at : Int32) (vq0_scaled : Int32) (vq0_solved : Int32) (vq0_second : Int32) (vq0_nm : Int32) (vq0_nn : Int32) (vq0_number : UInt64) (vq0_bad : Int32) (vq0_t : Nat → UInt64) (vq0_cost : Nat → UInt64) (vq0_basic : Nat → Int32) (x1 : Int32) (x2 : UInt64) (x4 : Int32) : Option ((Int32) ⊕ ((Unit) ⊕ (Int32))) :=
  (loopO (fun (st : UInt64 × Int32) => s_M_entering_B20 vq0_m vq0_n vq0_length vq0_where vq0_effort vq0_thrown vq0_at vq0_scaled vq0_solved vq0_second vq0_nm vq0_nn vq0_number vq0_bad vq0_t vq0_cost vq0_basic x1 st.1 st.2) 2000 (x2, x4)).bind fun ul20 => if 0 ≤ (Op.cmpValue (FP.dcmp ul20 13695778570484766357) .g) then (some (.inl (x1 + 1))) else (some (.inr (.inr x1)))
def s_M_entering_B2 (vq0_m : Int32) (vq0_n : Int32) (vq0_length : Int32) (vq0_where : Int32) (vq0_effort : Int32) (vq0_thrown : Int32) (vq0_at : Int32) (vq0_scaled : Int32) (vq0_solved : Int32) (vq0_second : Int32) (vq0_nm : Int32) (vq0_nn : Int32) (vq0_number : UInt64) (vq0_bad : Int32) (vq0_t : Nat → UInt64) (vq0_cost : Nat → UInt64) (vq0_basic : Nat → Int32) (x1 : Int32) : Option ((Int32) ⊕ ((Unit) ⊕ (Int32))) :=
  if vq0_n ≤ x1 then (some (.inr (.inl ()))) else (gd (inb x1 13) <| s_M_entering_L20 vq0_m vq0_n vq0_length vq0_where vq0_effort vq0_thrown vq0_at vq0_scaled vq0_solved vq0_second vq0_nm vq0_nn vq0_number vq0_bad vq0_t vq0_cost vq0_basic x1 (vq0_cost x1.toNatClampNeg) 0)
def s_M_entering_L2 (vq0_m : Int32) (vq0_n : Int32) (vq0_length : Int32) (vq0_where : Int32) (vq0_effort : Int32) (vq0_thrown : Int32) (vq0_at : Int32) (vq0_scaled : Int32) (vq0_solved : Int32) (vq0_second : Int32) (vq0_nm : Int32) (vq0_nn : Int32) (vq0_number : UInt64) (vq0_bad : Int32) (vq0_t : Nat → UInt64) (vq0_cost : Nat → UInt64) (vq0_basic : Nat → Int32) (x1 : Int32) : Option (Int32) :=
  (loopO (fun (st : Int32) => s_M_entering_B2 vq0_m vq0_n vq0_length vq0_where vq0_effort vq0_thrown vq0_at vq0_scaled vq0_solved vq0_second vq0_nm vq0_nn vq0_number vq0_bad vq0_t vq0_cost vq0_basic st) 2000 x1).bind fun ul2 => Sum.elim (fun wl2 => some (-1)) (fun wl2 => some wl2) ul2
def s_M_entering (vq0_m : Int32) (vq0_n : Int32) (vq0_length : Int32) (vq0_where : Int32) (vq0_effort : Int32) (vq0_thrown : Int32) (vq0_at : Int32) (vq0_scaled : Int32) (vq0_solved : Int32) (vq0_second : Int32) (vq0_nm : Int32) (vq0_nn : Int32) (vq0_number : UInt64) (vq0_bad : Int32) (vq0_t : Nat → UInt64) (vq0_cost : Nat → UInt64) (vq0_basic : Nat → Int32) : Option (Int32) :=
  s_M_entering_L2 vq0_m vq0_n vq0_length vq0_where vq0_effort vq0_thrown vq0_at vq0_scaled vq0_solved vq0_second vq0_nm vq0_nn vq0_number vq0_bad vq0_t vq0_cost vq0_basic 0
set_option maxHeartbeats 40000000 in
set_option maxRecDepth 100000 in
theorem c_M_entering (l : Launch) (D : va_G) (T : Nat → ClassId) (q0 : Nat) (q0_a : Nat) (q0_b : Nat) (q0_c : Nat) (q0_rowScale : Nat) (q0_columnScale : Nat) (q0_sa : Nat) (q0_sb : Nat) (q0_sc : Nat) (q0_x : Nat) (q0_s : Nat) (q0_y : Nat) (q0_p : Nat) (q0_d : Nat) (q0_h : Nat) (q0_f : Nat) (q0_mm : Nat) (q0_low : Nat) (q0_dd : Nat) (q0_r : Nat) (q0_big : Nat) (q0_dt : Nat) (q0_dx : Nat) (q0_t : Nat) (q0_cost : Nat) (q0_rowScaleNow : Nat) (q0_columnScaleNow : Nat) (q0_basic : Nat) (q0_text : Nat) (q0_turned : Nat) (q0_na : Nat) (q0_nb : Nat) (q0_nc : Nat) (vq0_m : Int32) (vq0_n : Int32) (vq0_length : Int32) (vq0_where : Int32) (vq0_effort : Int32) (vq0_thrown : Int32) (vq0_at : Int32) (vq0_scaled : Int32) (vq0_solved : Int32) (vq0_second : Int32) (vq0_nm : Int32) (vq0_nn : Int32) (vq0_number : UInt64) (vq0_bad : Int32) (vq0_t : Nat → UInt64) (vq0_cost : Nat → UInt64) (vq0_basic : Nat → Int32) (rm : Int32) (h : s_M_entering vq0_m vq0_n vq0_length vq0_where vq0_effort vq0_thrown vq0_at vq0_scaled vq0_solved vq0_second vq0_nm vq0_nn vq0_number vq0_bad vq0_t vq0_cost vq0_basic = some rm) : CtI l y_M_entering (Cond.code y_M_entering prog_10_method_31_code 5 (some .int) :: BIG) 0 0 D T [.ref q0] (w_M_entering T q0 q0_a q0_b q0_c q0_rowScale q0_columnScale q0_sa q0_sb q0_sc q0_x q0_s q0_y q0_p q0_d q0_h q0_f q0_mm q0_low q0_dd q0_r q0_big q0_dt q0_dx q0_t q0_cost q0_rowScaleNow q0_columnScaleNow q0_basic q0_text q0_turned q0_na q0_nb q0_nc vq0_m vq0_n vq0_length vq0_where vq0_effort vq0_thrown vq0_at vq0_scaled vq0_solved vq0_second vq0_nm vq0_nn vq0_number vq0_bad vq0_t vq0_cost vq0_basic) (fun r => r) (fun r => (w_M_entering T q0 q0_a q0_b q0_c q0_rowScale q0_columnScale q0_sa q0_sb q0_sc q0_x q0_s q0_y q0_p q0_d q0_h q0_f q0_mm q0_low q0_dd q0_r q0_big q0_dt q0_dx q0_t q0_cost q0_rowScaleNow q0_columnScaleNow q0_basic q0_text q0_turned q0_na q0_nb q0_nc vq0_m vq0_n vq0_length vq0_where vq0_effort vq0_thrown vq0_at vq0_scaled vq0_solved vq0_second vq0_nm vq0_nn vq0_number vq0_bad vq0_t vq0_cost vq0_basic)) rm := by
  refine cf_entry (y := y_M_entering) (cc := prog_10_method_31_code) (nL := 5) (ret := (some .int)) (fr := 0) (lo := 0) (T := T) (av := [.ref q0]) (w := (w_M_entering T q0 q0_a q0_b q0_c q0_rowScale q0_columnScale q0_sa q0_sb q0_sc q0_x q0_s q0_y q0_p q0_d q0_h q0_f q0_mm q0_low q0_dd q0_r q0_big q0_dt q0_dx q0_t q0_cost q0_rowScaleNow q0_columnScaleNow q0_basic q0_text q0_turned q0_na q0_nb q0_nc vq0_m vq0_n vq0_length vq0_where vq0_effort vq0_thrown vq0_at vq0_scaled vq0_solved vq0_second vq0_nm vq0_nn vq0_number vq0_bad vq0_t vq0_cost vq0_basic)) (Qc := cfQi D (fun r => r) (fun r => (w_M_entering T q0 q0_a q0_b q0_c q0_rowScale q0_columnScale q0_sa q0_sb q0_sc q0_x q0_s q0_y q0_p q0_d q0_h q0_f q0_mm q0_low q0_dd q0_r q0_big q0_dt q0_dx q0_t q0_cost q0_rowScaleNow q0_columnScaleNow q0_basic q0_text q0_turned q0_na q0_nb q0_nc vq0_m vq0_n vq0_length vq0_where vq0_effort vq0_thrown vq0_at vq0_scaled vq0_solved vq0_second vq0_nm vq0_nn vq0_number vq0_bad vq0_t vq0_cost vq0_basic)) rm) (by decide) rfl (Nat.le_of_ble_eq_true rfl) ?_
  intro p e s m args below meth c A Q H locs ls hx hb hr hlocks hml hown hts hNW hK hA hQ hP hD hS hl
  have hown : s.vm.findClass "ConeForgeModel" = some m.cls := hown
  have hl : lv_has ls 5 [(0, .ref q0)] := hl
  have L2 : ∀ (x1 : Int32), ∀ (H : Heap) (locs : List Loc) (ls : Array Slot), va_P D CL (w_M_entering T q0 q0_a q0_b q0_c q0_rowScale q0_columnScale q0_sa q0_sb q0_sc q0_x q0_s q0_y q0_p q0_d q0_h q0_f q0_mm q0_low q0_dd q0_r q0_big q0_dt q0_dx q0_t q0_cost q0_rowScaleNow q0_columnScaleNow q0_basic q0_text q0_turned q0_na q0_nb q0_nc vq0_m vq0_n vq0_length vq0_where vq0_effort vq0_thrown vq0_at vq0_scaled vq0_solved vq0_second vq0_nm vq0_nn vq0_number vq0_bad vq0_t vq0_cost vq0_basic) H → va_D A (w_M_entering T q0 q0_a q0_b q0_c q0_rowScale q0_columnScale q0_sa q0_sb q0_sc q0_x q0_s q0_y q0_p q0_d q0_h q0_f q0_mm q0_low q0_dd q0_r q0_big q0_dt q0_dx q0_t q0_cost q0_rowScaleNow q0_columnScaleNow q0_basic q0_text q0_turned q0_na q0_nb q0_nc vq0_m vq0_n vq0_length vq0_where vq0_effort vq0_thrown vq0_at vq0_scaled vq0_solved vq0_second vq0_nm vq0_nn vq0_number vq0_bad vq0_t vq0_cost vq0_basic) → va_S A s.heap H locs → lv_has ls 5 [(0, .ref q0), (1, .int x1)] → s_M_entering_L2 vq0_m vq0_n vq0_length vq0_where vq0_effort vq0_thrown vq0_at vq0_scaled vq0_solved vq0_second vq0_nm vq0_nn vq0_number vq0_bad vq0_t vq0_cost vq0_basic x1 = some rm → W p l e (rmk 0 0) s m args below meth c H locs 0 0 Q (F0 m 2 ls []) := by
    intro x1 H locs ls hP hD hS hl h
    unfold s_M_entering_L2 at h
    obtain ⟨ul2, hul2, h⟩ := bi_some h
    refine loopO_W (Wh := fun (st : Int32) => ∀ (H : Heap) (locs : List Loc) (ls : Array Slot), va_P D CL (w_M_entering T q0 q0_a q0_b q0_c q0_rowScale q0_columnScale q0_sa q0_sb q0_sc q0_x q0_s q0_y q0_p q0_d q0_h q0_f q0_mm q0_low q0_dd q0_r q0_big q0_dt q0_dx q0_t q0_cost q0_rowScaleNow q0_columnScaleNow q0_basic q0_text q0_turned q0_na q0_nb q0_nc vq0_m vq0_n vq0_length vq0_where vq0_effort vq0_thrown vq0_at vq0_scaled vq0_solved vq0_second vq0_nm vq0_nn vq0_number vq0_bad vq0_t vq0_cost vq0_basic) H → va_D A (w_M_entering T q0 q0_a q0_b q0_c q0_rowScale q0_columnScale q0_sa q0_sb q0_sc q0_x q0_s q0_y q0_p q0_d q0_h q0_f q0_mm q0_low q0_dd q0_r q0_big q0_dt q0_dx q0_t q0_cost q0_rowScaleNow q0_columnScaleNow q0_basic q0_text q0_turned q0_na q0_nb q0_nc vq0_m vq0_n vq0_length vq0_where vq0_effort vq0_thrown vq0_at vq0_scaled vq0_solved vq0_second vq0_nm vq0_nn vq0_number vq0_bad vq0_t vq0_cost vq0_basic) → va_S A s.heap H locs → lv_has ls 5 [(0, .ref q0), (1, .int st)] → W p l e (rmk 0 0) s m args below meth c H locs 0 0 Q (F0 m 2 ls [])) (Wx := fun (e0 : (Unit) ⊕ (Int32)) => Sum.elim (fun (e1 : Unit) => ∀ (H : Heap) (locs : List Loc) (ls : Array Slot), va_P D CL (w_M_entering T q0 q0_a q0_b q0_c q0_rowScale q0_columnScale q0_sa q0_sb q0_sc q0_x q0_s q0_y q0_p q0_d q0_h q0_f q0_mm q0_low q0_dd q0_r q0_big q0_dt q0_dx q0_t q0_cost q0_rowScaleNow q0_columnScaleNow q0_basic q0_text q0_turned q0_na q0_nb q0_nc vq0_m vq0_n vq0_length vq0_where vq0_effort vq0_thrown vq0_at vq0_scaled vq0_solved vq0_second vq0_nm vq0_nn vq0_number vq0_bad vq0_t vq0_cost vq0_basic) H → va_D A (w_M_entering T q0 q0_a q0_b q0_c q0_rowScale q0_columnScale q0_sa q0_sb q0_sc q0_x q0_s q0_y q0_p q0_d q0_h q0_f q0_mm q0_low q0_dd q0_r q0_big q0_dt q0_dx q0_t q0_cost q0_rowScaleNow q0_columnScaleNow q0_basic q0_text q0_turned q0_na q0_nb q0_nc vq0_m vq0_n vq0_length vq0_where vq0_effort vq0_thrown vq0_at vq0_scaled vq0_solved vq0_second vq0_nm vq0_nn vq0_number vq0_bad vq0_t vq0_cost vq0_basic) → va_S A s.heap H locs → lv_has ls 5 [] → W p l e (rmk 0 0) s m args below meth c H locs 0 0 Q (F0 m 79 ls [])) (fun e2 => e2 = rm) e0) ?_ 2000 _ ul2 hul2 ?_ H locs ls hP hD hS hl
    · intro st rb2 h kc2 kx2 H locs ls hP hD hS hl
      obtain ⟨x1, rfl⟩ : ∃ z, z = st := ⟨_, rfl⟩
      have h : s_M_entering_B2 vq0_m vq0_n vq0_length vq0_where vq0_effort vq0_thrown vq0_at vq0_scaled vq0_solved vq0_second vq0_nm vq0_nn vq0_number vq0_bad vq0_t vq0_cost vq0_basic x1 = some rb2 := h
      have L20 : ∀ (x1 : Int32) (x2 : UInt64) (x4 : Int32), ∀ (H : Heap) (locs : List Loc) (ls : Array Slot), va_P D CL (w_M_entering T q0 q0_a q0_b q0_c q0_rowScale q0_columnScale q0_sa q0_sb q0_sc q0_x q0_s q0_y q0_p q0_d q0_h q0_f q0_mm q0_low q0_dd q0_r q0_big q0_dt q0_dx q0_t q0_cost q0_rowScaleNow q0_columnScaleNow q0_basic q0_text q0_turned q0_na q0_nb q0_nc vq0_m vq0_n vq0_length vq0_where vq0_effort vq0_thrown vq0_at vq0_scaled vq0_solved vq0_second vq0_nm vq0_nn vq0_number vq0_bad vq0_t vq0_cost vq0_basic) H → va_D A (w_M_entering T q0 q0_a q0_b q0_c q0_rowScale q0_columnScale q0_sa q0_sb q0_sc q0_x q0_s q0_y q0_p q0_d q0_h q0_f q0_mm q0_low q0_dd q0_r q0_big q0_dt q0_dx q0_t q0_cost q0_rowScaleNow q0_columnScaleNow q0_basic q0_text q0_turned q0_na q0_nb q0_nc vq0_m vq0_n vq0_length vq0_where vq0_effort vq0_thrown vq0_at vq0_scaled vq0_solved vq0_second vq0_nm vq0_nn vq0_number vq0_bad vq0_t vq0_cost vq0_basic) → va_S A s.heap H locs → lv_has ls 5 [(0, .ref q0), (1, .int x1), (2, .double x2), (4, .int x4)] → s_M_entering_L20 vq0_m vq0_n vq0_length vq0_where vq0_effort vq0_thrown vq0_at vq0_scaled vq0_solved vq0_second vq0_nm vq0_nn vq0_number vq0_bad vq0_t vq0_cost vq0_basic x1 x2 x4 = some rb2 → W p l e (rmk 0 0) s m args below meth c H locs 0 0 Q (F0 m 20 ls []) := by
        intro x1 x2 x4 H locs ls hP hD hS hl h
        unfold s_M_entering_L20 at h
        obtain ⟨ul20, hul20, h⟩ := bi_some h
        refine loopO_W (Wh := fun (st : UInt64 × Int32) => ∀ (H : Heap) (locs : List Loc) (ls : Array Slot), va_P D CL (w_M_entering T q0 q0_a q0_b q0_c q0_rowScale q0_columnScale q0_sa q0_sb q0_sc q0_x q0_s q0_y q0_p q0_d q0_h q0_f q0_mm q0_low q0_dd q0_r q0_big q0_dt q0_dx q0_t q0_cost q0_rowScaleNow q0_columnScaleNow q0_basic q0_text q0_turned q0_na q0_nb q0_nc vq0_m vq0_n vq0_length vq0_where vq0_effort vq0_thrown vq0_at vq0_scaled vq0_solved vq0_second vq0_nm vq0_nn vq0_number vq0_bad vq0_t vq0_cost vq0_basic) H → va_D A (w_M_entering T q0 q0_a q0_b q0_c q0_rowScale q0_columnScale q0_sa q0_sb q0_sc q0_x q0_s q0_y q0_p q0_d q0_h q0_f q0_mm q0_low q0_dd q0_r q0_big q0_dt q0_dx q0_t q0_cost q0_rowScaleNow q0_columnScaleNow q0_basic q0_text q0_turned q0_na q0_nb q0_nc vq0_m vq0_n vq0_length vq0_where vq0_effort vq0_thrown vq0_at vq0_scaled vq0_solved vq0_second vq0_nm vq0_nn vq0_number vq0_bad vq0_t vq0_cost vq0_basic) → va_S A s.heap H locs → lv_has ls 5 [(0, .ref q0), (1, .int x1), (2, .double st.1), (4, .int st.2)] → W p l e (rmk 0 0) s m args below meth c H locs 0 0 Q (F0 m 20 ls [])) (Wx := fun (e1 : UInt64) => ∀ (H : Heap) (locs : List Loc) (ls : Array Slot), va_P D CL (w_M_entering T q0 q0_a q0_b q0_c q0_rowScale q0_columnScale q0_sa q0_sb q0_sc q0_x q0_s q0_y q0_p q0_d q0_h q0_f q0_mm q0_low q0_dd q0_r q0_big q0_dt q0_dx q0_t q0_cost q0_rowScaleNow q0_columnScaleNow q0_basic q0_text q0_turned q0_na q0_nb q0_nc vq0_m vq0_n vq0_length vq0_where vq0_effort vq0_thrown vq0_at vq0_scaled vq0_solved vq0_second vq0_nm vq0_nn vq0_number vq0_bad vq0_t vq0_cost vq0_basic) H → va_D A (w_M_entering T q0 q0_a q0_b q0_c q0_rowScale q0_columnScale q0_sa q0_sb q0_sc q0_x q0_s q0_y q0_p q0_d q0_h q0_f q0_mm q0_low q0_dd q0_r q0_big q0_dt q0_dx q0_t q0_cost q0_rowScaleNow q0_columnScaleNow q0_basic q0_text q0_turned q0_na q0_nb q0_nc vq0_m vq0_n vq0_length vq0_where vq0_effort vq0_thrown vq0_at vq0_scaled vq0_solved vq0_second vq0_nm vq0_nn vq0_number vq0_bad vq0_t vq0_cost vq0_basic) → va_S A s.heap H locs → lv_has ls 5 [(0, .ref q0), (1, .int x1), (2, .double e1)] → W p l e (rmk 0 0) s m args below meth c H locs 0 0 Q (F0 m 63 ls [])) ?_ 2000 _ ul20 hul20 ?_ H locs ls hP hD hS hl
        · intro st rb20 h kc20 kx20 H locs ls hP hD hS hl
          obtain ⟨x2, x4⟩ := st
          have h : s_M_entering_B20 vq0_m vq0_n vq0_length vq0_where vq0_effort vq0_thrown vq0_at vq0_scaled vq0_solved vq0_second vq0_nm vq0_nn vq0_number vq0_bad vq0_t vq0_cost vq0_basic x1 x2 x4 = some rb20 := h
          unfold s_M_entering_B20 at h
          refine lv_iload hx hb d_M_entering_20 (lv_at hl 3 rfl) ?_
          refine lv_aload_n hx hb d_M_entering_22 rfl (lv_at hl 0 rfl) ?_
          refine va_get (D := D) (ci := 8) (v := .int vq0_m) (C := "ConeForgeModel") (T := FM) (N := 46) hx hb hts iM hown hK hP 0 rfl rfl 29 (by decide) (hts _ (bgc bw713)) (fun _ h9 => h9) rfl d_M_entering_23 ?_
          refine lv_icmp_ge (tgt := 63) hx hb d_M_entering_26 (by decide) (fun c1 => ?_) (fun c1 => ?_)
          · have h := it_t c1 h
            exact kx20 _ (Option.some.inj h).symm H locs ls hP hD hS (lv_sub hl [0, 1, 2] rfl)
          · have h := it_f c1 h
            refine lv_dload_n hx hb d_M_entering_29 rfl (lv_at hl 2 rfl) ?_
            refine lv_aload_n hx hb d_M_entering_30 rfl (lv_at hl 0 rfl) ?_
            refine va_get (D := D) (ci := 8) (v := .ref q0_cost) (C := "ConeForgeModel") (T := FM) (N := 46) hx hb hts iM hown hK hP 0 rfl rfl 23 (by decide) (hts _ (bgc bw707)) (fun _ h9 => h9) rfl d_M_entering_31 ?_
            refine lv_aload_n hx hb d_M_entering_34 rfl (lv_at hl 0 rfl) ?_
            refine va_get (D := D) (ci := 8) (v := .ref q0_basic) (C := "ConeForgeModel") (T := FM) (N := 46) hx hb hts iM hown hK hP 0 rfl rfl 26 (by decide) (hts _ (bgc bw710)) (fun _ h9 => h9) rfl d_M_entering_35 ?_
            refine lv_iload hx hb d_M_entering_38 (lv_at hl 3 rfl) ?_
            obtain ⟨g2, h⟩ := gd_some h
            refine va_iald hx hb hK hP 3 1 rfl rfl (inb_in g2) d_M_entering_40 ?_
            obtain ⟨g3, h⟩ := gd_some h
            refine va_dald hx hb hK hP 2 0 rfl rfl (inb_in g3) d_M_entering_41 ?_
            refine lv_aload_n hx hb d_M_entering_42 rfl (lv_at hl 0 rfl) ?_
            refine va_get (D := D) (ci := 8) (v := .ref q0_t) (C := "ConeForgeModel") (T := FM) (N := 46) hx hb hts iM hown hK hP 0 rfl rfl 22 (by decide) (hts _ (bgc bw706)) (fun _ h9 => h9) rfl d_M_entering_43 ?_
            refine lv_bipush (v := 14) hx hb d_M_entering_46 (by decide) ?_
            refine lv_iload hx hb d_M_entering_48 (lv_at hl 3 rfl) ?_
            refine lv_imul hx hb d_M_entering_50 ?_
            refine lv_iload_n hx hb d_M_entering_51 rfl (lv_at hl 1 rfl) ?_
            refine lv_iadd hx hb d_M_entering_52 ?_
            obtain ⟨g4, h⟩ := gd_some h
            refine va_dald hx hb hK hP 1 0 rfl rfl (inb_in g4) d_M_entering_53 ?_
            obtain ⟨g5, h⟩ := gd_some h
            refine lv_dmul hx hb d_M_entering_54 (isn_n g5) ?_
            obtain ⟨g6, h⟩ := gd_some h
            refine lv_dsub hx hb d_M_entering_55 (isn_n g6) ?_
            refine lv_dstore_n (lv' := [(2, .double (FP.dsub x2 (FP.dmul (vq0_cost (vq0_basic x4.toNatClampNeg).toNatClampNeg) (vq0_t ((14 * x4) + x1).toNatClampNeg)))), (0, .ref q0), (1, .int x1), (4, .int x4)]) hx hb d_M_entering_56 rfl hl (by decide) rfl (fun ls hl => ?_)
            refine lv_iinc (v := x4 + 1) (lv' := [(4, .int (x4 + 1)), (2, .double (FP.dsub x2 (FP.dmul (vq0_cost (vq0_basic x4.toNatClampNeg).toNatClampNeg) (vq0_t ((14 * x4) + x1).toNatClampNeg)))), (0, .ref q0), (1, .int x1)]) hx hb d_M_entering_57 hl (k := 3) rfl rfl (by decide) rfl (fun ls hl => ?_)
            refine lv_goto (tgt := 20) hx hb d_M_entering_60 (by decide) ?_
            exact kc20 _ (Option.some.inj h).symm H locs ls hP hD hS (lv_sub hl [2, 3, 1, 0] rfl)
        · intro H locs ls hP hD hS hl
          refine lv_dload_n hx hb d_M_entering_63 rfl (lv_at hl 2 rfl) ?_
          refine lv_ldc2d (v := 13695778570484766357) hx hb hown (hts _ (bgc bw904)) d_M_entering_64 ?_
          refine lv_dcmp hx hb d_M_entering_67 ?_
          refine lv_if_ge (tgt := 73) hx hb d_M_entering_68 (by decide) (fun c7 => ?_) (fun c7 => ?_)
          · have h := it_t c7 h
            refine lv_iinc (v := x1 + 1) (lv' := [(1, .int (x1 + 1)), (0, .ref q0), (2, .double ul20)]) hx hb d_M_entering_73 hl (k := 1) rfl rfl (by decide) rfl (fun ls hl => ?_)
            refine lv_goto (tgt := 2) hx hb d_M_entering_76 (by decide) ?_
            exact kc2 _ (Option.some.inj h).symm H locs ls hP hD hS (lv_sub hl [1, 0] rfl)
          · have h := it_f c7 h
            refine lv_iload_n hx hb d_M_entering_71 rfl (lv_at hl 1 rfl) ?_
            exact rtI hx hb hr hlocks hQ (kx2 _ (Option.some.inj h).symm) hP hS d_M_entering_72 rfl rfl
      unfold s_M_entering_B2 at h
      refine lv_iload_n hx hb d_M_entering_2 rfl (lv_at hl 1 rfl) ?_
      refine lv_aload_n hx hb d_M_entering_3 rfl (lv_at hl 0 rfl) ?_
      refine va_get (D := D) (ci := 8) (v := .int vq0_n) (C := "ConeForgeModel") (T := FM) (N := 46) hx hb hts iM hown hK hP 0 rfl rfl 30 (by decide) (hts _ (bgc bw714)) (fun _ h9 => h9) rfl d_M_entering_4 ?_
      refine lv_icmp_ge (tgt := 79) hx hb d_M_entering_7 (by decide) (fun c8 => ?_) (fun c8 => ?_)
      · have h := it_t c8 h
        exact kx2 _ (Option.some.inj h).symm H locs ls hP hD hS (lv_sub hl [] rfl)
      · have h := it_f c8 h
        refine lv_aload_n hx hb d_M_entering_10 rfl (lv_at hl 0 rfl) ?_
        refine va_get (D := D) (ci := 8) (v := .ref q0_cost) (C := "ConeForgeModel") (T := FM) (N := 46) hx hb hts iM hown hK hP 0 rfl rfl 23 (by decide) (hts _ (bgc bw707)) (fun _ h9 => h9) rfl d_M_entering_11 ?_
        refine lv_iload_n hx hb d_M_entering_14 rfl (lv_at hl 1 rfl) ?_
        obtain ⟨g9, h⟩ := gd_some h
        refine va_dald hx hb hK hP 2 0 rfl rfl (inb_in g9) d_M_entering_15 ?_
        refine lv_dstore_n (lv' := [(2, .double (vq0_cost x1.toNatClampNeg)), (0, .ref q0), (1, .int x1)]) hx hb d_M_entering_16 rfl hl (by decide) rfl (fun ls hl => ?_)
        refine lv_iconst (v := 0) hx hb d_M_entering_17 (by decide) ?_
        refine lv_istore (lv' := [(4, .int 0), (2, .double (vq0_cost x1.toNatClampNeg)), (0, .ref q0), (1, .int x1)]) hx hb d_M_entering_18 hl (by decide) rfl (fun ls hl => ?_)
        exact L20 x1 (vq0_cost x1.toNatClampNeg) 0 H locs ls hP hD hS (lv_sub hl [2, 3, 1, 0] rfl) h
    · cases ul2 with
      | inl wl2 =>
        intro H locs ls hP hD hS hl
        refine lv_iconst (v := (-1)) hx hb d_M_entering_79 (by decide) ?_
        exact rtI hx hb hr hlocks hQ (Option.some.inj h) hP hS d_M_entering_80 rfl rfl
      | inr wl2 => exact Option.some.inj h
  unfold s_M_entering at h
  refine lv_iconst (v := 0) hx hb d_M_entering_0 (by decide) ?_
  refine lv_istore_n (lv' := [(1, .int 0), (0, .ref q0)]) hx hb d_M_entering_1 rfl hl (by decide) rfl (fun ls hl => ?_)
  exact L2 0 H locs ls hP hD hS (lv_sub hl [1, 0] rfl) h
theorem d_M_leaving_0 : decode prog_10_method_32_code 0 = .ok (.iconst (-1), 1) := by decide +kernel
theorem d_M_leaving_1 : decode prog_10_method_32_code 1 = .ok (.istore_n 2, 1) := by decide +kernel
theorem d_M_leaving_2 : decode prog_10_method_32_code 2 = .ok (.iconst 0, 1) := by decide +kernel
theorem d_M_leaving_3 : decode prog_10_method_32_code 3 = .ok (.istore_n 3, 1) := by decide +kernel
theorem d_M_leaving_4 : decode prog_10_method_32_code 4 = .ok (.iload_n 3, 1) := by decide +kernel
theorem d_M_leaving_5 : decode prog_10_method_32_code 5 = .ok (.aload_n 0, 1) := by decide +kernel
theorem d_M_leaving_6 : decode prog_10_method_32_code 6 = .ok (.getfield 99, 3) := by decide +kernel
theorem d_M_leaving_9 : decode prog_10_method_32_code 9 = .ok (.if_icmp .ge 52, 3) := by decide +kernel
theorem d_M_leaving_12 : decode prog_10_method_32_code 12 = .ok (.aload_n 0, 1) := by decide +kernel
theorem d_M_leaving_13 : decode prog_10_method_32_code 13 = .ok (.getfield 257, 3) := by decide +kernel
theorem d_M_leaving_16 : decode prog_10_method_32_code 16 = .ok (.ifCond .eq 45, 3) := by decide +kernel
theorem d_M_leaving_19 : decode prog_10_method_32_code 19 = .ok (.aload_n 0, 1) := by decide +kernel
theorem d_M_leaving_20 : decode prog_10_method_32_code 20 = .ok (.getfield 88, 3) := by decide +kernel
theorem d_M_leaving_23 : decode prog_10_method_32_code 23 = .ok (.iload_n 3, 1) := by decide +kernel
theorem d_M_leaving_24 : decode prog_10_method_32_code 24 = .ok (.iaload, 1) := by decide +kernel
theorem d_M_leaving_25 : decode prog_10_method_32_code 25 = .ok (.aload_n 0, 1) := by decide +kernel
theorem d_M_leaving_26 : decode prog_10_method_32_code 26 = .ok (.getfield 103, 3) := by decide +kernel
theorem d_M_leaving_29 : decode prog_10_method_32_code 29 = .ok (.if_icmp .lt 26, 3) := by decide +kernel
theorem d_M_leaving_32 : decode prog_10_method_32_code 32 = .ok (.aload_n 0, 1) := by decide +kernel
theorem d_M_leaving_33 : decode prog_10_method_32_code 33 = .ok (.getfield 76, 3) := by decide +kernel
theorem d_M_leaving_36 : decode prog_10_method_32_code 36 = .ok (.bipush 14, 2) := by decide +kernel
theorem d_M_leaving_38 : decode prog_10_method_32_code 38 = .ok (.iload_n 3, 1) := by decide +kernel
theorem d_M_leaving_39 : decode prog_10_method_32_code 39 = .ok (.imul, 1) := by decide +kernel
theorem d_M_leaving_40 : decode prog_10_method_32_code 40 = .ok (.iload_n 1, 1) := by decide +kernel
theorem d_M_leaving_41 : decode prog_10_method_32_code 41 = .ok (.iadd, 1) := by decide +kernel
theorem d_M_leaving_42 : decode prog_10_method_32_code 42 = .ok (.daload, 1) := by decide +kernel
theorem d_M_leaving_43 : decode prog_10_method_32_code 43 = .ok (.invokestatic 197, 3) := by decide +kernel
theorem d_M_leaving_46 : decode prog_10_method_32_code 46 = .ok (.ldc2_w 260, 3) := by decide +kernel
theorem d_M_leaving_49 : decode prog_10_method_32_code 49 = .ok (.dcmp .l, 1) := by decide +kernel
theorem d_M_leaving_50 : decode prog_10_method_32_code 50 = .ok (.ifCond .le 5, 3) := by decide +kernel
theorem d_M_leaving_53 : decode prog_10_method_32_code 53 = .ok (.iload_n 3, 1) := by decide +kernel
theorem d_M_leaving_54 : decode prog_10_method_32_code 54 = .ok (.ireturn, 1) := by decide +kernel
theorem d_M_leaving_55 : decode prog_10_method_32_code 55 = .ok (.iinc 3 1, 3) := by decide +kernel
theorem d_M_leaving_58 : decode prog_10_method_32_code 58 = .ok (.goto (-54), 3) := by decide +kernel
theorem d_M_leaving_61 : decode prog_10_method_32_code 61 = .ok (.dconst 0, 1) := by decide +kernel
theorem d_M_leaving_62 : decode prog_10_method_32_code 62 = .ok (.dstore_n 3, 1) := by decide +kernel
theorem d_M_leaving_63 : decode prog_10_method_32_code 63 = .ok (.iconst 0, 1) := by decide +kernel
theorem d_M_leaving_64 : decode prog_10_method_32_code 64 = .ok (.istore 5, 2) := by decide +kernel
theorem d_M_leaving_66 : decode prog_10_method_32_code 66 = .ok (.iload 5, 2) := by decide +kernel
theorem d_M_leaving_68 : decode prog_10_method_32_code 68 = .ok (.aload_n 0, 1) := by decide +kernel
theorem d_M_leaving_69 : decode prog_10_method_32_code 69 = .ok (.getfield 99, 3) := by decide +kernel
theorem d_M_leaving_72 : decode prog_10_method_32_code 72 = .ok (.if_icmp .ge 99, 3) := by decide +kernel
theorem d_M_leaving_75 : decode prog_10_method_32_code 75 = .ok (.aload_n 0, 1) := by decide +kernel
theorem d_M_leaving_76 : decode prog_10_method_32_code 76 = .ok (.getfield 76, 3) := by decide +kernel
theorem d_M_leaving_79 : decode prog_10_method_32_code 79 = .ok (.bipush 14, 2) := by decide +kernel
theorem d_M_leaving_81 : decode prog_10_method_32_code 81 = .ok (.iload 5, 2) := by decide +kernel
theorem d_M_leaving_83 : decode prog_10_method_32_code 83 = .ok (.imul, 1) := by decide +kernel
theorem d_M_leaving_84 : decode prog_10_method_32_code 84 = .ok (.iload_n 1, 1) := by decide +kernel
theorem d_M_leaving_85 : decode prog_10_method_32_code 85 = .ok (.iadd, 1) := by decide +kernel
theorem d_M_leaving_86 : decode prog_10_method_32_code 86 = .ok (.daload, 1) := by decide +kernel
theorem d_M_leaving_87 : decode prog_10_method_32_code 87 = .ok (.ldc2_w 260, 3) := by decide +kernel
theorem d_M_leaving_90 : decode prog_10_method_32_code 90 = .ok (.dcmp .g, 1) := by decide +kernel
theorem d_M_leaving_91 : decode prog_10_method_32_code 91 = .ok (.ifCond .gt 6, 3) := by decide +kernel
theorem d_M_leaving_94 : decode prog_10_method_32_code 94 = .ok (.goto 71, 3) := by decide +kernel
theorem d_M_leaving_97 : decode prog_10_method_32_code 97 = .ok (.aload_n 0, 1) := by decide +kernel
theorem d_M_leaving_98 : decode prog_10_method_32_code 98 = .ok (.getfield 76, 3) := by decide +kernel
theorem d_M_leaving_101 : decode prog_10_method_32_code 101 = .ok (.bipush 14, 2) := by decide +kernel
theorem d_M_leaving_103 : decode prog_10_method_32_code 103 = .ok (.iload 5, 2) := by decide +kernel
theorem d_M_leaving_105 : decode prog_10_method_32_code 105 = .ok (.imul, 1) := by decide +kernel
theorem d_M_leaving_106 : decode prog_10_method_32_code 106 = .ok (.bipush 13, 2) := by decide +kernel
theorem d_M_leaving_108 : decode prog_10_method_32_code 108 = .ok (.iadd, 1) := by decide +kernel
theorem d_M_leaving_109 : decode prog_10_method_32_code 109 = .ok (.daload, 1) := by decide +kernel
theorem d_M_leaving_110 : decode prog_10_method_32_code 110 = .ok (.aload_n 0, 1) := by decide +kernel
theorem d_M_leaving_111 : decode prog_10_method_32_code 111 = .ok (.getfield 76, 3) := by decide +kernel
theorem d_M_leaving_114 : decode prog_10_method_32_code 114 = .ok (.bipush 14, 2) := by decide +kernel
theorem d_M_leaving_116 : decode prog_10_method_32_code 116 = .ok (.iload 5, 2) := by decide +kernel
theorem d_M_leaving_118 : decode prog_10_method_32_code 118 = .ok (.imul, 1) := by decide +kernel
theorem d_M_leaving_119 : decode prog_10_method_32_code 119 = .ok (.iload_n 1, 1) := by decide +kernel
theorem d_M_leaving_120 : decode prog_10_method_32_code 120 = .ok (.iadd, 1) := by decide +kernel
theorem d_M_leaving_121 : decode prog_10_method_32_code 121 = .ok (.daload, 1) := by decide +kernel
theorem d_M_leaving_122 : decode prog_10_method_32_code 122 = .ok (.ddiv, 1) := by decide +kernel
theorem d_M_leaving_123 : decode prog_10_method_32_code 123 = .ok (.dstore 6, 2) := by decide +kernel
theorem d_M_leaving_125 : decode prog_10_method_32_code 125 = .ok (.iload_n 2, 1) := by decide +kernel
theorem d_M_leaving_126 : decode prog_10_method_32_code 126 = .ok (.ifCond .lt 33, 3) := by decide +kernel
theorem d_M_leaving_129 : decode prog_10_method_32_code 129 = .ok (.dload 6, 2) := by decide +kernel
theorem d_M_leaving_131 : decode prog_10_method_32_code 131 = .ok (.dload_n 3, 1) := by decide +kernel
theorem d_M_leaving_132 : decode prog_10_method_32_code 132 = .ok (.dcmp .g, 1) := by decide +kernel
theorem d_M_leaving_133 : decode prog_10_method_32_code 133 = .ok (.ifCond .lt 26, 3) := by decide +kernel
theorem d_M_leaving_136 : decode prog_10_method_32_code 136 = .ok (.dload 6, 2) := by decide +kernel
theorem d_M_leaving_138 : decode prog_10_method_32_code 138 = .ok (.dload_n 3, 1) := by decide +kernel
theorem d_M_leaving_139 : decode prog_10_method_32_code 139 = .ok (.dcmp .l, 1) := by decide +kernel
theorem d_M_leaving_140 : decode prog_10_method_32_code 140 = .ok (.ifCond .ne 25, 3) := by decide +kernel
theorem d_M_leaving_143 : decode prog_10_method_32_code 143 = .ok (.aload_n 0, 1) := by decide +kernel
theorem d_M_leaving_144 : decode prog_10_method_32_code 144 = .ok (.getfield 88, 3) := by decide +kernel
theorem d_M_leaving_147 : decode prog_10_method_32_code 147 = .ok (.iload 5, 2) := by decide +kernel
theorem d_M_leaving_149 : decode prog_10_method_32_code 149 = .ok (.iaload, 1) := by decide +kernel
theorem d_M_leaving_150 : decode prog_10_method_32_code 150 = .ok (.aload_n 0, 1) := by decide +kernel
theorem d_M_leaving_151 : decode prog_10_method_32_code 151 = .ok (.getfield 88, 3) := by decide +kernel
theorem d_M_leaving_154 : decode prog_10_method_32_code 154 = .ok (.iload_n 2, 1) := by decide +kernel
theorem d_M_leaving_155 : decode prog_10_method_32_code 155 = .ok (.iaload, 1) := by decide +kernel
theorem d_M_leaving_156 : decode prog_10_method_32_code 156 = .ok (.if_icmp .ge 9, 3) := by decide +kernel
theorem d_M_leaving_159 : decode prog_10_method_32_code 159 = .ok (.iload 5, 2) := by decide +kernel
theorem d_M_leaving_161 : decode prog_10_method_32_code 161 = .ok (.istore_n 2, 1) := by decide +kernel
theorem d_M_leaving_162 : decode prog_10_method_32_code 162 = .ok (.dload 6, 2) := by decide +kernel
theorem d_M_leaving_164 : decode prog_10_method_32_code 164 = .ok (.dstore_n 3, 1) := by decide +kernel
theorem d_M_leaving_165 : decode prog_10_method_32_code 165 = .ok (.iinc 5 1, 3) := by decide +kernel
theorem d_M_leaving_168 : decode prog_10_method_32_code 168 = .ok (.goto (-102), 3) := by decide +kernel
theorem d_M_leaving_171 : decode prog_10_method_32_code 171 = .ok (.iload_n 2, 1) := by decide +kernel
theorem d_M_leaving_172 : decode prog_10_method_32_code 172 = .ok (.ireturn, 1) := by decide +kernel
abbrev w_M_leaving (T : Nat → ClassId) (q0 : Nat) (q0_a : Nat) (q0_b : Nat) (q0_c : Nat) (q0_rowScale : Nat) (q0_columnScale : Nat) (q0_sa : Nat) (q0_sb : Nat) (q0_sc : Nat) (q0_x : Nat) (q0_s : Nat) (q0_y : Nat) (q0_p : Nat) (q0_d : Nat) (q0_h : Nat) (q0_f : Nat) (q0_mm : Nat) (q0_low : Nat) (q0_dd : Nat) (q0_r : Nat) (q0_big : Nat) (q0_dt : Nat) (q0_dx : Nat) (q0_t : Nat) (q0_cost : Nat) (q0_rowScaleNow : Nat) (q0_columnScaleNow : Nat) (q0_basic : Nat) (q0_text : Nat) (q0_turned : Nat) (q0_na : Nat) (q0_nb : Nat) (q0_nc : Nat) (vq0_m : Int32) (vq0_n : Int32) (vq0_length : Int32) (vq0_where : Int32) (vq0_effort : Int32) (vq0_thrown : Int32) (vq0_at : Int32) (vq0_scaled : Int32) (vq0_solved : Int32) (vq0_second : Int32) (vq0_nm : Int32) (vq0_nn : Int32) (vq0_number : UInt64) (vq0_bad : Int32) (vq0_t : Nat → UInt64) (vq0_basic : Nat → Int32) : va_W := [(q0, .inr (8, [.ref q0_a, .ref q0_b, .ref q0_c, .ref q0_rowScale, .ref q0_columnScale, .ref q0_sa, .ref q0_sb, .ref q0_sc, .ref q0_x, .ref q0_s, .ref q0_y, .ref q0_p, .ref q0_d, .ref q0_h, .ref q0_f, .ref q0_mm, .ref q0_low, .ref q0_dd, .ref q0_r, .ref q0_big, .ref q0_dt, .ref q0_dx, .ref q0_t, .ref q0_cost, .ref q0_rowScaleNow, .ref q0_columnScaleNow, .ref q0_basic, .ref q0_text, .ref q0_turned, .int vq0_m, .int vq0_n, .int vq0_length, .int vq0_where, .int vq0_effort, .int vq0_thrown, .int vq0_at, .int vq0_scaled, .int vq0_solved, .int vq0_second, .ref q0_na, .ref q0_nb, .ref q0_nc, .int vq0_nm, .int vq0_nn, .double vq0_number, .int vq0_bad])), (q0_t, .inl (T 0, 70, .inr (.inr (.inr (.inl vq0_t))))), (q0_basic, .inl (T 1, 5, .inl vq0_basic))]
def s_M_leaving_J165 (vq0_m : Int32) (vq0_n : Int32) (vq0_length : Int32) (vq0_where : Int32) (vq0_effort : Int32) (vq0_thrown : Int32) (vq0_at : Int32) (vq0_scaled : Int32) (vq0_solved : Int32) (vq0_second : Int32) (vq0_nm : Int32) (vq0_nn : Int32) (vq0_number : UInt64) (vq0_bad : Int32) (vq0_t : Nat → UInt64) (vq0_basic : Nat → Int32) (x1 : Int32) (x2 : Int32) (x3 : UInt64) (x5 : Int32) : Option ((Int32 × UInt64 × Int32) ⊕ (Int32)) :=
  some (.inl (x2, x3, x5 + 1))
def s_M_leaving_J159 (vq0_m : Int32) (vq0_n : Int32) (vq0_length : Int32) (vq0_where : Int32) (vq0_effort : Int32) (vq0_thrown : Int32) (vq0_at : Int32) (vq0_scaled : Int32) (vq0_solved : Int32) (vq0_second : Int32) (vq0_nm : Int32) (vq0_nn : Int32) (vq0_number : UInt64) (vq0_bad : Int32) (vq0_t : Nat → UInt64) (vq0_basic : Nat → Int32) (x1 : Int32) (x5 : Int32) (x6 : UInt64) : Option ((Int32 × UInt64 × Int32) ⊕ (Int32)) :=
  s_M_leaving_J165 vq0_m vq0_n vq0_length vq0_where vq0_effort vq0_thrown vq0_at vq0_scaled vq0_solved vq0_second vq0_nm vq0_nn vq0_number vq0_bad vq0_t vq0_basic x1 x5 x6 x5
def s_M_leaving_B66 (vq0_m : Int32) (vq0_n : Int32) (vq0_length : Int32) (vq0_where : Int32) (vq0_effort : Int32) (vq0_thrown : Int32) (vq0_at : Int32) (vq0_scaled : Int32) (vq0_solved : Int32) (vq0_second : Int32) (vq0_nm : Int32) (vq0_nn : Int32) (vq0_number : UInt64) (vq0_bad : Int32) (vq0_t : Nat → UInt64) (vq0_basic : Nat → Int32) (x1 : Int32) (x2 : Int32) (x3 : UInt64) (x5 : Int32) : Option ((Int32 × UInt64 × Int32) ⊕ (Int32)) :=
  if vq0_m ≤ x5 then (some (.inr x2)) else (gd (inb ((14 * x5) + x1) 70) <| if 0 < (Op.cmpValue (FP.dcmp (vq0_t ((14 * x5) + x1).toNatClampNeg) 4472406533629990549) .g) then (gd (inb ((14 * x5) + 13) 70) <| gd (inb ((14 * x5) + x1) 70) <| gd (isn (FP.ddiv (vq0_t ((14 * x5) + 13).toNatClampNeg) (vq0_t ((14 * x5) + x1).toNatClampNeg))) <| if x2 < 0 then (s_M_leaving_J159 vq0_m vq0_n vq0_length vq0_where vq0_effort vq0_thrown vq0_at vq0_scaled vq0_solved vq0_second vq0_nm vq0_nn vq0_number vq0_bad vq0_t vq0_basic x1 x5 (FP.ddiv (vq0_t ((14 * x5) + 13).toNatClampNeg) (vq0_t ((14 * x5) + x1).toNatClampNeg))) else (if (Op.cmpValue (FP.dcmp (FP.ddiv (vq0_t ((14 * x5) + 13).toNatClampNeg) (vq0_t ((14 * x5) + x1).toNatClampNeg)) x3) .g) < 0 then (s_M_leaving_J159 vq0_m vq0_n vq0_length vq0_where vq0_effort vq0_thrown vq0_at vq0_scaled vq0_solved vq0_second vq0_nm vq0_nn vq0_number vq0_bad vq0_t vq0_basic x1 x5 (FP.ddiv (vq0_t ((14 * x5) + 13).toNatClampNeg) (vq0_t ((14 * x5) + x1).toNatClampNeg))) else (if (Op.cmpValue (FP.dcmp (FP.ddiv (vq0_t ((14 * x5) + 13).toNatClampNeg) (vq0_t ((14 * x5) + x1).toNatClampNeg)) x3) .l) = 0 then (gd (inb x5 5) <| gd (inb x2 5) <| if (vq0_basic x2.toNatClampNeg) ≤ (vq0_basic x5.toNatClampNeg) then (s_M_leaving_J165 vq0_m vq0_n vq0_length vq0_where vq0_effort vq0_thrown vq0_at vq0_scaled vq0_solved vq0_second vq0_nm vq0_nn vq0_number vq0_bad vq0_t vq0_basic x1 x2 x3 x5) else (s_M_leaving_J159 vq0_m vq0_n vq0_length vq0_where vq0_effort vq0_thrown vq0_at vq0_scaled vq0_solved vq0_second vq0_nm vq0_nn vq0_number vq0_bad vq0_t vq0_basic x1 x5 (FP.ddiv (vq0_t ((14 * x5) + 13).toNatClampNeg) (vq0_t ((14 * x5) + x1).toNatClampNeg)))) else (s_M_leaving_J165 vq0_m vq0_n vq0_length vq0_where vq0_effort vq0_thrown vq0_at vq0_scaled vq0_solved vq0_second vq0_nm vq0_nn vq0_number vq0_bad vq0_t vq0_basic x1 x2 x3 x5)))) else (s_M_leaving_J165 vq0_m vq0_n vq0_length vq0_where vq0_effort vq0_thrown vq0_at vq0_scaled vq0_solved vq0_second vq0_nm vq0_nn vq0_number vq0_bad vq0_t vq0_basic x1 x2 x3 x5))
def s_M_leaving_L66 (vq0_m : Int32) (vq0_n : Int32) (vq0_length : Int32) (vq0_where : Int32) (vq0_effort : Int32) (vq0_thrown : Int32) (vq0_at : Int32) (vq0_scaled : Int32) (vq0_solved : Int32) (vq0_second : Int32) (vq0_nm : Int32) (vq0_nn : Int32) (vq0_number : UInt64) (vq0_bad : Int32) (vq0_t : Nat → UInt64) (vq0_basic : Nat → Int32) (x1 : Int32) (x2 : Int32) (x3 : UInt64) (x5 : Int32) : Option (Int32) :=
  (loopO (fun (st : Int32 × UInt64 × Int32) => s_M_leaving_B66 vq0_m vq0_n vq0_length vq0_where vq0_effort vq0_thrown vq0_at vq0_scaled vq0_solved vq0_second vq0_nm vq0_nn vq0_number vq0_bad vq0_t vq0_basic x1 st.1 st.2.1 st.2.2) 2000 (x2, x3, x5)).bind fun ul66 => some ul66
def s_M_leaving_J61 (vq0_m : Int32) (vq0_n : Int32) (vq0_length : Int32) (vq0_where : Int32) (vq0_effort : Int32) (vq0_thrown : Int32) (vq0_at : Int32) (vq0_scaled : Int32) (vq0_solved : Int32) (vq0_second : Int32) (vq0_nm : Int32) (vq0_nn : Int32) (vq0_number : UInt64) (vq0_bad : Int32) (vq0_t : Nat → UInt64) (vq0_basic : Nat → Int32) (x1 : Int32) (x2 : Int32) : Option (Int32) :=
  s_M_leaving_L66 vq0_m vq0_n vq0_length vq0_where vq0_effort vq0_thrown vq0_at vq0_scaled vq0_solved vq0_second vq0_nm vq0_nn vq0_number vq0_bad vq0_t vq0_basic x1 x2 FP.dconst0 0
def s_M_leaving_J55 (vq0_m : Int32) (vq0_n : Int32) (vq0_length : Int32) (vq0_where : Int32) (vq0_effort : Int32) (vq0_thrown : Int32) (vq0_at : Int32) (vq0_scaled : Int32) (vq0_solved : Int32) (vq0_second : Int32) (vq0_nm : Int32) (vq0_nn : Int32) (vq0_number : UInt64) (vq0_bad : Int32) (vq0_t : Nat → UInt64) (vq0_basic : Nat → Int32) (x1 : Int32) (x2 : Int32) (x3 : Int32) : Option ((Int32) ⊕ ((Unit) ⊕ (Int32))) :=
  some (.inl (x3 + 1))
def s_M_leaving_B4 (vq0_m : Int32) (vq0_n : Int32) (vq0_length : Int32) (vq0_where : Int32) (vq0_effort : Int32) (vq0_thrown : Int32) (vq0_at : Int32) (vq0_scaled : Int32) (vq0_solved : Int32) (vq0_second : Int32) (vq0_nm : Int32) (vq0_nn : Int32) (vq0_number : UInt64) (vq0_bad : Int32) (vq0_t : Nat → UInt64) (vq0_basic : Nat → Int32) (x1 : Int32) (x2 : Int32) (x3 : Int32) : Option ((Int32) ⊕ ((Unit) ⊕ (Int32))) :=
  if vq0_m ≤ x3 then (some (.inr (.inl ()))) else (if vq0_second = 0 then (some (.inr (.inl ()))) else (gd (inb x3 5) <| if (vq0_basic x3.toNatClampNeg) < vq0_n then (s_M_leaving_J55 vq0_m vq0_n vq0_length vq0_where vq0_effort vq0_thrown vq0_at vq0_scaled vq0_solved vq0_second vq0_nm vq0_nn vq0_number vq0_bad vq0_t vq0_basic x1 x2 x3) else (gd (inb ((14 * x3) + x1) 70) <| (s_M_abs (vq0_t ((14 * x3) + x1).toNatClampNeg)).bind fun u18 => if (Op.cmpValue (FP.dcmp u18 4472406533629990549) .l) ≤ 0 then (s_M_leaving_J55 vq0_m vq0_n vq0_length vq0_where vq0_effort vq0_thrown vq0_at vq0_scaled vq0_solved vq0_second vq0_nm vq0_nn vq0_number vq0_bad vq0_t vq0_basic x1 x2 x3) else (some (.inr (.inr x3))))))
def s_M_leaving_L4 (vq0_m : Int32) (vq0_n : Int32) (vq0_length : Int32) (vq0_where : Int32) (vq0_effort : Int32) (vq0_thrown : Int32) (vq0_at : Int32) (vq0_scaled : Int32) (vq0_solved : Int32) (vq0_second : Int32) (vq0_nm : Int32) (vq0_nn : Int32) (vq0_number : UInt64) (vq0_bad : Int32) (vq0_t : Nat → UInt64) (vq0_basic : Nat → Int32) (x1 : Int32) (x2 : Int32) (x3 : Int32) : Option (Int32) :=
  (loopO (fun (st : Int32) => s_M_leaving_B4 vq0_m vq0_n vq0_length vq0_where vq0_effort vq0_thrown vq0_at vq0_scaled vq0_solved vq0_second vq0_nm vq0_nn vq0_number vq0_bad vq0_t vq0_basic x1 x2 st) 2000 x3).bind fun ul4 => Sum.elim (fun wl4 => s_M_leaving_J61 vq0_m vq0_n vq0_length vq0_where vq0_effort vq0_thrown vq0_at vq0_scaled vq0_solved vq0_second vq0_nm vq0_nn vq0_number vq0_bad vq0_t vq0_basic x1 x2) (fun wl4 => some wl4) ul4
def s_M_leaving (vq0_m : Int32) (vq0_n : Int32) (vq0_length : Int32) (vq0_where : Int32) (vq0_effort : Int32) (vq0_thrown : Int32) (vq0_at : Int32) (vq0_scaled : Int32) (vq0_solved : Int32) (vq0_second : Int32) (vq0_nm : Int32) (vq0_nn : Int32) (vq0_number : UInt64) (vq0_bad : Int32) (vq0_t : Nat → UInt64) (vq0_basic : Nat → Int32) (x1 : Int32) : Option (Int32) :=
  s_M_leaving_L4 vq0_m vq0_n vq0_length vq0_where vq0_effort vq0_thrown vq0_at vq0_scaled vq0_solved vq0_second vq0_nm vq0_nn vq0_number vq0_bad vq0_t vq0_basic x1 (-1) 0
set_option maxRecDepth 100000 in
theorem j_M_leaving_43 (T : Nat → ClassId) (q0 : Nat) (q0_a : Nat) (q0_b : Nat) (q0_c : Nat) (q0_rowScale : Nat) (q0_columnScale : Nat) (q0_sa : Nat) (q0_sb : Nat) (q0_sc : Nat) (q0_x : Nat) (q0_s : Nat) (q0_y : Nat) (q0_p : Nat) (q0_d : Nat) (q0_h : Nat) (q0_f : Nat) (q0_mm : Nat) (q0_low : Nat) (q0_dd : Nat) (q0_r : Nat) (q0_big : Nat) (q0_dt : Nat) (q0_dx : Nat) (q0_t : Nat) (q0_cost : Nat) (q0_rowScaleNow : Nat) (q0_columnScaleNow : Nat) (q0_basic : Nat) (q0_text : Nat) (q0_turned : Nat) (q0_na : Nat) (q0_nb : Nat) (q0_nc : Nat) (vq0_m : Int32) (vq0_n : Int32) (vq0_length : Int32) (vq0_where : Int32) (vq0_effort : Int32) (vq0_thrown : Int32) (vq0_at : Int32) (vq0_scaled : Int32) (vq0_solved : Int32) (vq0_second : Int32) (vq0_nm : Int32) (vq0_nn : Int32) (vq0_number : UInt64) (vq0_bad : Int32) (vq0_t : Nat → UInt64) (vq0_basic : Nat → Int32) : ([].map (fun (i : Nat) => (w_M_leaving T q0 q0_a q0_b q0_c q0_rowScale q0_columnScale q0_sa q0_sb q0_sc q0_x q0_s q0_y q0_p q0_d q0_h q0_f q0_mm q0_low q0_dd q0_r q0_big q0_dt q0_dx q0_t q0_cost q0_rowScaleNow q0_columnScaleNow q0_basic q0_text q0_turned q0_na q0_nb q0_nc vq0_m vq0_n vq0_length vq0_where vq0_effort vq0_thrown vq0_at vq0_scaled vq0_solved vq0_second vq0_nm vq0_nn vq0_number vq0_bad vq0_t vq0_basic)[i]?) = (w_M_abs T  ).map some) ∧ ([].map (fun (i : Nat) => (w_M_leaving T q0 q0_a q0_b q0_c q0_rowScale q0_columnScale q0_sa q0_sb q0_sc q0_x q0_s q0_y q0_p q0_d q0_h q0_f q0_mm q0_low q0_dd q0_r q0_big q0_dt q0_dx q0_t q0_cost q0_rowScaleNow q0_columnScaleNow q0_basic q0_text q0_turned q0_na q0_nb q0_nc vq0_m vq0_n vq0_length vq0_where vq0_effort vq0_thrown vq0_at vq0_scaled vq0_solved vq0_second vq0_nm vq0_nn vq0_number vq0_bad vq0_t vq0_basic)[i]?) = (w_M_abs T  ).map some) ∧ ([0, 1, 2].map (fun (i : Nat) => (w_M_leaving T q0 q0_a q0_b q0_c q0_rowScale q0_columnScale q0_sa q0_sb q0_sc q0_x q0_s q0_y q0_p q0_d q0_h q0_f q0_mm q0_low q0_dd q0_r q0_big q0_dt q0_dx q0_t q0_cost q0_rowScaleNow q0_columnScaleNow q0_basic q0_text q0_turned q0_na q0_nb q0_nc vq0_m vq0_n vq0_length vq0_where vq0_effort vq0_thrown vq0_at vq0_scaled vq0_solved vq0_second vq0_nm vq0_nn vq0_number vq0_bad vq0_t vq0_basic)[i]?) = [0, 1, 2].map (fun (i : Nat) => (w_M_leaving T q0 q0_a q0_b q0_c q0_rowScale q0_columnScale q0_sa q0_sb q0_sc q0_x q0_s q0_y q0_p q0_d q0_h q0_f q0_mm q0_low q0_dd q0_r q0_big q0_dt q0_dx q0_t q0_cost q0_rowScaleNow q0_columnScaleNow q0_basic q0_text q0_turned q0_na q0_nb q0_nc vq0_m vq0_n vq0_length vq0_where vq0_effort vq0_thrown vq0_at vq0_scaled vq0_solved vq0_second vq0_nm vq0_nn vq0_number vq0_bad vq0_t vq0_basic)[i]?)) ∧ (w_M_abs T  ).map Prod.fst = (w_M_abs T  ).map Prod.fst ∧ (w_M_leaving T q0 q0_a q0_b q0_c q0_rowScale q0_columnScale q0_sa q0_sb q0_sc q0_x q0_s q0_y q0_p q0_d q0_h q0_f q0_mm q0_low q0_dd q0_r q0_big q0_dt q0_dx q0_t q0_cost q0_rowScaleNow q0_columnScaleNow q0_basic q0_text q0_turned q0_na q0_nb q0_nc vq0_m vq0_n vq0_length vq0_where vq0_effort vq0_thrown vq0_at vq0_scaled vq0_solved vq0_second vq0_nm vq0_nn vq0_number vq0_bad vq0_t vq0_basic).length = 3 :=
  ⟨rfl, rfl, Eq.trans (b := ([some (q0, .inr (8, [.ref q0_a, .ref q0_b, .ref q0_c, .ref q0_rowScale, .ref q0_columnScale, .ref q0_sa, .ref q0_sb, .ref q0_sc, .ref q0_x, .ref q0_s, .ref q0_y, .ref q0_p, .ref q0_d, .ref q0_h, .ref q0_f, .ref q0_mm, .ref q0_low, .ref q0_dd, .ref q0_r, .ref q0_big, .ref q0_dt, .ref q0_dx, .ref q0_t, .ref q0_cost, .ref q0_rowScaleNow, .ref q0_columnScaleNow, .ref q0_basic, .ref q0_text, .ref q0_turned, .int vq0_m, .int vq0_n, .int vq0_length, .int vq0_where, .int vq0_effort, .int vq0_thrown, .int vq0_at, .int vq0_scaled, .int vq0_solved, .int vq0_second, .ref q0_na, .ref q0_nb, .ref q0_nc, .int vq0_nm, .int vq0_nn, .double vq0_number, .int vq0_bad])), some (q0_t, .inl (T 0, 70, .inr (.inr (.inr (.inl vq0_t))))), some (q0_basic, .inl (T 1, 5, .inl vq0_basic))] : List (Option (Nat × va_E)))) rfl rfl, rfl, rfl⟩
set_option maxHeartbeats 40000000 in
set_option maxRecDepth 100000 in
theorem c_M_leaving (l : Launch) (D : va_G) (T : Nat → ClassId) (q0 : Nat) (q0_a : Nat) (q0_b : Nat) (q0_c : Nat) (q0_rowScale : Nat) (q0_columnScale : Nat) (q0_sa : Nat) (q0_sb : Nat) (q0_sc : Nat) (q0_x : Nat) (q0_s : Nat) (q0_y : Nat) (q0_p : Nat) (q0_d : Nat) (q0_h : Nat) (q0_f : Nat) (q0_mm : Nat) (q0_low : Nat) (q0_dd : Nat) (q0_r : Nat) (q0_big : Nat) (q0_dt : Nat) (q0_dx : Nat) (q0_t : Nat) (q0_cost : Nat) (q0_rowScaleNow : Nat) (q0_columnScaleNow : Nat) (q0_basic : Nat) (q0_text : Nat) (q0_turned : Nat) (q0_na : Nat) (q0_nb : Nat) (q0_nc : Nat) (vq0_m : Int32) (vq0_n : Int32) (vq0_length : Int32) (vq0_where : Int32) (vq0_effort : Int32) (vq0_thrown : Int32) (vq0_at : Int32) (vq0_scaled : Int32) (vq0_solved : Int32) (vq0_second : Int32) (vq0_nm : Int32) (vq0_nn : Int32) (vq0_number : UInt64) (vq0_bad : Int32) (vq0_t : Nat → UInt64) (vq0_basic : Nat → Int32) (x1 : Int32) (rm : Int32) (h : s_M_leaving vq0_m vq0_n vq0_length vq0_where vq0_effort vq0_thrown vq0_at vq0_scaled vq0_solved vq0_second vq0_nm vq0_nn vq0_number vq0_bad vq0_t vq0_basic x1 = some rm) : CtI l y_M_leaving (Cond.code y_M_leaving prog_10_method_32_code 8 (some .int) :: BIG) 1 21 D T [.ref q0, .int x1] (w_M_leaving T q0 q0_a q0_b q0_c q0_rowScale q0_columnScale q0_sa q0_sb q0_sc q0_x q0_s q0_y q0_p q0_d q0_h q0_f q0_mm q0_low q0_dd q0_r q0_big q0_dt q0_dx q0_t q0_cost q0_rowScaleNow q0_columnScaleNow q0_basic q0_text q0_turned q0_na q0_nb q0_nc vq0_m vq0_n vq0_length vq0_where vq0_effort vq0_thrown vq0_at vq0_scaled vq0_solved vq0_second vq0_nm vq0_nn vq0_number vq0_bad vq0_t vq0_basic) (fun r => r) (fun r => (w_M_leaving T q0 q0_a q0_b q0_c q0_rowScale q0_columnScale q0_sa q0_sb q0_sc q0_x q0_s q0_y q0_p q0_d q0_h q0_f q0_mm q0_low q0_dd q0_r q0_big q0_dt q0_dx q0_t q0_cost q0_rowScaleNow q0_columnScaleNow q0_basic q0_text q0_turned q0_na q0_nb q0_nc vq0_m vq0_n vq0_length vq0_where vq0_effort vq0_thrown vq0_at vq0_scaled vq0_solved vq0_second vq0_nm vq0_nn vq0_number vq0_bad vq0_t vq0_basic)) rm := by
  refine cf_entry (y := y_M_leaving) (cc := prog_10_method_32_code) (nL := 8) (ret := (some .int)) (fr := 1) (lo := 21) (T := T) (av := [.ref q0, .int x1]) (w := (w_M_leaving T q0 q0_a q0_b q0_c q0_rowScale q0_columnScale q0_sa q0_sb q0_sc q0_x q0_s q0_y q0_p q0_d q0_h q0_f q0_mm q0_low q0_dd q0_r q0_big q0_dt q0_dx q0_t q0_cost q0_rowScaleNow q0_columnScaleNow q0_basic q0_text q0_turned q0_na q0_nb q0_nc vq0_m vq0_n vq0_length vq0_where vq0_effort vq0_thrown vq0_at vq0_scaled vq0_solved vq0_second vq0_nm vq0_nn vq0_number vq0_bad vq0_t vq0_basic)) (Qc := cfQi D (fun r => r) (fun r => (w_M_leaving T q0 q0_a q0_b q0_c q0_rowScale q0_columnScale q0_sa q0_sb q0_sc q0_x q0_s q0_y q0_p q0_d q0_h q0_f q0_mm q0_low q0_dd q0_r q0_big q0_dt q0_dx q0_t q0_cost q0_rowScaleNow q0_columnScaleNow q0_basic q0_text q0_turned q0_na q0_nb q0_nc vq0_m vq0_n vq0_length vq0_where vq0_effort vq0_thrown vq0_at vq0_scaled vq0_solved vq0_second vq0_nm vq0_nn vq0_number vq0_bad vq0_t vq0_basic)) rm) (by decide) rfl (Nat.le_of_ble_eq_true rfl) ?_
  intro p e s m args below meth c A Q H locs ls hx hb hr hlocks hml hown hts hNW hK hA hQ hP hD hS hl
  have hown : s.vm.findClass "ConeForgeModel" = some m.cls := hown
  have hl : lv_has ls 8 [(0, .ref q0), (1, .int x1)] := hl
  have L66 : ∀ (x1 : Int32) (x2 : Int32) (x3 : UInt64) (x5 : Int32), ∀ (H : Heap) (locs : List Loc) (ls : Array Slot), va_P D CL (w_M_leaving T q0 q0_a q0_b q0_c q0_rowScale q0_columnScale q0_sa q0_sb q0_sc q0_x q0_s q0_y q0_p q0_d q0_h q0_f q0_mm q0_low q0_dd q0_r q0_big q0_dt q0_dx q0_t q0_cost q0_rowScaleNow q0_columnScaleNow q0_basic q0_text q0_turned q0_na q0_nb q0_nc vq0_m vq0_n vq0_length vq0_where vq0_effort vq0_thrown vq0_at vq0_scaled vq0_solved vq0_second vq0_nm vq0_nn vq0_number vq0_bad vq0_t vq0_basic) H → va_D A (w_M_leaving T q0 q0_a q0_b q0_c q0_rowScale q0_columnScale q0_sa q0_sb q0_sc q0_x q0_s q0_y q0_p q0_d q0_h q0_f q0_mm q0_low q0_dd q0_r q0_big q0_dt q0_dx q0_t q0_cost q0_rowScaleNow q0_columnScaleNow q0_basic q0_text q0_turned q0_na q0_nb q0_nc vq0_m vq0_n vq0_length vq0_where vq0_effort vq0_thrown vq0_at vq0_scaled vq0_solved vq0_second vq0_nm vq0_nn vq0_number vq0_bad vq0_t vq0_basic) → va_S A s.heap H locs → lv_has ls 8 [(0, .ref q0), (1, .int x1), (2, .int x2), (3, .double x3), (5, .int x5)] → s_M_leaving_L66 vq0_m vq0_n vq0_length vq0_where vq0_effort vq0_thrown vq0_at vq0_scaled vq0_solved vq0_second vq0_nm vq0_nn vq0_number vq0_bad vq0_t vq0_basic x1 x2 x3 x5 = some rm → W p l e (rmk 1 21) s m args below meth c H locs 0 0 Q (F0 m 66 ls []) := by
    intro x1 x2 x3 x5 H locs ls hP hD hS hl h
    unfold s_M_leaving_L66 at h
    obtain ⟨ul66, hul66, h⟩ := bi_some h
    refine loopO_W (Wh := fun (st : Int32 × UInt64 × Int32) => ∀ (H : Heap) (locs : List Loc) (ls : Array Slot), va_P D CL (w_M_leaving T q0 q0_a q0_b q0_c q0_rowScale q0_columnScale q0_sa q0_sb q0_sc q0_x q0_s q0_y q0_p q0_d q0_h q0_f q0_mm q0_low q0_dd q0_r q0_big q0_dt q0_dx q0_t q0_cost q0_rowScaleNow q0_columnScaleNow q0_basic q0_text q0_turned q0_na q0_nb q0_nc vq0_m vq0_n vq0_length vq0_where vq0_effort vq0_thrown vq0_at vq0_scaled vq0_solved vq0_second vq0_nm vq0_nn vq0_number vq0_bad vq0_t vq0_basic) H → va_D A (w_M_leaving T q0 q0_a q0_b q0_c q0_rowScale q0_columnScale q0_sa q0_sb q0_sc q0_x q0_s q0_y q0_p q0_d q0_h q0_f q0_mm q0_low q0_dd q0_r q0_big q0_dt q0_dx q0_t q0_cost q0_rowScaleNow q0_columnScaleNow q0_basic q0_text q0_turned q0_na q0_nb q0_nc vq0_m vq0_n vq0_length vq0_where vq0_effort vq0_thrown vq0_at vq0_scaled vq0_solved vq0_second vq0_nm vq0_nn vq0_number vq0_bad vq0_t vq0_basic) → va_S A s.heap H locs → lv_has ls 8 [(0, .ref q0), (1, .int x1), (2, .int st.1), (3, .double st.2.1), (5, .int st.2.2)] → W p l e (rmk 1 21) s m args below meth c H locs 0 0 Q (F0 m 66 ls [])) (Wx := fun (e1 : Int32) => ∀ (H : Heap) (locs : List Loc) (ls : Array Slot), va_P D CL (w_M_leaving T q0 q0_a q0_b q0_c q0_rowScale q0_columnScale q0_sa q0_sb q0_sc q0_x q0_s q0_y q0_p q0_d q0_h q0_f q0_mm q0_low q0_dd q0_r q0_big q0_dt q0_dx q0_t q0_cost q0_rowScaleNow q0_columnScaleNow q0_basic q0_text q0_turned q0_na q0_nb q0_nc vq0_m vq0_n vq0_length vq0_where vq0_effort vq0_thrown vq0_at vq0_scaled vq0_solved vq0_second vq0_nm vq0_nn vq0_number vq0_bad vq0_t vq0_basic) H → va_D A (w_M_leaving T q0 q0_a q0_b q0_c q0_rowScale q0_columnScale q0_sa q0_sb q0_sc q0_x q0_s q0_y q0_p q0_d q0_h q0_f q0_mm q0_low q0_dd q0_r q0_big q0_dt q0_dx q0_t q0_cost q0_rowScaleNow q0_columnScaleNow q0_basic q0_text q0_turned q0_na q0_nb q0_nc vq0_m vq0_n vq0_length vq0_where vq0_effort vq0_thrown vq0_at vq0_scaled vq0_solved vq0_second vq0_nm vq0_nn vq0_number vq0_bad vq0_t vq0_basic) → va_S A s.heap H locs → lv_has ls 8 [(2, .int e1)] → W p l e (rmk 1 21) s m args below meth c H locs 0 0 Q (F0 m 171 ls [])) ?_ 2000 _ ul66 hul66 ?_ H locs ls hP hD hS hl
    · intro st rb66 h kc66 kx66 H locs ls hP hD hS hl
      obtain ⟨x2, x3, x5⟩ := st
      have h : s_M_leaving_B66 vq0_m vq0_n vq0_length vq0_where vq0_effort vq0_thrown vq0_at vq0_scaled vq0_solved vq0_second vq0_nm vq0_nn vq0_number vq0_bad vq0_t vq0_basic x1 x2 x3 x5 = some rb66 := h
      have J165 : ∀ (x2 : Int32) (x3 : UInt64) (x5 : Int32), ∀ (H : Heap) (locs : List Loc) (ls : Array Slot), va_P D CL (w_M_leaving T q0 q0_a q0_b q0_c q0_rowScale q0_columnScale q0_sa q0_sb q0_sc q0_x q0_s q0_y q0_p q0_d q0_h q0_f q0_mm q0_low q0_dd q0_r q0_big q0_dt q0_dx q0_t q0_cost q0_rowScaleNow q0_columnScaleNow q0_basic q0_text q0_turned q0_na q0_nb q0_nc vq0_m vq0_n vq0_length vq0_where vq0_effort vq0_thrown vq0_at vq0_scaled vq0_solved vq0_second vq0_nm vq0_nn vq0_number vq0_bad vq0_t vq0_basic) H → va_D A (w_M_leaving T q0 q0_a q0_b q0_c q0_rowScale q0_columnScale q0_sa q0_sb q0_sc q0_x q0_s q0_y q0_p q0_d q0_h q0_f q0_mm q0_low q0_dd q0_r q0_big q0_dt q0_dx q0_t q0_cost q0_rowScaleNow q0_columnScaleNow q0_basic q0_text q0_turned q0_na q0_nb q0_nc vq0_m vq0_n vq0_length vq0_where vq0_effort vq0_thrown vq0_at vq0_scaled vq0_solved vq0_second vq0_nm vq0_nn vq0_number vq0_bad vq0_t vq0_basic) → va_S A s.heap H locs → lv_has ls 8 [(0, .ref q0), (1, .int x1), (2, .int x2), (3, .double x3), (5, .int x5)] → s_M_leaving_J165 vq0_m vq0_n vq0_length vq0_where vq0_effort vq0_thrown vq0_at vq0_scaled vq0_solved vq0_second vq0_nm vq0_nn vq0_number vq0_bad vq0_t vq0_basic x1 x2 x3 x5 = some rb66 → W p l e (rmk 1 21) s m args below meth c H locs 0 0 Q (F0 m 165 ls []) := by
        intro x2 x3 x5 H locs ls hP hD hS hl h
        unfold s_M_leaving_J165 at h
        refine lv_iinc (v := x5 + 1) (lv' := [(5, .int (x5 + 1)), (0, .ref q0), (1, .int x1), (2, .int x2), (3, .double x3)]) hx hb d_M_leaving_165 hl (k := 4) rfl rfl (by decide) rfl (fun ls hl => ?_)
        refine lv_goto (tgt := 66) hx hb d_M_leaving_168 (by decide) ?_
        exact kc66 _ (Option.some.inj h).symm H locs ls hP hD hS (lv_sub hl [1, 2, 3, 4, 0] rfl)
      have J159 : ∀ (x5 : Int32) (x6 : UInt64), ∀ (H : Heap) (locs : List Loc) (ls : Array Slot), va_P D CL (w_M_leaving T q0 q0_a q0_b q0_c q0_rowScale q0_columnScale q0_sa q0_sb q0_sc q0_x q0_s q0_y q0_p q0_d q0_h q0_f q0_mm q0_low q0_dd q0_r q0_big q0_dt q0_dx q0_t q0_cost q0_rowScaleNow q0_columnScaleNow q0_basic q0_text q0_turned q0_na q0_nb q0_nc vq0_m vq0_n vq0_length vq0_where vq0_effort vq0_thrown vq0_at vq0_scaled vq0_solved vq0_second vq0_nm vq0_nn vq0_number vq0_bad vq0_t vq0_basic) H → va_D A (w_M_leaving T q0 q0_a q0_b q0_c q0_rowScale q0_columnScale q0_sa q0_sb q0_sc q0_x q0_s q0_y q0_p q0_d q0_h q0_f q0_mm q0_low q0_dd q0_r q0_big q0_dt q0_dx q0_t q0_cost q0_rowScaleNow q0_columnScaleNow q0_basic q0_text q0_turned q0_na q0_nb q0_nc vq0_m vq0_n vq0_length vq0_where vq0_effort vq0_thrown vq0_at vq0_scaled vq0_solved vq0_second vq0_nm vq0_nn vq0_number vq0_bad vq0_t vq0_basic) → va_S A s.heap H locs → lv_has ls 8 [(0, .ref q0), (1, .int x1), (5, .int x5), (6, .double x6)] → s_M_leaving_J159 vq0_m vq0_n vq0_length vq0_where vq0_effort vq0_thrown vq0_at vq0_scaled vq0_solved vq0_second vq0_nm vq0_nn vq0_number vq0_bad vq0_t vq0_basic x1 x5 x6 = some rb66 → W p l e (rmk 1 21) s m args below meth c H locs 0 0 Q (F0 m 159 ls []) := by
        intro x5 x6 H locs ls hP hD hS hl h
        unfold s_M_leaving_J159 at h
        refine lv_iload hx hb d_M_leaving_159 (lv_at hl 2 rfl) ?_
        refine lv_istore_n (lv' := [(2, .int x5), (0, .ref q0), (1, .int x1), (5, .int x5), (6, .double x6)]) hx hb d_M_leaving_161 rfl hl (by decide) rfl (fun ls hl => ?_)
        refine lv_dload hx hb d_M_leaving_162 (lv_at hl 4 rfl) ?_
        refine lv_dstore_n (lv' := [(3, .double x6), (2, .int x5), (0, .ref q0), (1, .int x1), (5, .int x5), (6, .double x6)]) hx hb d_M_leaving_164 rfl hl (by decide) rfl (fun ls hl => ?_)
        exact J165 x5 x6 x5 H locs ls hP hD hS (lv_sub hl [2, 3, 1, 0, 4] rfl) h
      unfold s_M_leaving_B66 at h
      refine lv_iload hx hb d_M_leaving_66 (lv_at hl 4 rfl) ?_
      refine lv_aload_n hx hb d_M_leaving_68 rfl (lv_at hl 0 rfl) ?_
      refine va_get (D := D) (ci := 8) (v := .int vq0_m) (C := "ConeForgeModel") (T := FM) (N := 46) hx hb hts iM hown hK hP 0 rfl rfl 29 (by decide) (hts _ (bgc bw713)) (fun _ h9 => h9) rfl d_M_leaving_69 ?_
      refine lv_icmp_ge (tgt := 171) hx hb d_M_leaving_72 (by decide) (fun c1 => ?_) (fun c1 => ?_)
      · have h := it_t c1 h
        exact kx66 _ (Option.some.inj h).symm H locs ls hP hD hS (lv_sub hl [2] rfl)
      · have h := it_f c1 h
        refine lv_aload_n hx hb d_M_leaving_75 rfl (lv_at hl 0 rfl) ?_
        refine va_get (D := D) (ci := 8) (v := .ref q0_t) (C := "ConeForgeModel") (T := FM) (N := 46) hx hb hts iM hown hK hP 0 rfl rfl 22 (by decide) (hts _ (bgc bw706)) (fun _ h9 => h9) rfl d_M_leaving_76 ?_
        refine lv_bipush (v := 14) hx hb d_M_leaving_79 (by decide) ?_
        refine lv_iload hx hb d_M_leaving_81 (lv_at hl 4 rfl) ?_
        refine lv_imul hx hb d_M_leaving_83 ?_
        refine lv_iload_n hx hb d_M_leaving_84 rfl (lv_at hl 1 rfl) ?_
        refine lv_iadd hx hb d_M_leaving_85 ?_
        obtain ⟨g2, h⟩ := gd_some h
        refine va_dald hx hb hK hP 1 0 rfl rfl (inb_in g2) d_M_leaving_86 ?_
        refine lv_ldc2d (v := 4472406533629990549) hx hb hown (hts _ (bgc bw908)) d_M_leaving_87 ?_
        refine lv_dcmp hx hb d_M_leaving_90 ?_
        refine lv_if_gt (tgt := 97) hx hb d_M_leaving_91 (by decide) (fun c3 => ?_) (fun c3 => ?_)
        · have h := it_t c3 h
          refine lv_aload_n hx hb d_M_leaving_97 rfl (lv_at hl 0 rfl) ?_
          refine va_get (D := D) (ci := 8) (v := .ref q0_t) (C := "ConeForgeModel") (T := FM) (N := 46) hx hb hts iM hown hK hP 0 rfl rfl 22 (by decide) (hts _ (bgc bw706)) (fun _ h9 => h9) rfl d_M_leaving_98 ?_
          refine lv_bipush (v := 14) hx hb d_M_leaving_101 (by decide) ?_
          refine lv_iload hx hb d_M_leaving_103 (lv_at hl 4 rfl) ?_
          refine lv_imul hx hb d_M_leaving_105 ?_
          refine lv_bipush (v := 13) hx hb d_M_leaving_106 (by decide) ?_
          refine lv_iadd hx hb d_M_leaving_108 ?_
          obtain ⟨g4, h⟩ := gd_some h
          refine va_dald hx hb hK hP 1 0 rfl rfl (inb_in g4) d_M_leaving_109 ?_
          refine lv_aload_n hx hb d_M_leaving_110 rfl (lv_at hl 0 rfl) ?_
          refine va_get (D := D) (ci := 8) (v := .ref q0_t) (C := "ConeForgeModel") (T := FM) (N := 46) hx hb hts iM hown hK hP 0 rfl rfl 22 (by decide) (hts _ (bgc bw706)) (fun _ h9 => h9) rfl d_M_leaving_111 ?_
          refine lv_bipush (v := 14) hx hb d_M_leaving_114 (by decide) ?_
          refine lv_iload hx hb d_M_leaving_116 (lv_at hl 4 rfl) ?_
          refine lv_imul hx hb d_M_leaving_118 ?_
          refine lv_iload_n hx hb d_M_leaving_119 rfl (lv_at hl 1 rfl) ?_
          refine lv_iadd hx hb d_M_leaving_120 ?_
          obtain ⟨g5, h⟩ := gd_some h
          refine va_dald hx hb hK hP 1 0 rfl rfl (inb_in g5) d_M_leaving_121 ?_
          obtain ⟨g6, h⟩ := gd_some h
          refine lv_ddiv hx hb d_M_leaving_122 (isn_n g6) ?_
          refine lv_dstore (lv' := [(6, .double (FP.ddiv (vq0_t ((14 * x5) + 13).toNatClampNeg) (vq0_t ((14 * x5) + x1).toNatClampNeg))), (0, .ref q0), (1, .int x1), (2, .int x2), (3, .double x3), (5, .int x5)]) hx hb d_M_leaving_123 hl (by decide) rfl (fun ls hl => ?_)
          refine lv_iload_n hx hb d_M_leaving_125 rfl (lv_at hl 3 rfl) ?_
          refine lv_if_lt (tgt := 159) hx hb d_M_leaving_126 (by decide) (fun c7 => ?_) (fun c7 => ?_)
          · have h := it_t c7 h
            exact J159 x5 (FP.ddiv (vq0_t ((14 * x5) + 13).toNatClampNeg) (vq0_t ((14 * x5) + x1).toNatClampNeg)) H locs ls hP hD hS (lv_sub hl [1, 2, 5, 0] rfl) h
          · have h := it_f c7 h
            refine lv_dload hx hb d_M_leaving_129 (lv_at hl 0 rfl) ?_
            refine lv_dload_n hx hb d_M_leaving_131 rfl (lv_at hl 4 rfl) ?_
            refine lv_dcmp hx hb d_M_leaving_132 ?_
            refine lv_if_lt (tgt := 159) hx hb d_M_leaving_133 (by decide) (fun c8 => ?_) (fun c8 => ?_)
            · have h := it_t c8 h
              exact J159 x5 (FP.ddiv (vq0_t ((14 * x5) + 13).toNatClampNeg) (vq0_t ((14 * x5) + x1).toNatClampNeg)) H locs ls hP hD hS (lv_sub hl [1, 2, 5, 0] rfl) h
            · have h := it_f c8 h
              refine lv_dload hx hb d_M_leaving_136 (lv_at hl 0 rfl) ?_
              refine lv_dload_n hx hb d_M_leaving_138 rfl (lv_at hl 4 rfl) ?_
              refine lv_dcmp hx hb d_M_leaving_139 ?_
              refine lv_if_ne (tgt := 165) hx hb d_M_leaving_140 (by decide) (fun c9 => ?_) (fun c9 => ?_)
              · have h := it_f c9 h
                exact J165 x2 x3 x5 H locs ls hP hD hS (lv_sub hl [1, 2, 3, 4, 5] rfl) h
              · have h := it_t c9 h
                refine lv_aload_n hx hb d_M_leaving_143 rfl (lv_at hl 1 rfl) ?_
                refine va_get (D := D) (ci := 8) (v := .ref q0_basic) (C := "ConeForgeModel") (T := FM) (N := 46) hx hb hts iM hown hK hP 0 rfl rfl 26 (by decide) (hts _ (bgc bw710)) (fun _ h9 => h9) rfl d_M_leaving_144 ?_
                refine lv_iload hx hb d_M_leaving_147 (lv_at hl 5 rfl) ?_
                obtain ⟨g10, h⟩ := gd_some h
                refine va_iald hx hb hK hP 2 1 rfl rfl (inb_in g10) d_M_leaving_149 ?_
                refine lv_aload_n hx hb d_M_leaving_150 rfl (lv_at hl 1 rfl) ?_
                refine va_get (D := D) (ci := 8) (v := .ref q0_basic) (C := "ConeForgeModel") (T := FM) (N := 46) hx hb hts iM hown hK hP 0 rfl rfl 26 (by decide) (hts _ (bgc bw710)) (fun _ h9 => h9) rfl d_M_leaving_151 ?_
                refine lv_iload_n hx hb d_M_leaving_154 rfl (lv_at hl 3 rfl) ?_
                obtain ⟨g11, h⟩ := gd_some h
                refine va_iald hx hb hK hP 2 1 rfl rfl (inb_in g11) d_M_leaving_155 ?_
                refine lv_icmp_ge (tgt := 165) hx hb d_M_leaving_156 (by decide) (fun c12 => ?_) (fun c12 => ?_)
                · have h := it_t c12 h
                  exact J165 x2 x3 x5 H locs ls hP hD hS (lv_sub hl [1, 2, 3, 4, 5] rfl) h
                · have h := it_f c12 h
                  exact J159 x5 (FP.ddiv (vq0_t ((14 * x5) + 13).toNatClampNeg) (vq0_t ((14 * x5) + x1).toNatClampNeg)) H locs ls hP hD hS (lv_sub hl [1, 2, 5, 0] rfl) h
        · have h := it_f c3 h
          refine lv_goto (tgt := 165) hx hb d_M_leaving_94 (by decide) ?_
          exact J165 x2 x3 x5 H locs ls hP hD hS (lv_sub hl [0, 1, 2, 3, 4] rfl) h
    · intro H locs ls hP hD hS hl
      refine lv_iload_n hx hb d_M_leaving_171 rfl (lv_at hl 0 rfl) ?_
      exact rtI hx hb hr hlocks hQ (Option.some.inj h) hP hS d_M_leaving_172 rfl rfl
  have J61 : ∀ (x1 : Int32) (x2 : Int32), ∀ (H : Heap) (locs : List Loc) (ls : Array Slot), va_P D CL (w_M_leaving T q0 q0_a q0_b q0_c q0_rowScale q0_columnScale q0_sa q0_sb q0_sc q0_x q0_s q0_y q0_p q0_d q0_h q0_f q0_mm q0_low q0_dd q0_r q0_big q0_dt q0_dx q0_t q0_cost q0_rowScaleNow q0_columnScaleNow q0_basic q0_text q0_turned q0_na q0_nb q0_nc vq0_m vq0_n vq0_length vq0_where vq0_effort vq0_thrown vq0_at vq0_scaled vq0_solved vq0_second vq0_nm vq0_nn vq0_number vq0_bad vq0_t vq0_basic) H → va_D A (w_M_leaving T q0 q0_a q0_b q0_c q0_rowScale q0_columnScale q0_sa q0_sb q0_sc q0_x q0_s q0_y q0_p q0_d q0_h q0_f q0_mm q0_low q0_dd q0_r q0_big q0_dt q0_dx q0_t q0_cost q0_rowScaleNow q0_columnScaleNow q0_basic q0_text q0_turned q0_na q0_nb q0_nc vq0_m vq0_n vq0_length vq0_where vq0_effort vq0_thrown vq0_at vq0_scaled vq0_solved vq0_second vq0_nm vq0_nn vq0_number vq0_bad vq0_t vq0_basic) → va_S A s.heap H locs → lv_has ls 8 [(0, .ref q0), (1, .int x1), (2, .int x2)] → s_M_leaving_J61 vq0_m vq0_n vq0_length vq0_where vq0_effort vq0_thrown vq0_at vq0_scaled vq0_solved vq0_second vq0_nm vq0_nn vq0_number vq0_bad vq0_t vq0_basic x1 x2 = some rm → W p l e (rmk 1 21) s m args below meth c H locs 0 0 Q (F0 m 61 ls []) := by
    intro x1 x2 H locs ls hP hD hS hl h
    unfold s_M_leaving_J61 at h
    refine lv_dconst0 hx hb d_M_leaving_61 ?_
    refine lv_dstore_n (lv' := [(3, .double FP.dconst0), (0, .ref q0), (1, .int x1), (2, .int x2)]) hx hb d_M_leaving_62 rfl hl (by decide) rfl (fun ls hl => ?_)
    refine lv_iconst (v := 0) hx hb d_M_leaving_63 (by decide) ?_
    refine lv_istore (lv' := [(5, .int 0), (3, .double FP.dconst0), (0, .ref q0), (1, .int x1), (2, .int x2)]) hx hb d_M_leaving_64 hl (by decide) rfl (fun ls hl => ?_)
    exact L66 x1 x2 FP.dconst0 0 H locs ls hP hD hS (lv_sub hl [2, 3, 4, 1, 0] rfl) h
  have L4 : ∀ (x1 : Int32) (x2 : Int32) (x3 : Int32), ∀ (H : Heap) (locs : List Loc) (ls : Array Slot), va_P D CL (w_M_leaving T q0 q0_a q0_b q0_c q0_rowScale q0_columnScale q0_sa q0_sb q0_sc q0_x q0_s q0_y q0_p q0_d q0_h q0_f q0_mm q0_low q0_dd q0_r q0_big q0_dt q0_dx q0_t q0_cost q0_rowScaleNow q0_columnScaleNow q0_basic q0_text q0_turned q0_na q0_nb q0_nc vq0_m vq0_n vq0_length vq0_where vq0_effort vq0_thrown vq0_at vq0_scaled vq0_solved vq0_second vq0_nm vq0_nn vq0_number vq0_bad vq0_t vq0_basic) H → va_D A (w_M_leaving T q0 q0_a q0_b q0_c q0_rowScale q0_columnScale q0_sa q0_sb q0_sc q0_x q0_s q0_y q0_p q0_d q0_h q0_f q0_mm q0_low q0_dd q0_r q0_big q0_dt q0_dx q0_t q0_cost q0_rowScaleNow q0_columnScaleNow q0_basic q0_text q0_turned q0_na q0_nb q0_nc vq0_m vq0_n vq0_length vq0_where vq0_effort vq0_thrown vq0_at vq0_scaled vq0_solved vq0_second vq0_nm vq0_nn vq0_number vq0_bad vq0_t vq0_basic) → va_S A s.heap H locs → lv_has ls 8 [(0, .ref q0), (1, .int x1), (2, .int x2), (3, .int x3)] → s_M_leaving_L4 vq0_m vq0_n vq0_length vq0_where vq0_effort vq0_thrown vq0_at vq0_scaled vq0_solved vq0_second vq0_nm vq0_nn vq0_number vq0_bad vq0_t vq0_basic x1 x2 x3 = some rm → W p l e (rmk 1 21) s m args below meth c H locs 0 0 Q (F0 m 4 ls []) := by
    intro x1 x2 x3 H locs ls hP hD hS hl h
    unfold s_M_leaving_L4 at h
    obtain ⟨ul4, hul4, h⟩ := bi_some h
    refine loopO_W (Wh := fun (st : Int32) => ∀ (H : Heap) (locs : List Loc) (ls : Array Slot), va_P D CL (w_M_leaving T q0 q0_a q0_b q0_c q0_rowScale q0_columnScale q0_sa q0_sb q0_sc q0_x q0_s q0_y q0_p q0_d q0_h q0_f q0_mm q0_low q0_dd q0_r q0_big q0_dt q0_dx q0_t q0_cost q0_rowScaleNow q0_columnScaleNow q0_basic q0_text q0_turned q0_na q0_nb q0_nc vq0_m vq0_n vq0_length vq0_where vq0_effort vq0_thrown vq0_at vq0_scaled vq0_solved vq0_second vq0_nm vq0_nn vq0_number vq0_bad vq0_t vq0_basic) H → va_D A (w_M_leaving T q0 q0_a q0_b q0_c q0_rowScale q0_columnScale q0_sa q0_sb q0_sc q0_x q0_s q0_y q0_p q0_d q0_h q0_f q0_mm q0_low q0_dd q0_r q0_big q0_dt q0_dx q0_t q0_cost q0_rowScaleNow q0_columnScaleNow q0_basic q0_text q0_turned q0_na q0_nb q0_nc vq0_m vq0_n vq0_length vq0_where vq0_effort vq0_thrown vq0_at vq0_scaled vq0_solved vq0_second vq0_nm vq0_nn vq0_number vq0_bad vq0_t vq0_basic) → va_S A s.heap H locs → lv_has ls 8 [(0, .ref q0), (1, .int x1), (2, .int x2), (3, .int st)] → W p l e (rmk 1 21) s m args below meth c H locs 0 0 Q (F0 m 4 ls [])) (Wx := fun (e0 : (Unit) ⊕ (Int32)) => Sum.elim (fun (e1 : Unit) => ∀ (H : Heap) (locs : List Loc) (ls : Array Slot), va_P D CL (w_M_leaving T q0 q0_a q0_b q0_c q0_rowScale q0_columnScale q0_sa q0_sb q0_sc q0_x q0_s q0_y q0_p q0_d q0_h q0_f q0_mm q0_low q0_dd q0_r q0_big q0_dt q0_dx q0_t q0_cost q0_rowScaleNow q0_columnScaleNow q0_basic q0_text q0_turned q0_na q0_nb q0_nc vq0_m vq0_n vq0_length vq0_where vq0_effort vq0_thrown vq0_at vq0_scaled vq0_solved vq0_second vq0_nm vq0_nn vq0_number vq0_bad vq0_t vq0_basic) H → va_D A (w_M_leaving T q0 q0_a q0_b q0_c q0_rowScale q0_columnScale q0_sa q0_sb q0_sc q0_x q0_s q0_y q0_p q0_d q0_h q0_f q0_mm q0_low q0_dd q0_r q0_big q0_dt q0_dx q0_t q0_cost q0_rowScaleNow q0_columnScaleNow q0_basic q0_text q0_turned q0_na q0_nb q0_nc vq0_m vq0_n vq0_length vq0_where vq0_effort vq0_thrown vq0_at vq0_scaled vq0_solved vq0_second vq0_nm vq0_nn vq0_number vq0_bad vq0_t vq0_basic) → va_S A s.heap H locs → lv_has ls 8 [(0, .ref q0), (1, .int x1), (2, .int x2)] → W p l e (rmk 1 21) s m args below meth c H locs 0 0 Q (F0 m 61 ls [])) (fun e2 => e2 = rm) e0) ?_ 2000 _ ul4 hul4 ?_ H locs ls hP hD hS hl
    · intro st rb4 h kc4 kx4 H locs ls hP hD hS hl
      obtain ⟨x3, rfl⟩ : ∃ z, z = st := ⟨_, rfl⟩
      have h : s_M_leaving_B4 vq0_m vq0_n vq0_length vq0_where vq0_effort vq0_thrown vq0_at vq0_scaled vq0_solved vq0_second vq0_nm vq0_nn vq0_number vq0_bad vq0_t vq0_basic x1 x2 x3 = some rb4 := h
      have J55 : ∀ (x3 : Int32), ∀ (H : Heap) (locs : List Loc) (ls : Array Slot), va_P D CL (w_M_leaving T q0 q0_a q0_b q0_c q0_rowScale q0_columnScale q0_sa q0_sb q0_sc q0_x q0_s q0_y q0_p q0_d q0_h q0_f q0_mm q0_low q0_dd q0_r q0_big q0_dt q0_dx q0_t q0_cost q0_rowScaleNow q0_columnScaleNow q0_basic q0_text q0_turned q0_na q0_nb q0_nc vq0_m vq0_n vq0_length vq0_where vq0_effort vq0_thrown vq0_at vq0_scaled vq0_solved vq0_second vq0_nm vq0_nn vq0_number vq0_bad vq0_t vq0_basic) H → va_D A (w_M_leaving T q0 q0_a q0_b q0_c q0_rowScale q0_columnScale q0_sa q0_sb q0_sc q0_x q0_s q0_y q0_p q0_d q0_h q0_f q0_mm q0_low q0_dd q0_r q0_big q0_dt q0_dx q0_t q0_cost q0_rowScaleNow q0_columnScaleNow q0_basic q0_text q0_turned q0_na q0_nb q0_nc vq0_m vq0_n vq0_length vq0_where vq0_effort vq0_thrown vq0_at vq0_scaled vq0_solved vq0_second vq0_nm vq0_nn vq0_number vq0_bad vq0_t vq0_basic) → va_S A s.heap H locs → lv_has ls 8 [(0, .ref q0), (1, .int x1), (2, .int x2), (3, .int x3)] → s_M_leaving_J55 vq0_m vq0_n vq0_length vq0_where vq0_effort vq0_thrown vq0_at vq0_scaled vq0_solved vq0_second vq0_nm vq0_nn vq0_number vq0_bad vq0_t vq0_basic x1 x2 x3 = some rb4 → W p l e (rmk 1 21) s m args below meth c H locs 0 0 Q (F0 m 55 ls []) := by
        intro x3 H locs ls hP hD hS hl h
        unfold s_M_leaving_J55 at h
        refine lv_iinc (v := x3 + 1) (lv' := [(3, .int (x3 + 1)), (0, .ref q0), (1, .int x1), (2, .int x2)]) hx hb d_M_leaving_55 hl (k := 3) rfl rfl (by decide) rfl (fun ls hl => ?_)
        refine lv_goto (tgt := 4) hx hb d_M_leaving_58 (by decide) ?_
        exact kc4 _ (Option.some.inj h).symm H locs ls hP hD hS (lv_sub hl [1, 2, 3, 0] rfl)
      unfold s_M_leaving_B4 at h
      refine lv_iload_n hx hb d_M_leaving_4 rfl (lv_at hl 3 rfl) ?_
      refine lv_aload_n hx hb d_M_leaving_5 rfl (lv_at hl 0 rfl) ?_
      refine va_get (D := D) (ci := 8) (v := .int vq0_m) (C := "ConeForgeModel") (T := FM) (N := 46) hx hb hts iM hown hK hP 0 rfl rfl 29 (by decide) (hts _ (bgc bw713)) (fun _ h9 => h9) rfl d_M_leaving_6 ?_
      refine lv_icmp_ge (tgt := 61) hx hb d_M_leaving_9 (by decide) (fun c13 => ?_) (fun c13 => ?_)
      · have h := it_t c13 h
        exact kx4 _ (Option.some.inj h).symm H locs ls hP hD hS (lv_sub hl [0, 1, 2] rfl)
      · have h := it_f c13 h
        refine lv_aload_n hx hb d_M_leaving_12 rfl (lv_at hl 0 rfl) ?_
        refine va_get (D := D) (ci := 8) (v := .int vq0_second) (C := "ConeForgeModel") (T := FM) (N := 46) hx hb hts iM hown hK hP 0 rfl rfl 38 (by decide) (hts _ (bgc bw722)) (fun _ h9 => h9) rfl d_M_leaving_13 ?_
        refine lv_if_eq (tgt := 61) hx hb d_M_leaving_16 (by decide) (fun c14 => ?_) (fun c14 => ?_)
        · have h := it_t c14 h
          exact kx4 _ (Option.some.inj h).symm H locs ls hP hD hS (lv_sub hl [0, 1, 2] rfl)
        · have h := it_f c14 h
          refine lv_aload_n hx hb d_M_leaving_19 rfl (lv_at hl 0 rfl) ?_
          refine va_get (D := D) (ci := 8) (v := .ref q0_basic) (C := "ConeForgeModel") (T := FM) (N := 46) hx hb hts iM hown hK hP 0 rfl rfl 26 (by decide) (hts _ (bgc bw710)) (fun _ h9 => h9) rfl d_M_leaving_20 ?_
          refine lv_iload_n hx hb d_M_leaving_23 rfl (lv_at hl 3 rfl) ?_
          obtain ⟨g15, h⟩ := gd_some h
          refine va_iald hx hb hK hP 2 1 rfl rfl (inb_in g15) d_M_leaving_24 ?_
          refine lv_aload_n hx hb d_M_leaving_25 rfl (lv_at hl 0 rfl) ?_
          refine va_get (D := D) (ci := 8) (v := .int vq0_n) (C := "ConeForgeModel") (T := FM) (N := 46) hx hb hts iM hown hK hP 0 rfl rfl 30 (by decide) (hts _ (bgc bw714)) (fun _ h9 => h9) rfl d_M_leaving_26 ?_
          refine lv_icmp_lt (tgt := 55) hx hb d_M_leaving_29 (by decide) (fun c16 => ?_) (fun c16 => ?_)
          · have h := it_t c16 h
            exact J55 x3 H locs ls hP hD hS (lv_sub hl [0, 1, 2, 3] rfl) h
          · have h := it_f c16 h
            refine lv_aload_n hx hb d_M_leaving_32 rfl (lv_at hl 0 rfl) ?_
            refine va_get (D := D) (ci := 8) (v := .ref q0_t) (C := "ConeForgeModel") (T := FM) (N := 46) hx hb hts iM hown hK hP 0 rfl rfl 22 (by decide) (hts _ (bgc bw706)) (fun _ h9 => h9) rfl d_M_leaving_33 ?_
            refine lv_bipush (v := 14) hx hb d_M_leaving_36 (by decide) ?_
            refine lv_iload_n hx hb d_M_leaving_38 rfl (lv_at hl 3 rfl) ?_
            refine lv_imul hx hb d_M_leaving_39 ?_
            refine lv_iload_n hx hb d_M_leaving_40 rfl (lv_at hl 1 rfl) ?_
            refine lv_iadd hx hb d_M_leaving_41 ?_
            obtain ⟨g17, h⟩ := gd_some h
            refine va_dald hx hb hK hP 1 0 rfl rfl (inb_in g17) d_M_leaving_42 ?_
            obtain ⟨u18, hu18, h⟩ := bi_some h
            have jj19 := j_M_leaving_43 T q0 q0_a q0_b q0_c q0_rowScale q0_columnScale q0_sa q0_sb q0_sc q0_x q0_s q0_y q0_p q0_d q0_h q0_f q0_mm q0_low q0_dd q0_r q0_big q0_dt q0_dx q0_t q0_cost q0_rowScaleNow q0_columnScaleNow q0_basic q0_text q0_turned q0_na q0_nb q0_nc vq0_m vq0_n vq0_length vq0_where vq0_effort vq0_thrown vq0_at vq0_scaled vq0_solved vq0_second vq0_nm vq0_nn vq0_number vq0_bad vq0_t vq0_basic
            refine kD2 (v := u18) (wc := (w_M_abs T  )) (wc' := (w_M_abs T  )) (w_M_leaving T q0 q0_a q0_b q0_c q0_rowScale q0_columnScale q0_sa q0_sb q0_sc q0_x q0_s q0_y q0_p q0_d q0_h q0_f q0_mm q0_low q0_dd q0_r q0_big q0_dt q0_dx q0_t q0_cost q0_rowScaleNow q0_columnScaleNow q0_basic q0_text q0_turned q0_na q0_nb q0_nc vq0_m vq0_n vq0_length vq0_where vq0_effort vq0_thrown vq0_at vq0_scaled vq0_solved vq0_second vq0_nm vq0_nn vq0_number vq0_bad vq0_t vq0_basic) (runOS (As := [.double (vq0_t ((14 * x3) + x1).toNatClampNeg)]) (rest := []) ((c_M_abs l D T   (vq0_t ((14 * x3) + x1).toNatClampNeg) u18 hu18) H.size) ⟨hx, hb, hml, hown, hts⟩ (cwOS bw844 bw845 bw105 bw846 dd_M_abs hts ⟨Nat.le_of_ble_eq_true rfl, Nat.le_of_ble_eq_true rfl⟩)  hNW hK hP hD [] jj19.1 (by decide) rfl hl.1 rfl (lv_room (Nat.le_of_ble_eq_true rfl)) d_M_leaving_43 ⟨Nat.le_of_ble_eq_true rfl, Nat.le_of_ble_eq_true rfl⟩) hP hD hS hA [] [0, 1, 2] jj19.1 jj19.2.1 jj19.2.2.1 (N := 3) jj19.2.2.2.2 (by decide) jj19.2.2.2.1 (fun H locs hP hD hS => ?_)
            refine lv_ldc2d (v := 4472406533629990549) hx hb hown (hts _ (bgc bw908)) d_M_leaving_46 ?_
            refine lv_dcmp hx hb d_M_leaving_49 ?_
            refine lv_if_le (tgt := 55) hx hb d_M_leaving_50 (by decide) (fun c20 => ?_) (fun c20 => ?_)
            · have h := it_t c20 h
              exact J55 x3 H locs ls hP hD hS (lv_sub hl [0, 1, 2, 3] rfl) h
            · have h := it_f c20 h
              refine lv_iload_n hx hb d_M_leaving_53 rfl (lv_at hl 3 rfl) ?_
              exact rtI hx hb hr hlocks hQ (kx4 _ (Option.some.inj h).symm) hP hS d_M_leaving_54 rfl rfl
    · cases ul4 with
      | inl wl4 =>
        intro H locs ls hP hD hS hl
        exact J61 x1 x2 H locs ls hP hD hS (lv_sub hl [0, 1, 2] rfl) h
      | inr wl4 => exact Option.some.inj h
  unfold s_M_leaving at h
  refine lv_iconst (v := (-1)) hx hb d_M_leaving_0 (by decide) ?_
  refine lv_istore_n (lv' := [(2, .int (-1)), (0, .ref q0), (1, .int x1)]) hx hb d_M_leaving_1 rfl hl (by decide) rfl (fun ls hl => ?_)
  refine lv_iconst (v := 0) hx hb d_M_leaving_2 (by decide) ?_
  refine lv_istore_n (lv' := [(3, .int 0), (2, .int (-1)), (0, .ref q0), (1, .int x1)]) hx hb d_M_leaving_3 rfl hl (by decide) rfl (fun ls hl => ?_)
  exact L4 x1 (-1) 0 H locs ls hP hD hS (lv_sub hl [2, 3, 1, 0] rfl) h
theorem d_M_isUsed_0 : decode prog_10_method_33_code 0 = .ok (.iload_n 1, 1) := by decide +kernel
theorem d_M_isUsed_1 : decode prog_10_method_33_code 1 = .ok (.aload_n 0, 1) := by decide +kernel
theorem d_M_isUsed_2 : decode prog_10_method_33_code 2 = .ok (.getfield 103, 3) := by decide +kernel
theorem d_M_isUsed_5 : decode prog_10_method_33_code 5 = .ok (.aload_n 0, 1) := by decide +kernel
theorem d_M_isUsed_6 : decode prog_10_method_33_code 6 = .ok (.getfield 99, 3) := by decide +kernel
theorem d_M_isUsed_9 : decode prog_10_method_33_code 9 = .ok (.iadd, 1) := by decide +kernel
theorem d_M_isUsed_10 : decode prog_10_method_33_code 10 = .ok (.if_icmp .lt 9, 3) := by decide +kernel
theorem d_M_isUsed_13 : decode prog_10_method_33_code 13 = .ok (.iload_n 1, 1) := by decide +kernel
theorem d_M_isUsed_14 : decode prog_10_method_33_code 14 = .ok (.bipush 13, 2) := by decide +kernel
theorem d_M_isUsed_16 : decode prog_10_method_33_code 16 = .ok (.if_icmp .ne 7, 3) := by decide +kernel
theorem d_M_isUsed_19 : decode prog_10_method_33_code 19 = .ok (.iconst 1, 1) := by decide +kernel
theorem d_M_isUsed_20 : decode prog_10_method_33_code 20 = .ok (.goto 4, 3) := by decide +kernel
theorem d_M_isUsed_23 : decode prog_10_method_33_code 23 = .ok (.iconst 0, 1) := by decide +kernel
theorem d_M_isUsed_24 : decode prog_10_method_33_code 24 = .ok (.ireturn, 1) := by decide +kernel
abbrev w_M_isUsed (T : Nat → ClassId) (q0 : Nat) (q0_a : Nat) (q0_b : Nat) (q0_c : Nat) (q0_rowScale : Nat) (q0_columnScale : Nat) (q0_sa : Nat) (q0_sb : Nat) (q0_sc : Nat) (q0_x : Nat) (q0_s : Nat) (q0_y : Nat) (q0_p : Nat) (q0_d : Nat) (q0_h : Nat) (q0_f : Nat) (q0_mm : Nat) (q0_low : Nat) (q0_dd : Nat) (q0_r : Nat) (q0_big : Nat) (q0_dt : Nat) (q0_dx : Nat) (q0_t : Nat) (q0_cost : Nat) (q0_rowScaleNow : Nat) (q0_columnScaleNow : Nat) (q0_basic : Nat) (q0_text : Nat) (q0_turned : Nat) (q0_na : Nat) (q0_nb : Nat) (q0_nc : Nat) (vq0_m : Int32) (vq0_n : Int32) (vq0_length : Int32) (vq0_where : Int32) (vq0_effort : Int32) (vq0_thrown : Int32) (vq0_at : Int32) (vq0_scaled : Int32) (vq0_solved : Int32) (vq0_second : Int32) (vq0_nm : Int32) (vq0_nn : Int32) (vq0_number : UInt64) (vq0_bad : Int32) : va_W := [(q0, .inr (8, [.ref q0_a, .ref q0_b, .ref q0_c, .ref q0_rowScale, .ref q0_columnScale, .ref q0_sa, .ref q0_sb, .ref q0_sc, .ref q0_x, .ref q0_s, .ref q0_y, .ref q0_p, .ref q0_d, .ref q0_h, .ref q0_f, .ref q0_mm, .ref q0_low, .ref q0_dd, .ref q0_r, .ref q0_big, .ref q0_dt, .ref q0_dx, .ref q0_t, .ref q0_cost, .ref q0_rowScaleNow, .ref q0_columnScaleNow, .ref q0_basic, .ref q0_text, .ref q0_turned, .int vq0_m, .int vq0_n, .int vq0_length, .int vq0_where, .int vq0_effort, .int vq0_thrown, .int vq0_at, .int vq0_scaled, .int vq0_solved, .int vq0_second, .ref q0_na, .ref q0_nb, .ref q0_nc, .int vq0_nm, .int vq0_nn, .double vq0_number, .int vq0_bad]))]
def s_M_isUsed_J19 (vq0_m : Int32) (vq0_n : Int32) (vq0_length : Int32) (vq0_where : Int32) (vq0_effort : Int32) (vq0_thrown : Int32) (vq0_at : Int32) (vq0_scaled : Int32) (vq0_solved : Int32) (vq0_second : Int32) (vq0_nm : Int32) (vq0_nn : Int32) (vq0_number : UInt64) (vq0_bad : Int32) : Option (Int32) :=
  gd (isb 1) <| some 1
def s_M_isUsed (vq0_m : Int32) (vq0_n : Int32) (vq0_length : Int32) (vq0_where : Int32) (vq0_effort : Int32) (vq0_thrown : Int32) (vq0_at : Int32) (vq0_scaled : Int32) (vq0_solved : Int32) (vq0_second : Int32) (vq0_nm : Int32) (vq0_nn : Int32) (vq0_number : UInt64) (vq0_bad : Int32) (x1 : Int32) : Option (Int32) :=
  if x1 < (vq0_n + vq0_m) then (s_M_isUsed_J19 vq0_m vq0_n vq0_length vq0_where vq0_effort vq0_thrown vq0_at vq0_scaled vq0_solved vq0_second vq0_nm vq0_nn vq0_number vq0_bad) else (if x1 = 13 then (s_M_isUsed_J19 vq0_m vq0_n vq0_length vq0_where vq0_effort vq0_thrown vq0_at vq0_scaled vq0_solved vq0_second vq0_nm vq0_nn vq0_number vq0_bad) else (gd (isb 0) <| some 0))
set_option maxHeartbeats 40000000 in
set_option maxRecDepth 100000 in
theorem c_M_isUsed (l : Launch) (D : va_G) (T : Nat → ClassId) (q0 : Nat) (q0_a : Nat) (q0_b : Nat) (q0_c : Nat) (q0_rowScale : Nat) (q0_columnScale : Nat) (q0_sa : Nat) (q0_sb : Nat) (q0_sc : Nat) (q0_x : Nat) (q0_s : Nat) (q0_y : Nat) (q0_p : Nat) (q0_d : Nat) (q0_h : Nat) (q0_f : Nat) (q0_mm : Nat) (q0_low : Nat) (q0_dd : Nat) (q0_r : Nat) (q0_big : Nat) (q0_dt : Nat) (q0_dx : Nat) (q0_t : Nat) (q0_cost : Nat) (q0_rowScaleNow : Nat) (q0_columnScaleNow : Nat) (q0_basic : Nat) (q0_text : Nat) (q0_turned : Nat) (q0_na : Nat) (q0_nb : Nat) (q0_nc : Nat) (vq0_m : Int32) (vq0_n : Int32) (vq0_length : Int32) (vq0_where : Int32) (vq0_effort : Int32) (vq0_thrown : Int32) (vq0_at : Int32) (vq0_scaled : Int32) (vq0_solved : Int32) (vq0_second : Int32) (vq0_nm : Int32) (vq0_nn : Int32) (vq0_number : UInt64) (vq0_bad : Int32) (x1 : Int32) (rm : Int32) (h : s_M_isUsed vq0_m vq0_n vq0_length vq0_where vq0_effort vq0_thrown vq0_at vq0_scaled vq0_solved vq0_second vq0_nm vq0_nn vq0_number vq0_bad x1 = some rm) : CtI l y_M_isUsed (Cond.code y_M_isUsed prog_10_method_33_code 2 (some .boolean) :: BIG) 0 0 D T [.ref q0, .int x1] (w_M_isUsed T q0 q0_a q0_b q0_c q0_rowScale q0_columnScale q0_sa q0_sb q0_sc q0_x q0_s q0_y q0_p q0_d q0_h q0_f q0_mm q0_low q0_dd q0_r q0_big q0_dt q0_dx q0_t q0_cost q0_rowScaleNow q0_columnScaleNow q0_basic q0_text q0_turned q0_na q0_nb q0_nc vq0_m vq0_n vq0_length vq0_where vq0_effort vq0_thrown vq0_at vq0_scaled vq0_solved vq0_second vq0_nm vq0_nn vq0_number vq0_bad) (fun r => r) (fun r => (w_M_isUsed T q0 q0_a q0_b q0_c q0_rowScale q0_columnScale q0_sa q0_sb q0_sc q0_x q0_s q0_y q0_p q0_d q0_h q0_f q0_mm q0_low q0_dd q0_r q0_big q0_dt q0_dx q0_t q0_cost q0_rowScaleNow q0_columnScaleNow q0_basic q0_text q0_turned q0_na q0_nb q0_nc vq0_m vq0_n vq0_length vq0_where vq0_effort vq0_thrown vq0_at vq0_scaled vq0_solved vq0_second vq0_nm vq0_nn vq0_number vq0_bad)) rm := by
  refine cf_entry (y := y_M_isUsed) (cc := prog_10_method_33_code) (nL := 2) (ret := (some .boolean)) (fr := 0) (lo := 0) (T := T) (av := [.ref q0, .int x1]) (w := (w_M_isUsed T q0 q0_a q0_b q0_c q0_rowScale q0_columnScale q0_sa q0_sb q0_sc q0_x q0_s q0_y q0_p q0_d q0_h q0_f q0_mm q0_low q0_dd q0_r q0_big q0_dt q0_dx q0_t q0_cost q0_rowScaleNow q0_columnScaleNow q0_basic q0_text q0_turned q0_na q0_nb q0_nc vq0_m vq0_n vq0_length vq0_where vq0_effort vq0_thrown vq0_at vq0_scaled vq0_solved vq0_second vq0_nm vq0_nn vq0_number vq0_bad)) (Qc := cfQi D (fun r => r) (fun r => (w_M_isUsed T q0 q0_a q0_b q0_c q0_rowScale q0_columnScale q0_sa q0_sb q0_sc q0_x q0_s q0_y q0_p q0_d q0_h q0_f q0_mm q0_low q0_dd q0_r q0_big q0_dt q0_dx q0_t q0_cost q0_rowScaleNow q0_columnScaleNow q0_basic q0_text q0_turned q0_na q0_nb q0_nc vq0_m vq0_n vq0_length vq0_where vq0_effort vq0_thrown vq0_at vq0_scaled vq0_solved vq0_second vq0_nm vq0_nn vq0_number vq0_bad)) rm) (by decide) rfl (Nat.le_of_ble_eq_true rfl) ?_
  intro p e s m args below meth c A Q H locs ls hx hb hr hlocks hml hown hts hNW hK hA hQ hP hD hS hl
  have hown : s.vm.findClass "ConeForgeModel" = some m.cls := hown
  have hl : lv_has ls 2 [(0, .ref q0), (1, .int x1)] := hl
  have J19 : ∀ (H : Heap) (locs : List Loc) (ls : Array Slot), va_P D CL (w_M_isUsed T q0 q0_a q0_b q0_c q0_rowScale q0_columnScale q0_sa q0_sb q0_sc q0_x q0_s q0_y q0_p q0_d q0_h q0_f q0_mm q0_low q0_dd q0_r q0_big q0_dt q0_dx q0_t q0_cost q0_rowScaleNow q0_columnScaleNow q0_basic q0_text q0_turned q0_na q0_nb q0_nc vq0_m vq0_n vq0_length vq0_where vq0_effort vq0_thrown vq0_at vq0_scaled vq0_solved vq0_second vq0_nm vq0_nn vq0_number vq0_bad) H → va_D A (w_M_isUsed T q0 q0_a q0_b q0_c q0_rowScale q0_columnScale q0_sa q0_sb q0_sc q0_x q0_s q0_y q0_p q0_d q0_h q0_f q0_mm q0_low q0_dd q0_r q0_big q0_dt q0_dx q0_t q0_cost q0_rowScaleNow q0_columnScaleNow q0_basic q0_text q0_turned q0_na q0_nb q0_nc vq0_m vq0_n vq0_length vq0_where vq0_effort vq0_thrown vq0_at vq0_scaled vq0_solved vq0_second vq0_nm vq0_nn vq0_number vq0_bad) → va_S A s.heap H locs → lv_has ls 2 [] → s_M_isUsed_J19 vq0_m vq0_n vq0_length vq0_where vq0_effort vq0_thrown vq0_at vq0_scaled vq0_solved vq0_second vq0_nm vq0_nn vq0_number vq0_bad = some rm → W p l e (rmk 0 0) s m args below meth c H locs 0 0 Q (F0 m 19 ls []) := by
    intro  H locs ls hP hD hS hl h
    unfold s_M_isUsed_J19 at h
    refine lv_iconst (v := 1) hx hb d_M_isUsed_19 (by decide) ?_
    refine lv_goto (tgt := 24) hx hb d_M_isUsed_20 (by decide) ?_
    obtain ⟨g1, h⟩ := gd_some h
    exact rtZ hx hb hr hlocks g1 hQ (Option.some.inj h) hP hS d_M_isUsed_24 rfl rfl
  unfold s_M_isUsed at h
  refine lv_iload_n hx hb d_M_isUsed_0 rfl (lv_at hl 1 rfl) ?_
  refine lv_aload_n hx hb d_M_isUsed_1 rfl (lv_at hl 0 rfl) ?_
  refine va_get (D := D) (ci := 8) (v := .int vq0_n) (C := "ConeForgeModel") (T := FM) (N := 46) hx hb hts iM hown hK hP 0 rfl rfl 30 (by decide) (hts _ (bgc bw714)) (fun _ h9 => h9) rfl d_M_isUsed_2 ?_
  refine lv_aload_n hx hb d_M_isUsed_5 rfl (lv_at hl 0 rfl) ?_
  refine va_get (D := D) (ci := 8) (v := .int vq0_m) (C := "ConeForgeModel") (T := FM) (N := 46) hx hb hts iM hown hK hP 0 rfl rfl 29 (by decide) (hts _ (bgc bw713)) (fun _ h9 => h9) rfl d_M_isUsed_6 ?_
  refine lv_iadd hx hb d_M_isUsed_9 ?_
  refine lv_icmp_lt (tgt := 19) hx hb d_M_isUsed_10 (by decide) (fun c2 => ?_) (fun c2 => ?_)
  · have h := it_t c2 h
    exact J19  H locs ls hP hD hS (lv_sub hl [] rfl) h
  · have h := it_f c2 h
    refine lv_iload_n hx hb d_M_isUsed_13 rfl (lv_at hl 1 rfl) ?_
    refine lv_bipush (v := 13) hx hb d_M_isUsed_14 (by decide) ?_
    refine lv_icmp_ne (tgt := 23) hx hb d_M_isUsed_16 (by decide) (fun c3 => ?_) (fun c3 => ?_)
    · have h := it_f c3 h
      refine lv_iconst (v := 0) hx hb d_M_isUsed_23 (by decide) ?_
      obtain ⟨g4, h⟩ := gd_some h
      exact rtZ hx hb hr hlocks g4 hQ (Option.some.inj h) hP hS d_M_isUsed_24 rfl rfl
    · have h := it_t c3 h
      exact J19  H locs ls hP hD hS (lv_sub hl [] rfl) h
