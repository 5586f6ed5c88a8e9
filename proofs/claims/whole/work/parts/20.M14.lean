theorem d_M_measureScales_0 : decode prog_10_method_51_code 0 = .ok (.iconst 0, 1) := by decide +kernel
theorem d_M_measureScales_1 : decode prog_10_method_51_code 1 = .ok (.istore_n 1, 1) := by decide +kernel
theorem d_M_measureScales_2 : decode prog_10_method_51_code 2 = .ok (.iload_n 1, 1) := by decide +kernel
theorem d_M_measureScales_3 : decode prog_10_method_51_code 3 = .ok (.aload_n 0, 1) := by decide +kernel
theorem d_M_measureScales_4 : decode prog_10_method_51_code 4 = .ok (.getfield 99, 3) := by decide +kernel
theorem d_M_measureScales_7 : decode prog_10_method_51_code 7 = .ok (.if_icmp .ge 70, 3) := by decide +kernel
theorem d_M_measureScales_10 : decode prog_10_method_51_code 10 = .ok (.dconst 0, 1) := by decide +kernel
theorem d_M_measureScales_11 : decode prog_10_method_51_code 11 = .ok (.dstore_n 2, 1) := by decide +kernel
theorem d_M_measureScales_12 : decode prog_10_method_51_code 12 = .ok (.iconst 0, 1) := by decide +kernel
theorem d_M_measureScales_13 : decode prog_10_method_51_code 13 = .ok (.istore 4, 2) := by decide +kernel
theorem d_M_measureScales_15 : decode prog_10_method_51_code 15 = .ok (.iload 4, 2) := by decide +kernel
theorem d_M_measureScales_17 : decode prog_10_method_51_code 17 = .ok (.aload_n 0, 1) := by decide +kernel
theorem d_M_measureScales_18 : decode prog_10_method_51_code 18 = .ok (.getfield 103, 3) := by decide +kernel
theorem d_M_measureScales_21 : decode prog_10_method_51_code 21 = .ok (.if_icmp .ge 29, 3) := by decide +kernel
theorem d_M_measureScales_24 : decode prog_10_method_51_code 24 = .ok (.dload_n 2, 1) := by decide +kernel
theorem d_M_measureScales_25 : decode prog_10_method_51_code 25 = .ok (.aload_n 0, 1) := by decide +kernel
theorem d_M_measureScales_26 : decode prog_10_method_51_code 26 = .ok (.getfield 7, 3) := by decide +kernel
theorem d_M_measureScales_29 : decode prog_10_method_51_code 29 = .ok (.bipush 8, 2) := by decide +kernel
theorem d_M_measureScales_31 : decode prog_10_method_51_code 31 = .ok (.iload_n 1, 1) := by decide +kernel
theorem d_M_measureScales_32 : decode prog_10_method_51_code 32 = .ok (.imul, 1) := by decide +kernel
theorem d_M_measureScales_33 : decode prog_10_method_51_code 33 = .ok (.iload 4, 2) := by decide +kernel
theorem d_M_measureScales_35 : decode prog_10_method_51_code 35 = .ok (.iadd, 1) := by decide +kernel
theorem d_M_measureScales_36 : decode prog_10_method_51_code 36 = .ok (.daload, 1) := by decide +kernel
theorem d_M_measureScales_37 : decode prog_10_method_51_code 37 = .ok (.invokestatic 197, 3) := by decide +kernel
theorem d_M_measureScales_40 : decode prog_10_method_51_code 40 = .ok (.invokestatic 201, 3) := by decide +kernel
theorem d_M_measureScales_43 : decode prog_10_method_51_code 43 = .ok (.dstore_n 2, 1) := by decide +kernel
theorem d_M_measureScales_44 : decode prog_10_method_51_code 44 = .ok (.iinc 4 1, 3) := by decide +kernel
theorem d_M_measureScales_47 : decode prog_10_method_51_code 47 = .ok (.goto (-32), 3) := by decide +kernel
theorem d_M_measureScales_50 : decode prog_10_method_51_code 50 = .ok (.aload_n 0, 1) := by decide +kernel
theorem d_M_measureScales_51 : decode prog_10_method_51_code 51 = .ok (.getfield 82, 3) := by decide +kernel
theorem d_M_measureScales_54 : decode prog_10_method_51_code 54 = .ok (.iload_n 1, 1) := by decide +kernel
theorem d_M_measureScales_55 : decode prog_10_method_51_code 55 = .ok (.aload_n 0, 1) := by decide +kernel
theorem d_M_measureScales_56 : decode prog_10_method_51_code 56 = .ok (.getfield 109, 3) := by decide +kernel
theorem d_M_measureScales_59 : decode prog_10_method_51_code 59 = .ok (.ifCond .eq 10, 3) := by decide +kernel
theorem d_M_measureScales_62 : decode prog_10_method_51_code 62 = .ok (.dload_n 2, 1) := by decide +kernel
theorem d_M_measureScales_63 : decode prog_10_method_51_code 63 = .ok (.invokestatic 205, 3) := by decide +kernel
theorem d_M_measureScales_66 : decode prog_10_method_51_code 66 = .ok (.goto 4, 3) := by decide +kernel
theorem d_M_measureScales_69 : decode prog_10_method_51_code 69 = .ok (.dconst 1, 1) := by decide +kernel
theorem d_M_measureScales_70 : decode prog_10_method_51_code 70 = .ok (.dastore, 1) := by decide +kernel
theorem d_M_measureScales_71 : decode prog_10_method_51_code 71 = .ok (.iinc 1 1, 3) := by decide +kernel
theorem d_M_measureScales_74 : decode prog_10_method_51_code 74 = .ok (.goto (-72), 3) := by decide +kernel
theorem d_M_measureScales_77 : decode prog_10_method_51_code 77 = .ok (.iconst 0, 1) := by decide +kernel
theorem d_M_measureScales_78 : decode prog_10_method_51_code 78 = .ok (.istore_n 1, 1) := by decide +kernel
theorem d_M_measureScales_79 : decode prog_10_method_51_code 79 = .ok (.iload_n 1, 1) := by decide +kernel
theorem d_M_measureScales_80 : decode prog_10_method_51_code 80 = .ok (.aload_n 0, 1) := by decide +kernel
theorem d_M_measureScales_81 : decode prog_10_method_51_code 81 = .ok (.getfield 103, 3) := by decide +kernel
theorem d_M_measureScales_84 : decode prog_10_method_51_code 84 = .ok (.if_icmp .ge 78, 3) := by decide +kernel
theorem d_M_measureScales_87 : decode prog_10_method_51_code 87 = .ok (.dconst 0, 1) := by decide +kernel
theorem d_M_measureScales_88 : decode prog_10_method_51_code 88 = .ok (.dstore_n 2, 1) := by decide +kernel
theorem d_M_measureScales_89 : decode prog_10_method_51_code 89 = .ok (.iconst 0, 1) := by decide +kernel
theorem d_M_measureScales_90 : decode prog_10_method_51_code 90 = .ok (.istore 4, 2) := by decide +kernel
theorem d_M_measureScales_92 : decode prog_10_method_51_code 92 = .ok (.iload 4, 2) := by decide +kernel
theorem d_M_measureScales_94 : decode prog_10_method_51_code 94 = .ok (.aload_n 0, 1) := by decide +kernel
theorem d_M_measureScales_95 : decode prog_10_method_51_code 95 = .ok (.getfield 99, 3) := by decide +kernel
theorem d_M_measureScales_98 : decode prog_10_method_51_code 98 = .ok (.if_icmp .ge 37, 3) := by decide +kernel
theorem d_M_measureScales_101 : decode prog_10_method_51_code 101 = .ok (.dload_n 2, 1) := by decide +kernel
theorem d_M_measureScales_102 : decode prog_10_method_51_code 102 = .ok (.aload_n 0, 1) := by decide +kernel
theorem d_M_measureScales_103 : decode prog_10_method_51_code 103 = .ok (.getfield 82, 3) := by decide +kernel
theorem d_M_measureScales_106 : decode prog_10_method_51_code 106 = .ok (.iload 4, 2) := by decide +kernel
theorem d_M_measureScales_108 : decode prog_10_method_51_code 108 = .ok (.daload, 1) := by decide +kernel
theorem d_M_measureScales_109 : decode prog_10_method_51_code 109 = .ok (.aload_n 0, 1) := by decide +kernel
theorem d_M_measureScales_110 : decode prog_10_method_51_code 110 = .ok (.getfield 7, 3) := by decide +kernel
theorem d_M_measureScales_113 : decode prog_10_method_51_code 113 = .ok (.bipush 8, 2) := by decide +kernel
theorem d_M_measureScales_115 : decode prog_10_method_51_code 115 = .ok (.iload 4, 2) := by decide +kernel
theorem d_M_measureScales_117 : decode prog_10_method_51_code 117 = .ok (.imul, 1) := by decide +kernel
theorem d_M_measureScales_118 : decode prog_10_method_51_code 118 = .ok (.iload_n 1, 1) := by decide +kernel
theorem d_M_measureScales_119 : decode prog_10_method_51_code 119 = .ok (.iadd, 1) := by decide +kernel
theorem d_M_measureScales_120 : decode prog_10_method_51_code 120 = .ok (.daload, 1) := by decide +kernel
theorem d_M_measureScales_121 : decode prog_10_method_51_code 121 = .ok (.dmul, 1) := by decide +kernel
theorem d_M_measureScales_122 : decode prog_10_method_51_code 122 = .ok (.invokestatic 197, 3) := by decide +kernel
theorem d_M_measureScales_125 : decode prog_10_method_51_code 125 = .ok (.invokestatic 201, 3) := by decide +kernel
theorem d_M_measureScales_128 : decode prog_10_method_51_code 128 = .ok (.dstore_n 2, 1) := by decide +kernel
theorem d_M_measureScales_129 : decode prog_10_method_51_code 129 = .ok (.iinc 4 1, 3) := by decide +kernel
theorem d_M_measureScales_132 : decode prog_10_method_51_code 132 = .ok (.goto (-40), 3) := by decide +kernel
theorem d_M_measureScales_135 : decode prog_10_method_51_code 135 = .ok (.aload_n 0, 1) := by decide +kernel
theorem d_M_measureScales_136 : decode prog_10_method_51_code 136 = .ok (.getfield 85, 3) := by decide +kernel
theorem d_M_measureScales_139 : decode prog_10_method_51_code 139 = .ok (.iload_n 1, 1) := by decide +kernel
theorem d_M_measureScales_140 : decode prog_10_method_51_code 140 = .ok (.aload_n 0, 1) := by decide +kernel
theorem d_M_measureScales_141 : decode prog_10_method_51_code 141 = .ok (.getfield 109, 3) := by decide +kernel
theorem d_M_measureScales_144 : decode prog_10_method_51_code 144 = .ok (.ifCond .eq 10, 3) := by decide +kernel
theorem d_M_measureScales_147 : decode prog_10_method_51_code 147 = .ok (.dload_n 2, 1) := by decide +kernel
theorem d_M_measureScales_148 : decode prog_10_method_51_code 148 = .ok (.invokestatic 205, 3) := by decide +kernel
theorem d_M_measureScales_151 : decode prog_10_method_51_code 151 = .ok (.goto 4, 3) := by decide +kernel
theorem d_M_measureScales_154 : decode prog_10_method_51_code 154 = .ok (.dconst 1, 1) := by decide +kernel
theorem d_M_measureScales_155 : decode prog_10_method_51_code 155 = .ok (.dastore, 1) := by decide +kernel
theorem d_M_measureScales_156 : decode prog_10_method_51_code 156 = .ok (.iinc 1 1, 3) := by decide +kernel
theorem d_M_measureScales_159 : decode prog_10_method_51_code 159 = .ok (.goto (-80), 3) := by decide +kernel
theorem d_M_measureScales_162 : decode prog_10_method_51_code 162 = .ok (.return_, 1) := by decide +kernel
abbrev w_M_measureScales (T : Nat → ClassId) (q0 : Nat) (q0_a : Nat) (q0_b : Nat) (q0_c : Nat) (q0_rowScale : Nat) (q0_columnScale : Nat) (q0_sa : Nat) (q0_sb : Nat) (q0_sc : Nat) (q0_x : Nat) (q0_s : Nat) (q0_y : Nat) (q0_p : Nat) (q0_d : Nat) (q0_h : Nat) (q0_f : Nat) (q0_mm : Nat) (q0_low : Nat) (q0_dd : Nat) (q0_r : Nat) (q0_big : Nat) (q0_dt : Nat) (q0_dx : Nat) (q0_t : Nat) (q0_cost : Nat) (q0_rowScaleNow : Nat) (q0_columnScaleNow : Nat) (q0_basic : Nat) (q0_text : Nat) (q0_turned : Nat) (q0_na : Nat) (q0_nb : Nat) (q0_nc : Nat) (vq0_m : Int32) (vq0_n : Int32) (vq0_length : Int32) (vq0_where : Int32) (vq0_effort : Int32) (vq0_thrown : Int32) (vq0_at : Int32) (vq0_scaled : Int32) (vq0_solved : Int32) (vq0_second : Int32) (vq0_nm : Int32) (vq0_nn : Int32) (vq0_number : UInt64) (vq0_bad : Int32) (vq0_a : Nat → UInt64) (vq0_rowScaleNow : Nat → UInt64) (vq0_columnScaleNow : Nat → UInt64) : va_W := [(q0, .inr (8, [.ref q0_a, .ref q0_b, .ref q0_c, .ref q0_rowScale, .ref q0_columnScale, .ref q0_sa, .ref q0_sb, .ref q0_sc, .ref q0_x, .ref q0_s, .ref q0_y, .ref q0_p, .ref q0_d, .ref q0_h, .ref q0_f, .ref q0_mm, .ref q0_low, .ref q0_dd, .ref q0_r, .ref q0_big, .ref q0_dt, .ref q0_dx, .ref q0_t, .ref q0_cost, .ref q0_rowScaleNow, .ref q0_columnScaleNow, .ref q0_basic, .ref q0_text, .ref q0_turned, .int vq0_m, .int vq0_n, .int vq0_length, .int vq0_where, .int vq0_effort, .int vq0_thrown, .int vq0_at, .int vq0_scaled, .int vq0_solved, .int vq0_second, .ref q0_na, .ref q0_nb, .ref q0_nc, .int vq0_nm, .int vq0_nn, .double vq0_number, .int vq0_bad])), (q0_a, .inl (T 0, 40, .inr (.inr (.inr (.inl vq0_a))))), (q0_rowScaleNow, .inl (T 0, 5, .inr (.inr (.inr (.inl vq0_rowScaleNow))))), (q0_columnScaleNow, .inl (T 0, 8, .inr (.inr (.inr (.inl vq0_columnScaleNow)))))]
def s_M_measureScales_B92 (vq0_m : Int32) (vq0_n : Int32) (vq0_length : Int32) (vq0_where : Int32) (vq0_effort : Int32) (vq0_thrown : Int32) (vq0_at : Int32) (vq0_scaled : Int32) (vq0_solved : Int32) (vq0_second : Int32) (vq0_nm : Int32) (vq0_nn : Int32) (vq0_number : UInt64) (vq0_bad : Int32) (vq0_a : Nat → UInt64) (vq0_rowScaleNow : Nat → UInt64) (vq0_columnScaleNow : Nat → UInt64) (x1 : Int32) (x2 : UInt64) (x4 : Int32) : Option ((UInt64 × Int32) ⊕ (UInt64)) :=
  if vq0_m ≤ x4 then (some (.inr x2)) else (gd (inb x4 5) <| gd (inb ((8 * x4) + x1) 40) <| gd (isn (FP.dmul (vq0_rowScaleNow x4.toNatClampNeg) (vq0_a ((8 * x4) + x1).toNatClampNeg))) <| (s_M_abs (FP.dmul (vq0_rowScaleNow x4.toNatClampNeg) (vq0_a ((8 * x4) + x1).toNatClampNeg))).bind fun u5 => (s_M_max x2 u5).bind fun u6 => some (.inl (u6, x4 + 1)))
def s_M_measureScales_L92 (vq0_m : Int32) (vq0_n : Int32) (vq0_length : Int32) (vq0_where : Int32) (vq0_effort : Int32) (vq0_thrown : Int32) (vq0_at : Int32) (vq0_scaled : Int32) (vq0_solved : Int32) (vq0_second : Int32) (vq0_nm : Int32) (vq0_nn : Int32) (vq0_number : UInt64) (vq0_bad : Int32) (vq0_a : Nat → UInt64) (vq0_rowScaleNow : Nat → UInt64) (vq0_columnScaleNow : Nat → UInt64) (x1 : Int32) (x2 : UInt64) (x4 : Int32) : Option (((Nat → UInt64) × Int32) ⊕ ((Nat → UInt64))) :=
  (loopO (fun (st : UInt64 × Int32) => s_M_measureScales_B92 vq0_m vq0_n vq0_length vq0_where vq0_effort vq0_thrown vq0_at vq0_scaled vq0_solved vq0_second vq0_nm vq0_nn vq0_number vq0_bad vq0_a vq0_rowScaleNow vq0_columnScaleNow x1 st.1 st.2) 2000 (x2, x4)).bind fun u92 => if vq0_scaled = 0 then (gd (inb x1 8) <| some (.inl (vf_upd vq0_columnScaleNow x1.toNatClampNeg FP.dconst1, x1 + 1))) else ((s_M_power u92).bind fun u9 => gd (inb x1 8) <| some (.inl (vf_upd vq0_columnScaleNow x1.toNatClampNeg u9, x1 + 1)))
def s_M_measureScales_B79 (vq0_m : Int32) (vq0_n : Int32) (vq0_length : Int32) (vq0_where : Int32) (vq0_effort : Int32) (vq0_thrown : Int32) (vq0_at : Int32) (vq0_scaled : Int32) (vq0_solved : Int32) (vq0_second : Int32) (vq0_nm : Int32) (vq0_nn : Int32) (vq0_number : UInt64) (vq0_bad : Int32) (vq0_a : Nat → UInt64) (vq0_rowScaleNow : Nat → UInt64) (vq0_columnScaleNow : Nat → UInt64) (x1 : Int32) : Option (((Nat → UInt64) × Int32) ⊕ ((Nat → UInt64))) :=
  if vq0_n ≤ x1 then (some (.inr vq0_columnScaleNow)) else (s_M_measureScales_L92 vq0_m vq0_n vq0_length vq0_where vq0_effort vq0_thrown vq0_at vq0_scaled vq0_solved vq0_second vq0_nm vq0_nn vq0_number vq0_bad vq0_a vq0_rowScaleNow vq0_columnScaleNow x1 FP.dconst0 0)
def s_M_measureScales_L79 (vq0_m : Int32) (vq0_n : Int32) (vq0_length : Int32) (vq0_where : Int32) (vq0_effort : Int32) (vq0_thrown : Int32) (vq0_at : Int32) (vq0_scaled : Int32) (vq0_solved : Int32) (vq0_second : Int32) (vq0_nm : Int32) (vq0_nn : Int32) (vq0_number : UInt64) (vq0_bad : Int32) (vq0_a : Nat → UInt64) (vq0_rowScaleNow : Nat → UInt64) (vq0_columnScaleNow : Nat → UInt64) (x1 : Int32) : Option ((Nat → UInt64) × (Nat → UInt64)) :=
  (loopO (fun (st : (Nat → UInt64) × Int32) => s_M_measureScales_B79 vq0_m vq0_n vq0_length vq0_where vq0_effort vq0_thrown vq0_at vq0_scaled vq0_solved vq0_second vq0_nm vq0_nn vq0_number vq0_bad vq0_a vq0_rowScaleNow st.1 st.2) 2000 (vq0_columnScaleNow, x1)).bind fun u79 => some (vq0_rowScaleNow, u79)
def s_M_measureScales_B15 (vq0_m : Int32) (vq0_n : Int32) (vq0_length : Int32) (vq0_where : Int32) (vq0_effort : Int32) (vq0_thrown : Int32) (vq0_at : Int32) (vq0_scaled : Int32) (vq0_solved : Int32) (vq0_second : Int32) (vq0_nm : Int32) (vq0_nn : Int32) (vq0_number : UInt64) (vq0_bad : Int32) (vq0_a : Nat → UInt64) (vq0_rowScaleNow : Nat → UInt64) (vq0_columnScaleNow : Nat → UInt64) (x1 : Int32) (x2 : UInt64) (x4 : Int32) : Option ((UInt64 × Int32) ⊕ (UInt64)) :=
  if vq0_n ≤ x4 then (some (.inr x2)) else (gd (inb ((8 * x1) + x4) 40) <| (s_M_abs (vq0_a ((8 * x1) + x4).toNatClampNeg)).bind fun u14 => (s_M_max x2 u14).bind fun u15 => some (.inl (u15, x4 + 1)))
def s_M_measureScales_L15 (vq0_m : Int32) (vq0_n : Int32) (vq0_length : Int32) (vq0_where : Int32) (vq0_effort : Int32) (vq0_thrown : Int32) (vq0_at : Int32) (vq0_scaled : Int32) (vq0_solved : Int32) (vq0_second : Int32) (vq0_nm : Int32) (vq0_nn : Int32) (vq0_number : UInt64) (vq0_bad : Int32) (vq0_a : Nat → UInt64) (vq0_rowScaleNow : Nat → UInt64) (vq0_columnScaleNow : Nat → UInt64) (x1 : Int32) (x2 : UInt64) (x4 : Int32) : Option (((Nat → UInt64) × Int32) ⊕ ((Nat → UInt64))) :=
  (loopO (fun (st : UInt64 × Int32) => s_M_measureScales_B15 vq0_m vq0_n vq0_length vq0_where vq0_effort vq0_thrown vq0_at vq0_scaled vq0_solved vq0_second vq0_nm vq0_nn vq0_number vq0_bad vq0_a vq0_rowScaleNow vq0_columnScaleNow x1 st.1 st.2) 2000 (x2, x4)).bind fun u15 => if vq0_scaled = 0 then (gd (inb x1 5) <| some (.inl (vf_upd vq0_rowScaleNow x1.toNatClampNeg FP.dconst1, x1 + 1))) else ((s_M_power u15).bind fun u18 => gd (inb x1 5) <| some (.inl (vf_upd vq0_rowScaleNow x1.toNatClampNeg u18, x1 + 1)))
def s_M_measureScales_B2 (vq0_m : Int32) (vq0_n : Int32) (vq0_length : Int32) (vq0_where : Int32) (vq0_effort : Int32) (vq0_thrown : Int32) (vq0_at : Int32) (vq0_scaled : Int32) (vq0_solved : Int32) (vq0_second : Int32) (vq0_nm : Int32) (vq0_nn : Int32) (vq0_number : UInt64) (vq0_bad : Int32) (vq0_a : Nat → UInt64) (vq0_columnScaleNow : Nat → UInt64) (vq0_rowScaleNow : Nat → UInt64) (x1 : Int32) : Option (((Nat → UInt64) × Int32) ⊕ ((Nat → UInt64))) :=
  if vq0_m ≤ x1 then (some (.inr vq0_rowScaleNow)) else (s_M_measureScales_L15 vq0_m vq0_n vq0_length vq0_where vq0_effort vq0_thrown vq0_at vq0_scaled vq0_solved vq0_second vq0_nm vq0_nn vq0_number vq0_bad vq0_a vq0_rowScaleNow vq0_columnScaleNow x1 FP.dconst0 0)
def s_M_measureScales_L2 (vq0_m : Int32) (vq0_n : Int32) (vq0_length : Int32) (vq0_where : Int32) (vq0_effort : Int32) (vq0_thrown : Int32) (vq0_at : Int32) (vq0_scaled : Int32) (vq0_solved : Int32) (vq0_second : Int32) (vq0_nm : Int32) (vq0_nn : Int32) (vq0_number : UInt64) (vq0_bad : Int32) (vq0_a : Nat → UInt64) (vq0_rowScaleNow : Nat → UInt64) (vq0_columnScaleNow : Nat → UInt64) (x1 : Int32) : Option ((Nat → UInt64) × (Nat → UInt64)) :=
  (loopO (fun (st : (Nat → UInt64) × Int32) => s_M_measureScales_B2 vq0_m vq0_n vq0_length vq0_where vq0_effort vq0_thrown vq0_at vq0_scaled vq0_solved vq0_second vq0_nm vq0_nn vq0_number vq0_bad vq0_a vq0_columnScaleNow st.1 st.2) 2000 (vq0_rowScaleNow, x1)).bind fun u2 => s_M_measureScales_L79 vq0_m vq0_n vq0_length vq0_where vq0_effort vq0_thrown vq0_at vq0_scaled vq0_solved vq0_second vq0_nm vq0_nn vq0_number vq0_bad vq0_a u2 vq0_columnScaleNow 0
def s_M_measureScales (vq0_m : Int32) (vq0_n : Int32) (vq0_length : Int32) (vq0_where : Int32) (vq0_effort : Int32) (vq0_thrown : Int32) (vq0_at : Int32) (vq0_scaled : Int32) (vq0_solved : Int32) (vq0_second : Int32) (vq0_nm : Int32) (vq0_nn : Int32) (vq0_number : UInt64) (vq0_bad : Int32) (vq0_a : Nat → UInt64) (vq0_rowScaleNow : Nat → UInt64) (vq0_columnScaleNow : Nat → UInt64) : Option ((Nat → UInt64) × (Nat → UInt64)) :=
  s_M_measureScales_L2 vq0_m vq0_n vq0_length vq0_where vq0_effort vq0_thrown vq0_at vq0_scaled vq0_solved vq0_second vq0_nm vq0_nn vq0_number vq0_bad vq0_a vq0_rowScaleNow vq0_columnScaleNow 0
set_option maxHeartbeats 4000000 in
set_option maxRecDepth 100000 in
theorem c_M_measureScales (l : Launch) (D : va_G) (T : Nat → ClassId) (q0 : Nat) (q0_a : Nat) (q0_b : Nat) (q0_c : Nat) (q0_rowScale : Nat) (q0_columnScale : Nat) (q0_sa : Nat) (q0_sb : Nat) (q0_sc : Nat) (q0_x : Nat) (q0_s : Nat) (q0_y : Nat) (q0_p : Nat) (q0_d : Nat) (q0_h : Nat) (q0_f : Nat) (q0_mm : Nat) (q0_low : Nat) (q0_dd : Nat) (q0_r : Nat) (q0_big : Nat) (q0_dt : Nat) (q0_dx : Nat) (q0_t : Nat) (q0_cost : Nat) (q0_rowScaleNow : Nat) (q0_columnScaleNow : Nat) (q0_basic : Nat) (q0_text : Nat) (q0_turned : Nat) (q0_na : Nat) (q0_nb : Nat) (q0_nc : Nat) (vq0_m : Int32) (vq0_n : Int32) (vq0_length : Int32) (vq0_where : Int32) (vq0_effort : Int32) (vq0_thrown : Int32) (vq0_at : Int32) (vq0_scaled : Int32) (vq0_solved : Int32) (vq0_second : Int32) (vq0_nm : Int32) (vq0_nn : Int32) (vq0_number : UInt64) (vq0_bad : Int32) (vq0_a : Nat → UInt64) (vq0_rowScaleNow : Nat → UInt64) (vq0_columnScaleNow : Nat → UInt64) (rm : (Nat → UInt64) × (Nat → UInt64)) (h : s_M_measureScales vq0_m vq0_n vq0_length vq0_where vq0_effort vq0_thrown vq0_at vq0_scaled vq0_solved vq0_second vq0_nm vq0_nn vq0_number vq0_bad vq0_a vq0_rowScaleNow vq0_columnScaleNow = some rm) : CtV l y_M_measureScales (Cond.code y_M_measureScales prog_10_method_51_code 5 none :: BIG) 1 25 D T [.ref q0] (w_M_measureScales T q0 q0_a q0_b q0_c q0_rowScale q0_columnScale q0_sa q0_sb q0_sc q0_x q0_s q0_y q0_p q0_d q0_h q0_f q0_mm q0_low q0_dd q0_r q0_big q0_dt q0_dx q0_t q0_cost q0_rowScaleNow q0_columnScaleNow q0_basic q0_text q0_turned q0_na q0_nb q0_nc vq0_m vq0_n vq0_length vq0_where vq0_effort vq0_thrown vq0_at vq0_scaled vq0_solved vq0_second vq0_nm vq0_nn vq0_number vq0_bad vq0_a vq0_rowScaleNow vq0_columnScaleNow) (fun r => (w_M_measureScales T q0 q0_a q0_b q0_c q0_rowScale q0_columnScale q0_sa q0_sb q0_sc q0_x q0_s q0_y q0_p q0_d q0_h q0_f q0_mm q0_low q0_dd q0_r q0_big q0_dt q0_dx q0_t q0_cost q0_rowScaleNow q0_columnScaleNow q0_basic q0_text q0_turned q0_na q0_nb q0_nc vq0_m vq0_n vq0_length vq0_where vq0_effort vq0_thrown vq0_at vq0_scaled vq0_solved vq0_second vq0_nm vq0_nn vq0_number vq0_bad vq0_a r.1 r.2)) rm := by
  refine cf_entry (y := y_M_measureScales) (cc := prog_10_method_51_code) (nL := 5) (ret := none) (fr := 1) (lo := 25) (T := T) (av := [.ref q0]) (w := (w_M_measureScales T q0 q0_a q0_b q0_c q0_rowScale q0_columnScale q0_sa q0_sb q0_sc q0_x q0_s q0_y q0_p q0_d q0_h q0_f q0_mm q0_low q0_dd q0_r q0_big q0_dt q0_dx q0_t q0_cost q0_rowScaleNow q0_columnScaleNow q0_basic q0_text q0_turned q0_na q0_nb q0_nc vq0_m vq0_n vq0_length vq0_where vq0_effort vq0_thrown vq0_at vq0_scaled vq0_solved vq0_second vq0_nm vq0_nn vq0_number vq0_bad vq0_a vq0_rowScaleNow vq0_columnScaleNow)) (Qc := cfQv D (fun r => (w_M_measureScales T q0 q0_a q0_b q0_c q0_rowScale q0_columnScale q0_sa q0_sb q0_sc q0_x q0_s q0_y q0_p q0_d q0_h q0_f q0_mm q0_low q0_dd q0_r q0_big q0_dt q0_dx q0_t q0_cost q0_rowScaleNow q0_columnScaleNow q0_basic q0_text q0_turned q0_na q0_nb q0_nc vq0_m vq0_n vq0_length vq0_where vq0_effort vq0_thrown vq0_at vq0_scaled vq0_solved vq0_second vq0_nm vq0_nn vq0_number vq0_bad vq0_a r.1 r.2)) rm) (by decide) rfl (Nat.le_of_ble_eq_true rfl) ?_
  intro p e s m args below meth c A Q H locs ls hx hb hr hlocks hml hown hts hNW hK hA hQ hP hD hS hl
  have hown : s.vm.findClass "ConeForgeModel" = some m.cls := hown
  have hl : lv_has ls 5 [(0, .ref q0)] := hl
  have L79 : ∀ (vq0_rowScaleNow : Nat → UInt64) (vq0_columnScaleNow : Nat → UInt64) (x1 : Int32), ∀ (H : Heap) (locs : List Loc) (ls : Array Slot), va_P D CL (w_M_measureScales T q0 q0_a q0_b q0_c q0_rowScale q0_columnScale q0_sa q0_sb q0_sc q0_x q0_s q0_y q0_p q0_d q0_h q0_f q0_mm q0_low q0_dd q0_r q0_big q0_dt q0_dx q0_t q0_cost q0_rowScaleNow q0_columnScaleNow q0_basic q0_text q0_turned q0_na q0_nb q0_nc vq0_m vq0_n vq0_length vq0_where vq0_effort vq0_thrown vq0_at vq0_scaled vq0_solved vq0_second vq0_nm vq0_nn vq0_number vq0_bad vq0_a vq0_rowScaleNow vq0_columnScaleNow) H → va_D A (w_M_measureScales T q0 q0_a q0_b q0_c q0_rowScale q0_columnScale q0_sa q0_sb q0_sc q0_x q0_s q0_y q0_p q0_d q0_h q0_f q0_mm q0_low q0_dd q0_r q0_big q0_dt q0_dx q0_t q0_cost q0_rowScaleNow q0_columnScaleNow q0_basic q0_text q0_turned q0_na q0_nb q0_nc vq0_m vq0_n vq0_length vq0_where vq0_effort vq0_thrown vq0_at vq0_scaled vq0_solved vq0_second vq0_nm vq0_nn vq0_number vq0_bad vq0_a vq0_rowScaleNow vq0_columnScaleNow) → va_S A s.heap H locs → lv_has ls 5 [(0, .ref q0), (1, .int x1)] → s_M_measureScales_L79 vq0_m vq0_n vq0_length vq0_where vq0_effort vq0_thrown vq0_at vq0_scaled vq0_solved vq0_second vq0_nm vq0_nn vq0_number vq0_bad vq0_a vq0_rowScaleNow vq0_columnScaleNow x1 = some rm → W p l e (rmk 1 25) s m args below meth c H locs 0 0 Q (F0 m 79 ls []) := by
    intro vq0_rowScaleNow vq0_columnScaleNow x1 H locs ls hP hD hS hl h
    unfold s_M_measureScales_L79 at h
    obtain ⟨u79, hu79, h⟩ := bi_some h
    refine loopO_W (Wh := fun (st : (Nat → UInt64) × Int32) => ∀ (H : Heap) (locs : List Loc) (ls : Array Slot), va_P D CL (w_M_measureScales T q0 q0_a q0_b q0_c q0_rowScale q0_columnScale q0_sa q0_sb q0_sc q0_x q0_s q0_y q0_p q0_d q0_h q0_f q0_mm q0_low q0_dd q0_r q0_big q0_dt q0_dx q0_t q0_cost q0_rowScaleNow q0_columnScaleNow q0_basic q0_text q0_turned q0_na q0_nb q0_nc vq0_m vq0_n vq0_length vq0_where vq0_effort vq0_thrown vq0_at vq0_scaled vq0_solved vq0_second vq0_nm vq0_nn vq0_number vq0_bad vq0_a vq0_rowScaleNow st.1) H → va_D A (w_M_measureScales T q0 q0_a q0_b q0_c q0_rowScale q0_columnScale q0_sa q0_sb q0_sc q0_x q0_s q0_y q0_p q0_d q0_h q0_f q0_mm q0_low q0_dd q0_r q0_big q0_dt q0_dx q0_t q0_cost q0_rowScaleNow q0_columnScaleNow q0_basic q0_text q0_turned q0_na q0_nb q0_nc vq0_m vq0_n vq0_length vq0_where vq0_effort vq0_thrown vq0_at vq0_scaled vq0_solved vq0_second vq0_nm vq0_nn vq0_number vq0_bad vq0_a vq0_rowScaleNow st.1) → va_S A s.heap H locs → lv_has ls 5 [(0, .ref q0), (1, .int st.2)] → W p l e (rmk 1 25) s m args below meth c H locs 0 0 Q (F0 m 79 ls [])) (Wx := fun (e1 : (Nat → UInt64)) => ∀ (H : Heap) (locs : List Loc) (ls : Array Slot), va_P D CL (w_M_measureScales T q0 q0_a q0_b q0_c q0_rowScale q0_columnScale q0_sa q0_sb q0_sc q0_x q0_s q0_y q0_p q0_d q0_h q0_f q0_mm q0_low q0_dd q0_r q0_big q0_dt q0_dx q0_t q0_cost q0_rowScaleNow q0_columnScaleNow q0_basic q0_text q0_turned q0_na q0_nb q0_nc vq0_m vq0_n vq0_length vq0_where vq0_effort vq0_thrown vq0_at vq0_scaled vq0_solved vq0_second vq0_nm vq0_nn vq0_number vq0_bad vq0_a vq0_rowScaleNow e1) H → va_D A (w_M_measureScales T q0 q0_a q0_b q0_c q0_rowScale q0_columnScale q0_sa q0_sb q0_sc q0_x q0_s q0_y q0_p q0_d q0_h q0_f q0_mm q0_low q0_dd q0_r q0_big q0_dt q0_dx q0_t q0_cost q0_rowScaleNow q0_columnScaleNow q0_basic q0_text q0_turned q0_na q0_nb q0_nc vq0_m vq0_n vq0_length vq0_where vq0_effort vq0_thrown vq0_at vq0_scaled vq0_solved vq0_second vq0_nm vq0_nn vq0_number vq0_bad vq0_a vq0_rowScaleNow e1) → va_S A s.heap H locs → lv_has ls 5 [] → W p l e (rmk 1 25) s m args below meth c H locs 0 0 Q (F0 m 162 ls [])) ?_ 2000 _ u79 hu79 ?_ H locs ls hP hD hS hl
    · intro st rb79 h kc79 kx79 H locs ls hP hD hS hl
      obtain ⟨vq0_columnScaleNow, x1⟩ := st
      have h : s_M_measureScales_B79 vq0_m vq0_n vq0_length vq0_where vq0_effort vq0_thrown vq0_at vq0_scaled vq0_solved vq0_second vq0_nm vq0_nn vq0_number vq0_bad vq0_a vq0_rowScaleNow vq0_columnScaleNow x1 = some rb79 := h
      have L92 : ∀ (vq0_columnScaleNow : Nat → UInt64) (x1 : Int32) (x2 : UInt64) (x4 : Int32), ∀ (H : Heap) (locs : List Loc) (ls : Array Slot), va_P D CL (w_M_measureScales T q0 q0_a q0_b q0_c q0_rowScale q0_columnScale q0_sa q0_sb q0_sc q0_x q0_s q0_y q0_p q0_d q0_h q0_f q0_mm q0_low q0_dd q0_r q0_big q0_dt q0_dx q0_t q0_cost q0_rowScaleNow q0_columnScaleNow q0_basic q0_text q0_turned q0_na q0_nb q0_nc vq0_m vq0_n vq0_length vq0_where vq0_effort vq0_thrown vq0_at vq0_scaled vq0_solved vq0_second vq0_nm vq0_nn vq0_number vq0_bad vq0_a vq0_rowScaleNow vq0_columnScaleNow) H → va_D A (w_M_measureScales T q0 q0_a q0_b q0_c q0_rowScale q0_columnScale q0_sa q0_sb q0_sc q0_x q0_s q0_y q0_p q0_d q0_h q0_f q0_mm q0_low q0_dd q0_r q0_big q0_dt q0_dx q0_t q0_cost q0_rowScaleNow q0_columnScaleNow q0_basic q0_text q0_turned q0_na q0_nb q0_nc vq0_m vq0_n vq0_length vq0_where vq0_effort vq0_thrown vq0_at vq0_scaled vq0_solved vq0_second vq0_nm vq0_nn vq0_number vq0_bad vq0_a vq0_rowScaleNow vq0_columnScaleNow) → va_S A s.heap H locs → lv_has ls 5 [(0, .ref q0), (1, .int x1), (2, .double x2), (4, .int x4)] → s_M_measureScales_L92 vq0_m vq0_n vq0_length vq0_where vq0_effort vq0_thrown vq0_at vq0_scaled vq0_solved vq0_second vq0_nm vq0_nn vq0_number vq0_bad vq0_a vq0_rowScaleNow vq0_columnScaleNow x1 x2 x4 = some rb79 → W p l e (rmk 1 25) s m args below meth c H locs 0 0 Q (F0 m 92 ls []) := by
        intro vq0_columnScaleNow x1 x2 x4 H locs ls hP hD hS hl h
        unfold s_M_measureScales_L92 at h
        obtain ⟨u92, hu92, h⟩ := bi_some h
        refine loopO_W (Wh := fun (st : UInt64 × Int32) => ∀ (H : Heap) (locs : List Loc) (ls : Array Slot), va_P D CL (w_M_measureScales T q0 q0_a q0_b q0_c q0_rowScale q0_columnScale q0_sa q0_sb q0_sc q0_x q0_s q0_y q0_p q0_d q0_h q0_f q0_mm q0_low q0_dd q0_r q0_big q0_dt q0_dx q0_t q0_cost q0_rowScaleNow q0_columnScaleNow q0_basic q0_text q0_turned q0_na q0_nb q0_nc vq0_m vq0_n vq0_length vq0_where vq0_effort vq0_thrown vq0_at vq0_scaled vq0_solved vq0_second vq0_nm vq0_nn vq0_number vq0_bad vq0_a vq0_rowScaleNow vq0_columnScaleNow) H → va_D A (w_M_measureScales T q0 q0_a q0_b q0_c q0_rowScale q0_columnScale q0_sa q0_sb q0_sc q0_x q0_s q0_y q0_p q0_d q0_h q0_f q0_mm q0_low q0_dd q0_r q0_big q0_dt q0_dx q0_t q0_cost q0_rowScaleNow q0_columnScaleNow q0_basic q0_text q0_turned q0_na q0_nb q0_nc vq0_m vq0_n vq0_length vq0_where vq0_effort vq0_thrown vq0_at vq0_scaled vq0_solved vq0_second vq0_nm vq0_nn vq0_number vq0_bad vq0_a vq0_rowScaleNow vq0_columnScaleNow) → va_S A s.heap H locs → lv_has ls 5 [(0, .ref q0), (1, .int x1), (2, .double st.1), (4, .int st.2)] → W p l e (rmk 1 25) s m args below meth c H locs 0 0 Q (F0 m 92 ls [])) (Wx := fun (e1 : UInt64) => ∀ (H : Heap) (locs : List Loc) (ls : Array Slot), va_P D CL (w_M_measureScales T q0 q0_a q0_b q0_c q0_rowScale q0_columnScale q0_sa q0_sb q0_sc q0_x q0_s q0_y q0_p q0_d q0_h q0_f q0_mm q0_low q0_dd q0_r q0_big q0_dt q0_dx q0_t q0_cost q0_rowScaleNow q0_columnScaleNow q0_basic q0_text q0_turned q0_na q0_nb q0_nc vq0_m vq0_n vq0_length vq0_where vq0_effort vq0_thrown vq0_at vq0_scaled vq0_solved vq0_second vq0_nm vq0_nn vq0_number vq0_bad vq0_a vq0_rowScaleNow vq0_columnScaleNow) H → va_D A (w_M_measureScales T q0 q0_a q0_b q0_c q0_rowScale q0_columnScale q0_sa q0_sb q0_sc q0_x q0_s q0_y q0_p q0_d q0_h q0_f q0_mm q0_low q0_dd q0_r q0_big q0_dt q0_dx q0_t q0_cost q0_rowScaleNow q0_columnScaleNow q0_basic q0_text q0_turned q0_na q0_nb q0_nc vq0_m vq0_n vq0_length vq0_where vq0_effort vq0_thrown vq0_at vq0_scaled vq0_solved vq0_second vq0_nm vq0_nn vq0_number vq0_bad vq0_a vq0_rowScaleNow vq0_columnScaleNow) → va_S A s.heap H locs → lv_has ls 5 [(0, .ref q0), (1, .int x1), (2, .double e1)] → W p l e (rmk 1 25) s m args below meth c H locs 0 0 Q (F0 m 135 ls [])) ?_ 2000 _ u92 hu92 ?_ H locs ls hP hD hS hl
        · intro st rb92 h kc92 kx92 H locs ls hP hD hS hl
          obtain ⟨x2, x4⟩ := st
          have h : s_M_measureScales_B92 vq0_m vq0_n vq0_length vq0_where vq0_effort vq0_thrown vq0_at vq0_scaled vq0_solved vq0_second vq0_nm vq0_nn vq0_number vq0_bad vq0_a vq0_rowScaleNow vq0_columnScaleNow x1 x2 x4 = some rb92 := h
          unfold s_M_measureScales_B92 at h
          refine lv_iload hx hb d_M_measureScales_92 (lv_at hl 3 rfl) ?_
          refine lv_aload_n hx hb d_M_measureScales_94 rfl (lv_at hl 0 rfl) ?_
          refine va_get (D := D) (ci := 8) (v := .int vq0_m) (C := "ConeForgeModel") (T := FM) (N := 46) hx hb hts iM hown hK hP 0 rfl rfl 29 (by decide) (hts _ (bgc bw713)) (fun _ h9 => h9) rfl d_M_measureScales_95 ?_
          refine lv_icmp_ge (tgt := 135) hx hb d_M_measureScales_98 (by decide) (fun c1 => ?_) (fun c1 => ?_)
          · have h := it_t c1 h
            exact kx92 _ (Option.some.inj h).symm H locs ls hP hD hS (lv_sub hl [0, 1, 2] rfl)
          · have h := it_f c1 h
            refine lv_dload_n hx hb d_M_measureScales_101 rfl (lv_at hl 2 rfl) ?_
            refine lv_aload_n hx hb d_M_measureScales_102 rfl (lv_at hl 0 rfl) ?_
            refine va_get (D := D) (ci := 8) (v := .ref q0_rowScaleNow) (C := "ConeForgeModel") (T := FM) (N := 46) hx hb hts iM hown hK hP 0 rfl rfl 24 (by decide) (hts _ (bgc bw708)) (fun _ h9 => h9) rfl d_M_measureScales_103 ?_
            refine lv_iload hx hb d_M_measureScales_106 (lv_at hl 3 rfl) ?_
            obtain ⟨g2, h⟩ := gd_some h
            refine va_dald hx hb hK hP 2 0 rfl rfl (inb_in g2) d_M_measureScales_108 ?_
            refine lv_aload_n hx hb d_M_measureScales_109 rfl (lv_at hl 0 rfl) ?_
            refine va_get (D := D) (ci := 8) (v := .ref q0_a) (C := "ConeForgeModel") (T := FM) (N := 46) hx hb hts iM hown hK hP 0 rfl rfl 0 (by decide) (hts _ (bgc bw684)) (fun _ h9 => h9) rfl d_M_measureScales_110 ?_
            refine lv_bipush (v := 8) hx hb d_M_measureScales_113 (by decide) ?_
            refine lv_iload hx hb d_M_measureScales_115 (lv_at hl 3 rfl) ?_
            refine lv_imul hx hb d_M_measureScales_117 ?_
            refine lv_iload_n hx hb d_M_measureScales_118 rfl (lv_at hl 1 rfl) ?_
            refine lv_iadd hx hb d_M_measureScales_119 ?_
            obtain ⟨g3, h⟩ := gd_some h
            refine va_dald hx hb hK hP 1 0 rfl rfl (inb_in g3) d_M_measureScales_120 ?_
            obtain ⟨g4, h⟩ := gd_some h
            refine lv_dmul hx hb d_M_measureScales_121 (isn_n g4) ?_
            obtain ⟨u5, hu5, h⟩ := bi_some h
            refine kD (v := u5) (wc := (w_M_abs T  )) (wc' := (w_M_abs T  )) (runOS (As := [.double (FP.dmul (vq0_rowScaleNow x4.toNatClampNeg) (vq0_a ((8 * x4) + x1).toNatClampNeg))]) (rest := [.double x2]) ((c_M_abs l D T   (FP.dmul (vq0_rowScaleNow x4.toNatClampNeg) (vq0_a ((8 * x4) + x1).toNatClampNeg)) u5 hu5) H.size) ⟨hx, hb, hml, hown, hts⟩ (cwOS bw844 bw845 bw105 bw846 dd_M_abs hts ⟨Nat.le_of_ble_eq_true rfl, Nat.le_of_ble_eq_true rfl⟩)  hNW hK hP hD [] rfl (by decide) rfl hl.1 rfl (lv_room (Nat.le_of_ble_eq_true rfl)) d_M_measureScales_122 ⟨Nat.le_of_ble_eq_true rfl, Nat.le_of_ble_eq_true rfl⟩) hP hD hS hA [] rfl rfl (fun H locs hP hD hS => ?_)
            have hP : va_P D CL (w_M_measureScales T q0 q0_a q0_b q0_c q0_rowScale q0_columnScale q0_sa q0_sb q0_sc q0_x q0_s q0_y q0_p q0_d q0_h q0_f q0_mm q0_low q0_dd q0_r q0_big q0_dt q0_dx q0_t q0_cost q0_rowScaleNow q0_columnScaleNow q0_basic q0_text q0_turned q0_na q0_nb q0_nc vq0_m vq0_n vq0_length vq0_where vq0_effort vq0_thrown vq0_at vq0_scaled vq0_solved vq0_second vq0_nm vq0_nn vq0_number vq0_bad vq0_a vq0_rowScaleNow vq0_columnScaleNow) H := hP
            have hD : va_D A (w_M_measureScales T q0 q0_a q0_b q0_c q0_rowScale q0_columnScale q0_sa q0_sb q0_sc q0_x q0_s q0_y q0_p q0_d q0_h q0_f q0_mm q0_low q0_dd q0_r q0_big q0_dt q0_dx q0_t q0_cost q0_rowScaleNow q0_columnScaleNow q0_basic q0_text q0_turned q0_na q0_nb q0_nc vq0_m vq0_n vq0_length vq0_where vq0_effort vq0_thrown vq0_at vq0_scaled vq0_solved vq0_second vq0_nm vq0_nn vq0_number vq0_bad vq0_a vq0_rowScaleNow vq0_columnScaleNow) := hD
            obtain ⟨u6, hu6, h⟩ := bi_some h
            refine kD (v := u6) (wc := (w_M_max T  )) (wc' := (w_M_max T  )) (runOS (As := [.double x2, .double u5]) (rest := []) ((c_M_max l D T   x2 u5 u6 hu6) H.size) ⟨hx, hb, hml, hown, hts⟩ (cwOS bw847 bw848 bw105 bw849 dd_M_max hts ⟨Nat.le_of_ble_eq_true rfl, Nat.le_of_ble_eq_true rfl⟩)  hNW hK hP hD [] rfl (by decide) rfl hl.1 rfl (lv_room (Nat.le_of_ble_eq_true rfl)) d_M_measureScales_125 ⟨Nat.le_of_ble_eq_true rfl, Nat.le_of_ble_eq_true rfl⟩) hP hD hS hA [] rfl rfl (fun H locs hP hD hS => ?_)
            have hP : va_P D CL (w_M_measureScales T q0 q0_a q0_b q0_c q0_rowScale q0_columnScale q0_sa q0_sb q0_sc q0_x q0_s q0_y q0_p q0_d q0_h q0_f q0_mm q0_low q0_dd q0_r q0_big q0_dt q0_dx q0_t q0_cost q0_rowScaleNow q0_columnScaleNow q0_basic q0_text q0_turned q0_na q0_nb q0_nc vq0_m vq0_n vq0_length vq0_where vq0_effort vq0_thrown vq0_at vq0_scaled vq0_solved vq0_second vq0_nm vq0_nn vq0_number vq0_bad vq0_a vq0_rowScaleNow vq0_columnScaleNow) H := hP
            have hD : va_D A (w_M_measureScales T q0 q0_a q0_b q0_c q0_rowScale q0_columnScale q0_sa q0_sb q0_sc q0_x q0_s q0_y q0_p q0_d q0_h q0_f q0_mm q0_low q0_dd q0_r q0_big q0_dt q0_dx q0_t q0_cost q0_rowScaleNow q0_columnScaleNow q0_basic q0_text q0_turned q0_na q0_nb q0_nc vq0_m vq0_n vq0_length vq0_where vq0_effort vq0_thrown vq0_at vq0_scaled vq0_solved vq0_second vq0_nm vq0_nn vq0_number vq0_bad vq0_a vq0_rowScaleNow vq0_columnScaleNow) := hD
            refine lv_dstore_n (lv' := [(2, .double u6), (0, .ref q0), (1, .int x1), (4, .int x4)]) hx hb d_M_measureScales_128 rfl hl (by decide) rfl (fun ls hl => ?_)
            refine lv_iinc (v := x4 + 1) (lv' := [(4, .int (x4 + 1)), (2, .double u6), (0, .ref q0), (1, .int x1)]) hx hb d_M_measureScales_129 hl (k := 3) rfl rfl (by decide) rfl (fun ls hl => ?_)
            refine lv_goto (tgt := 92) hx hb d_M_measureScales_132 (by decide) ?_
            exact kc92 _ (Option.some.inj h).symm H locs ls hP hD hS (lv_sub hl [2, 3, 1, 0] rfl)
        · intro H locs ls hP hD hS hl
          refine lv_aload_n hx hb d_M_measureScales_135 rfl (lv_at hl 0 rfl) ?_
          refine va_get (D := D) (ci := 8) (v := .ref q0_columnScaleNow) (C := "ConeForgeModel") (T := FM) (N := 46) hx hb hts iM hown hK hP 0 rfl rfl 25 (by decide) (hts _ (bgc bw709)) (fun _ h9 => h9) rfl d_M_measureScales_136 ?_
          refine lv_iload_n hx hb d_M_measureScales_139 rfl (lv_at hl 1 rfl) ?_
          refine lv_aload_n hx hb d_M_measureScales_140 rfl (lv_at hl 0 rfl) ?_
          refine va_get (D := D) (ci := 8) (v := .int vq0_scaled) (C := "ConeForgeModel") (T := FM) (N := 46) hx hb hts iM hown hK hP 0 rfl rfl 36 (by decide) (hts _ (bgc bw720)) (fun _ h9 => h9) rfl d_M_measureScales_141 ?_
          refine lv_if_eq (tgt := 154) hx hb d_M_measureScales_144 (by decide) (fun c7 => ?_) (fun c7 => ?_)
          · have h := it_t c7 h
            refine lv_dconst1 hx hb d_M_measureScales_154 ?_
            obtain ⟨g8, h⟩ := gd_some h
            refine va_dast hx hb hK hP hD hS 3 0 rfl rfl (inb_in g8) d_M_measureScales_155 (fun H locs hP hD hS => ?_)
            have hP : va_P D CL (w_M_measureScales T q0 q0_a q0_b q0_c q0_rowScale q0_columnScale q0_sa q0_sb q0_sc q0_x q0_s q0_y q0_p q0_d q0_h q0_f q0_mm q0_low q0_dd q0_r q0_big q0_dt q0_dx q0_t q0_cost q0_rowScaleNow q0_columnScaleNow q0_basic q0_text q0_turned q0_na q0_nb q0_nc vq0_m vq0_n vq0_length vq0_where vq0_effort vq0_thrown vq0_at vq0_scaled vq0_solved vq0_second vq0_nm vq0_nn vq0_number vq0_bad vq0_a vq0_rowScaleNow (vf_upd vq0_columnScaleNow x1.toNatClampNeg FP.dconst1)) H := hP
            have hD : va_D A (w_M_measureScales T q0 q0_a q0_b q0_c q0_rowScale q0_columnScale q0_sa q0_sb q0_sc q0_x q0_s q0_y q0_p q0_d q0_h q0_f q0_mm q0_low q0_dd q0_r q0_big q0_dt q0_dx q0_t q0_cost q0_rowScaleNow q0_columnScaleNow q0_basic q0_text q0_turned q0_na q0_nb q0_nc vq0_m vq0_n vq0_length vq0_where vq0_effort vq0_thrown vq0_at vq0_scaled vq0_solved vq0_second vq0_nm vq0_nn vq0_number vq0_bad vq0_a vq0_rowScaleNow (vf_upd vq0_columnScaleNow x1.toNatClampNeg FP.dconst1)) := hD
            refine lv_iinc (v := x1 + 1) (lv' := [(1, .int (x1 + 1)), (0, .ref q0), (2, .double u92)]) hx hb d_M_measureScales_156 hl (k := 1) rfl rfl (by decide) rfl (fun ls hl => ?_)
            refine lv_goto (tgt := 79) hx hb d_M_measureScales_159 (by decide) ?_
            exact kc79 _ (Option.some.inj h).symm H locs ls hP hD hS (lv_sub hl [1, 0] rfl)
          · have h := it_f c7 h
            refine lv_dload_n hx hb d_M_measureScales_147 rfl (lv_at hl 2 rfl) ?_
            obtain ⟨u9, hu9, h⟩ := bi_some h
            refine kD (v := u9) (wc := (w_M_power T  )) (wc' := (w_M_power T  )) (runOS (As := [.double u92]) (rest := [.int x1, .ref q0_columnScaleNow]) ((c_M_power l D T   u92 u9 hu9) H.size) ⟨hx, hb, hml, hown, hts⟩ (cwOS bw850 bw851 bw105 bw852 dd_M_power hts ⟨Nat.le_of_ble_eq_true rfl, Nat.le_of_ble_eq_true rfl⟩)  hNW hK hP hD [] rfl (by decide) rfl hl.1 rfl (lv_room (Nat.le_of_ble_eq_true rfl)) d_M_measureScales_148 ⟨Nat.le_of_ble_eq_true rfl, Nat.le_of_ble_eq_true rfl⟩) hP hD hS hA [] rfl rfl (fun H locs hP hD hS => ?_)
            have hP : va_P D CL (w_M_measureScales T q0 q0_a q0_b q0_c q0_rowScale q0_columnScale q0_sa q0_sb q0_sc q0_x q0_s q0_y q0_p q0_d q0_h q0_f q0_mm q0_low q0_dd q0_r q0_big q0_dt q0_dx q0_t q0_cost q0_rowScaleNow q0_columnScaleNow q0_basic q0_text q0_turned q0_na q0_nb q0_nc vq0_m vq0_n vq0_length vq0_where vq0_effort vq0_thrown vq0_at vq0_scaled vq0_solved vq0_second vq0_nm vq0_nn vq0_number vq0_bad vq0_a vq0_rowScaleNow vq0_columnScaleNow) H := hP
            have hD : va_D A (w_M_measureScales T q0 q0_a q0_b q0_c q0_rowScale q0_columnScale q0_sa q0_sb q0_sc q0_x q0_s q0_y q0_p q0_d q0_h q0_f q0_mm q0_low q0_dd q0_r q0_big q0_dt q0_dx q0_t q0_cost q0_rowScaleNow q0_columnScaleNow q0_basic q0_text q0_turned q0_na q0_nb q0_nc vq0_m vq0_n vq0_length vq0_where vq0_effort vq0_thrown vq0_at vq0_scaled vq0_solved vq0_second vq0_nm vq0_nn vq0_number vq0_bad vq0_a vq0_rowScaleNow vq0_columnScaleNow) := hD
            refine lv_goto (tgt := 155) hx hb d_M_measureScales_151 (by decide) ?_
            obtain ⟨g10, h⟩ := gd_some h
            refine va_dast hx hb hK hP hD hS 3 0 rfl rfl (inb_in g10) d_M_measureScales_155 (fun H locs hP hD hS => ?_)
            have hP : va_P D CL (w_M_measureScales T q0 q0_a q0_b q0_c q0_rowScale q0_columnScale q0_sa q0_sb q0_sc q0_x q0_s q0_y q0_p q0_d q0_h q0_f q0_mm q0_low q0_dd q0_r q0_big q0_dt q0_dx q0_t q0_cost q0_rowScaleNow q0_columnScaleNow q0_basic q0_text q0_turned q0_na q0_nb q0_nc vq0_m vq0_n vq0_length vq0_where vq0_effort vq0_thrown vq0_at vq0_scaled vq0_solved vq0_second vq0_nm vq0_nn vq0_number vq0_bad vq0_a vq0_rowScaleNow (vf_upd vq0_columnScaleNow x1.toNatClampNeg u9)) H := hP
            have hD : va_D A (w_M_measureScales T q0 q0_a q0_b q0_c q0_rowScale q0_columnScale q0_sa q0_sb q0_sc q0_x q0_s q0_y q0_p q0_d q0_h q0_f q0_mm q0_low q0_dd q0_r q0_big q0_dt q0_dx q0_t q0_cost q0_rowScaleNow q0_columnScaleNow q0_basic q0_text q0_turned q0_na q0_nb q0_nc vq0_m vq0_n vq0_length vq0_where vq0_effort vq0_thrown vq0_at vq0_scaled vq0_solved vq0_second vq0_nm vq0_nn vq0_number vq0_bad vq0_a vq0_rowScaleNow (vf_upd vq0_columnScaleNow x1.toNatClampNeg u9)) := hD
            refine lv_iinc (v := x1 + 1) (lv' := [(1, .int (x1 + 1)), (0, .ref q0), (2, .double u92)]) hx hb d_M_measureScales_156 hl (k := 1) rfl rfl (by decide) rfl (fun ls hl => ?_)
            refine lv_goto (tgt := 79) hx hb d_M_measureScales_159 (by decide) ?_
            exact kc79 _ (Option.some.inj h).symm H locs ls hP hD hS (lv_sub hl [1, 0] rfl)
      unfold s_M_measureScales_B79 at h
      refine lv_iload_n hx hb d_M_measureScales_79 rfl (lv_at hl 1 rfl) ?_
      refine lv_aload_n hx hb d_M_measureScales_80 rfl (lv_at hl 0 rfl) ?_
      refine va_get (D := D) (ci := 8) (v := .int vq0_n) (C := "ConeForgeModel") (T := FM) (N := 46) hx hb hts iM hown hK hP 0 rfl rfl 30 (by decide) (hts _ (bgc bw714)) (fun _ h9 => h9) rfl d_M_measureScales_81 ?_
      refine lv_icmp_ge (tgt := 162) hx hb d_M_measureScales_84 (by decide) (fun c11 => ?_) (fun c11 => ?_)
      · have h := it_t c11 h
        exact kx79 _ (Option.some.inj h).symm H locs ls hP hD hS (lv_sub hl [] rfl)
      · have h := it_f c11 h
        refine lv_dconst0 hx hb d_M_measureScales_87 ?_
        refine lv_dstore_n (lv' := [(2, .double FP.dconst0), (0, .ref q0), (1, .int x1)]) hx hb d_M_measureScales_88 rfl hl (by decide) rfl (fun ls hl => ?_)
        refine lv_iconst (v := 0) hx hb d_M_measureScales_89 (by decide) ?_
        refine lv_istore (lv' := [(4, .int 0), (2, .double FP.dconst0), (0, .ref q0), (1, .int x1)]) hx hb d_M_measureScales_90 hl (by decide) rfl (fun ls hl => ?_)
        exact L92 vq0_columnScaleNow x1 FP.dconst0 0 H locs ls hP hD hS (lv_sub hl [2, 3, 1, 0] rfl) h
    · intro H locs ls hP hD hS hl
      exact rtV hx hb hr hlocks hQ (Option.some.inj h) hP hS d_M_measureScales_162 rfl
  have L2 : ∀ (vq0_rowScaleNow : Nat → UInt64) (vq0_columnScaleNow : Nat → UInt64) (x1 : Int32), ∀ (H : Heap) (locs : List Loc) (ls : Array Slot), va_P D CL (w_M_measureScales T q0 q0_a q0_b q0_c q0_rowScale q0_columnScale q0_sa q0_sb q0_sc q0_x q0_s q0_y q0_p q0_d q0_h q0_f q0_mm q0_low q0_dd q0_r q0_big q0_dt q0_dx q0_t q0_cost q0_rowScaleNow q0_columnScaleNow q0_basic q0_text q0_turned q0_na q0_nb q0_nc vq0_m vq0_n vq0_length vq0_where vq0_effort vq0_thrown vq0_at vq0_scaled vq0_solved vq0_second vq0_nm vq0_nn vq0_number vq0_bad vq0_a vq0_rowScaleNow vq0_columnScaleNow) H → va_D A (w_M_measureScales T q0 q0_a q0_b q0_c q0_rowScale q0_columnScale q0_sa q0_sb q0_sc q0_x q0_s q0_y q0_p q0_d q0_h q0_f q0_mm q0_low q0_dd q0_r q0_big q0_dt q0_dx q0_t q0_cost q0_rowScaleNow q0_columnScaleNow q0_basic q0_text q0_turned q0_na q0_nb q0_nc vq0_m vq0_n vq0_length vq0_where vq0_effort vq0_thrown vq0_at vq0_scaled vq0_solved vq0_second vq0_nm vq0_nn vq0_number vq0_bad vq0_a vq0_rowScaleNow vq0_columnScaleNow) → va_S A s.heap H locs → lv_has ls 5 [(0, .ref q0), (1, .int x1)] → s_M_measureScales_L2 vq0_m vq0_n vq0_length vq0_where vq0_effort vq0_thrown vq0_at vq0_scaled vq0_solved vq0_second vq0_nm vq0_nn vq0_number vq0_bad vq0_a vq0_rowScaleNow vq0_columnScaleNow x1 = some rm → W p l e (rmk 1 25) s m args below meth c H locs 0 0 Q (F0 m 2 ls []) := by
    intro vq0_rowScaleNow vq0_columnScaleNow x1 H locs ls hP hD hS hl h
    unfold s_M_measureScales_L2 at h
    obtain ⟨u2, hu2, h⟩ := bi_some h
    refine loopO_W (Wh := fun (st : (Nat → UInt64) × Int32) => ∀ (H : Heap) (locs : List Loc) (ls : Array Slot), va_P D CL (w_M_measureScales T q0 q0_a q0_b q0_c q0_rowScale q0_columnScale q0_sa q0_sb q0_sc q0_x q0_s q0_y q0_p q0_d q0_h q0_f q0_mm q0_low q0_dd q0_r q0_big q0_dt q0_dx q0_t q0_cost q0_rowScaleNow q0_columnScaleNow q0_basic q0_text q0_turned q0_na q0_nb q0_nc vq0_m vq0_n vq0_length vq0_where vq0_effort vq0_thrown vq0_at vq0_scaled vq0_solved vq0_second vq0_nm vq0_nn vq0_number vq0_bad vq0_a st.1 vq0_columnScaleNow) H → va_D A (w_M_measureScales T q0 q0_a q0_b q0_c q0_rowScale q0_columnScale q0_sa q0_sb q0_sc q0_x q0_s q0_y q0_p q0_d q0_h q0_f q0_mm q0_low q0_dd q0_r q0_big q0_dt q0_dx q0_t q0_cost q0_rowScaleNow q0_columnScaleNow q0_basic q0_text q0_turned q0_na q0_nb q0_nc vq0_m vq0_n vq0_length vq0_where vq0_effort vq0_thrown vq0_at vq0_scaled vq0_solved vq0_second vq0_nm vq0_nn vq0_number vq0_bad vq0_a st.1 vq0_columnScaleNow) → va_S A s.heap H locs → lv_has ls 5 [(0, .ref q0), (1, .int st.2)] → W p l e (rmk 1 25) s m args below meth c H locs 0 0 Q (F0 m 2 ls [])) (Wx := fun (e1 : (Nat → UInt64)) => ∀ (H : Heap) (locs : List Loc) (ls : Array Slot), va_P D CL (w_M_measureScales T q0 q0_a q0_b q0_c q0_rowScale q0_columnScale q0_sa q0_sb q0_sc q0_x q0_s q0_y q0_p q0_d q0_h q0_f q0_mm q0_low q0_dd q0_r q0_big q0_dt q0_dx q0_t q0_cost q0_rowScaleNow q0_columnScaleNow q0_basic q0_text q0_turned q0_na q0_nb q0_nc vq0_m vq0_n vq0_length vq0_where vq0_effort vq0_thrown vq0_at vq0_scaled vq0_solved vq0_second vq0_nm vq0_nn vq0_number vq0_bad vq0_a e1 vq0_columnScaleNow) H → va_D A (w_M_measureScales T q0 q0_a q0_b q0_c q0_rowScale q0_columnScale q0_sa q0_sb q0_sc q0_x q0_s q0_y q0_p q0_d q0_h q0_f q0_mm q0_low q0_dd q0_r q0_big q0_dt q0_dx q0_t q0_cost q0_rowScaleNow q0_columnScaleNow q0_basic q0_text q0_turned q0_na q0_nb q0_nc vq0_m vq0_n vq0_length vq0_where vq0_effort vq0_thrown vq0_at vq0_scaled vq0_solved vq0_second vq0_nm vq0_nn vq0_number vq0_bad vq0_a e1 vq0_columnScaleNow) → va_S A s.heap H locs → lv_has ls 5 [(0, .ref q0)] → W p l e (rmk 1 25) s m args below meth c H locs 0 0 Q (F0 m 77 ls [])) ?_ 2000 _ u2 hu2 ?_ H locs ls hP hD hS hl
    · intro st rb2 h kc2 kx2 H locs ls hP hD hS hl
      obtain ⟨vq0_rowScaleNow, x1⟩ := st
      have h : s_M_measureScales_B2 vq0_m vq0_n vq0_length vq0_where vq0_effort vq0_thrown vq0_at vq0_scaled vq0_solved vq0_second vq0_nm vq0_nn vq0_number vq0_bad vq0_a vq0_columnScaleNow vq0_rowScaleNow x1 = some rb2 := h
      have L15 : ∀ (vq0_rowScaleNow : Nat → UInt64) (x1 : Int32) (x2 : UInt64) (x4 : Int32), ∀ (H : Heap) (locs : List Loc) (ls : Array Slot), va_P D CL (w_M_measureScales T q0 q0_a q0_b q0_c q0_rowScale q0_columnScale q0_sa q0_sb q0_sc q0_x q0_s q0_y q0_p q0_d q0_h q0_f q0_mm q0_low q0_dd q0_r q0_big q0_dt q0_dx q0_t q0_cost q0_rowScaleNow q0_columnScaleNow q0_basic q0_text q0_turned q0_na q0_nb q0_nc vq0_m vq0_n vq0_length vq0_where vq0_effort vq0_thrown vq0_at vq0_scaled vq0_solved vq0_second vq0_nm vq0_nn vq0_number vq0_bad vq0_a vq0_rowScaleNow vq0_columnScaleNow) H → va_D A (w_M_measureScales T q0 q0_a q0_b q0_c q0_rowScale q0_columnScale q0_sa q0_sb q0_sc q0_x q0_s q0_y q0_p q0_d q0_h q0_f q0_mm q0_low q0_dd q0_r q0_big q0_dt q0_dx q0_t q0_cost q0_rowScaleNow q0_columnScaleNow q0_basic q0_text q0_turned q0_na q0_nb q0_nc vq0_m vq0_n vq0_length vq0_where vq0_effort vq0_thrown vq0_at vq0_scaled vq0_solved vq0_second vq0_nm vq0_nn vq0_number vq0_bad vq0_a vq0_rowScaleNow vq0_columnScaleNow) → va_S A s.heap H locs → lv_has ls 5 [(0, .ref q0), (1, .int x1), (2, .double x2), (4, .int x4)] → s_M_measureScales_L15 vq0_m vq0_n vq0_length vq0_where vq0_effort vq0_thrown vq0_at vq0_scaled vq0_solved vq0_second vq0_nm vq0_nn vq0_number vq0_bad vq0_a vq0_rowScaleNow vq0_columnScaleNow x1 x2 x4 = some rb2 → W p l e (rmk 1 25) s m args below meth c H locs 0 0 Q (F0 m 15 ls []) := by
        intro vq0_rowScaleNow x1 x2 x4 H locs ls hP hD hS hl h
        unfold s_M_measureScales_L15 at h
        obtain ⟨u15, hu15, h⟩ := bi_some h
        refine loopO_W (Wh := fun (st : UInt64 × Int32) => ∀ (H : Heap) (locs : List Loc) (ls : Array Slot), va_P D CL (w_M_measureScales T q0 q0_a q0_b q0_c q0_rowScale q0_columnScale q0_sa q0_sb q0_sc q0_x q0_s q0_y q0_p q0_d q0_h q0_f q0_mm q0_low q0_dd q0_r q0_big q0_dt q0_dx q0_t q0_cost q0_rowScaleNow q0_columnScaleNow q0_basic q0_text q0_turned q0_na q0_nb q0_nc vq0_m vq0_n vq0_length vq0_where vq0_effort vq0_thrown vq0_at vq0_scaled vq0_solved vq0_second vq0_nm vq0_nn vq0_number vq0_bad vq0_a vq0_rowScaleNow vq0_columnScaleNow) H → va_D A (w_M_measureScales T q0 q0_a q0_b q0_c q0_rowScale q0_columnScale q0_sa q0_sb q0_sc q0_x q0_s q0_y q0_p q0_d q0_h q0_f q0_mm q0_low q0_dd q0_r q0_big q0_dt q0_dx q0_t q0_cost q0_rowScaleNow q0_columnScaleNow q0_basic q0_text q0_turned q0_na q0_nb q0_nc vq0_m vq0_n vq0_length vq0_where vq0_effort vq0_thrown vq0_at vq0_scaled vq0_solved vq0_second vq0_nm vq0_nn vq0_number vq0_bad vq0_a vq0_rowScaleNow vq0_columnScaleNow) → va_S A s.heap H locs → lv_has ls 5 [(0, .ref q0), (1, .int x1), (2, .double st.1), (4, .int st.2)] → W p l e (rmk 1 25) s m args below meth c H locs 0 0 Q (F0 m 15 ls [])) (Wx := fun (e1 : UInt64) => ∀ (H : Heap) (locs : List Loc) (ls : Array Slot), va_P D CL (w_M_measureScales T q0 q0_a q0_b q0_c q0_rowScale q0_columnScale q0_sa q0_sb q0_sc q0_x q0_s q0_y q0_p q0_d q0_h q0_f q0_mm q0_low q0_dd q0_r q0_big q0_dt q0_dx q0_t q0_cost q0_rowScaleNow q0_columnScaleNow q0_basic q0_text q0_turned q0_na q0_nb q0_nc vq0_m vq0_n vq0_length vq0_where vq0_effort vq0_thrown vq0_at vq0_scaled vq0_solved vq0_second vq0_nm vq0_nn vq0_number vq0_bad vq0_a vq0_rowScaleNow vq0_columnScaleNow) H → va_D A (w_M_measureScales T q0 q0_a q0_b q0_c q0_rowScale q0_columnScale q0_sa q0_sb q0_sc q0_x q0_s q0_y q0_p q0_d q0_h q0_f q0_mm q0_low q0_dd q0_r q0_big q0_dt q0_dx q0_t q0_cost q0_rowScaleNow q0_columnScaleNow q0_basic q0_text q0_turned q0_na q0_nb q0_nc vq0_m vq0_n vq0_length vq0_where vq0_effort vq0_thrown vq0_at vq0_scaled vq0_solved vq0_second vq0_nm vq0_nn vq0_number vq0_bad vq0_a vq0_rowScaleNow vq0_columnScaleNow) → va_S A s.heap H locs → lv_has ls 5 [(0, .ref q0), (1, .int x1), (2, .double e1)] → W p l e (rmk 1 25) s m args below meth c H locs 0 0 Q (F0 m 50 ls [])) ?_ 2000 _ u15 hu15 ?_ H locs ls hP hD hS hl
        · intro st rb15 h kc15 kx15 H locs ls hP hD hS hl
          obtain ⟨x2, x4⟩ := st
          have h : s_M_measureScales_B15 vq0_m vq0_n vq0_length vq0_where vq0_effort vq0_thrown vq0_at vq0_scaled vq0_solved vq0_second vq0_nm vq0_nn vq0_number vq0_bad vq0_a vq0_rowScaleNow vq0_columnScaleNow x1 x2 x4 = some rb15 := h
          unfold s_M_measureScales_B15 at h
          refine lv_iload hx hb d_M_measureScales_15 (lv_at hl 3 rfl) ?_
          refine lv_aload_n hx hb d_M_measureScales_17 rfl (lv_at hl 0 rfl) ?_
          refine va_get (D := D) (ci := 8) (v := .int vq0_n) (C := "ConeForgeModel") (T := FM) (N := 46) hx hb hts iM hown hK hP 0 rfl rfl 30 (by decide) (hts _ (bgc bw714)) (fun _ h9 => h9) rfl d_M_measureScales_18 ?_
          refine lv_icmp_ge (tgt := 50) hx hb d_M_measureScales_21 (by decide) (fun c12 => ?_) (fun c12 => ?_)
          · have h := it_t c12 h
            exact kx15 _ (Option.some.inj h).symm H locs ls hP hD hS (lv_sub hl [0, 1, 2] rfl)
          · have h := it_f c12 h
            refine lv_dload_n hx hb d_M_measureScales_24 rfl (lv_at hl 2 rfl) ?_
            refine lv_aload_n hx hb d_M_measureScales_25 rfl (lv_at hl 0 rfl) ?_
            refine va_get (D := D) (ci := 8) (v := .ref q0_a) (C := "ConeForgeModel") (T := FM) (N := 46) hx hb hts iM hown hK hP 0 rfl rfl 0 (by decide) (hts _ (bgc bw684)) (fun _ h9 => h9) rfl d_M_measureScales_26 ?_
            refine lv_bipush (v := 8) hx hb d_M_measureScales_29 (by decide) ?_
            refine lv_iload_n hx hb d_M_measureScales_31 rfl (lv_at hl 1 rfl) ?_
            refine lv_imul hx hb d_M_measureScales_32 ?_
            refine lv_iload hx hb d_M_measureScales_33 (lv_at hl 3 rfl) ?_
            refine lv_iadd hx hb d_M_measureScales_35 ?_
            obtain ⟨g13, h⟩ := gd_some h
            refine va_dald hx hb hK hP 1 0 rfl rfl (inb_in g13) d_M_measureScales_36 ?_
            obtain ⟨u14, hu14, h⟩ := bi_some h
            refine kD (v := u14) (wc := (w_M_abs T  )) (wc' := (w_M_abs T  )) (runOS (As := [.double (vq0_a ((8 * x1) + x4).toNatClampNeg)]) (rest := [.double x2]) ((c_M_abs l D T   (vq0_a ((8 * x1) + x4).toNatClampNeg) u14 hu14) H.size) ⟨hx, hb, hml, hown, hts⟩ (cwOS bw844 bw845 bw105 bw846 dd_M_abs hts ⟨Nat.le_of_ble_eq_true rfl, Nat.le_of_ble_eq_true rfl⟩)  hNW hK hP hD [] rfl (by decide) rfl hl.1 rfl (lv_room (Nat.le_of_ble_eq_true rfl)) d_M_measureScales_37 ⟨Nat.le_of_ble_eq_true rfl, Nat.le_of_ble_eq_true rfl⟩) hP hD hS hA [] rfl rfl (fun H locs hP hD hS => ?_)
            have hP : va_P D CL (w_M_measureScales T q0 q0_a q0_b q0_c q0_rowScale q0_columnScale q0_sa q0_sb q0_sc q0_x q0_s q0_y q0_p q0_d q0_h q0_f q0_mm q0_low q0_dd q0_r q0_big q0_dt q0_dx q0_t q0_cost q0_rowScaleNow q0_columnScaleNow q0_basic q0_text q0_turned q0_na q0_nb q0_nc vq0_m vq0_n vq0_length vq0_where vq0_effort vq0_thrown vq0_at vq0_scaled vq0_solved vq0_second vq0_nm vq0_nn vq0_number vq0_bad vq0_a vq0_rowScaleNow vq0_columnScaleNow) H := hP
            have hD : va_D A (w_M_measureScales T q0 q0_a q0_b q0_c q0_rowScale q0_columnScale q0_sa q0_sb q0_sc q0_x q0_s q0_y q0_p q0_d q0_h q0_f q0_mm q0_low q0_dd q0_r q0_big q0_dt q0_dx q0_t q0_cost q0_rowScaleNow q0_columnScaleNow q0_basic q0_text q0_turned q0_na q0_nb q0_nc vq0_m vq0_n vq0_length vq0_where vq0_effort vq0_thrown vq0_at vq0_scaled vq0_solved vq0_second vq0_nm vq0_nn vq0_number vq0_bad vq0_a vq0_rowScaleNow vq0_columnScaleNow) := hD
            obtain ⟨u15, hu15, h⟩ := bi_some h
            refine kD (v := u15) (wc := (w_M_max T  )) (wc' := (w_M_max T  )) (runOS (As := [.double x2, .double u14]) (rest := []) ((c_M_max l D T   x2 u14 u15 hu15) H.size) ⟨hx, hb, hml, hown, hts⟩ (cwOS bw847 bw848 bw105 bw849 dd_M_max hts ⟨Nat.le_of_ble_eq_true rfl, Nat.le_of_ble_eq_true rfl⟩)  hNW hK hP hD [] rfl (by decide) rfl hl.1 rfl (lv_room (Nat.le_of_ble_eq_true rfl)) d_M_measureScales_40 ⟨Nat.le_of_ble_eq_true rfl, Nat.le_of_ble_eq_true rfl⟩) hP hD hS hA [] rfl rfl (fun H locs hP hD hS => ?_)
            have hP : va_P D CL (w_M_measureScales T q0 q0_a q0_b q0_c q0_rowScale q0_columnScale q0_sa q0_sb q0_sc q0_x q0_s q0_y q0_p q0_d q0_h q0_f q0_mm q0_low q0_dd q0_r q0_big q0_dt q0_dx q0_t q0_cost q0_rowScaleNow q0_columnScaleNow q0_basic q0_text q0_turned q0_na q0_nb q0_nc vq0_m vq0_n vq0_length vq0_where vq0_effort vq0_thrown vq0_at vq0_scaled vq0_solved vq0_second vq0_nm vq0_nn vq0_number vq0_bad vq0_a vq0_rowScaleNow vq0_columnScaleNow) H := hP
            have hD : va_D A (w_M_measureScales T q0 q0_a q0_b q0_c q0_rowScale q0_columnScale q0_sa q0_sb q0_sc q0_x q0_s q0_y q0_p q0_d q0_h q0_f q0_mm q0_low q0_dd q0_r q0_big q0_dt q0_dx q0_t q0_cost q0_rowScaleNow q0_columnScaleNow q0_basic q0_text q0_turned q0_na q0_nb q0_nc vq0_m vq0_n vq0_length vq0_where vq0_effort vq0_thrown vq0_at vq0_scaled vq0_solved vq0_second vq0_nm vq0_nn vq0_number vq0_bad vq0_a vq0_rowScaleNow vq0_columnScaleNow) := hD
            refine lv_dstore_n (lv' := [(2, .double u15), (0, .ref q0), (1, .int x1), (4, .int x4)]) hx hb d_M_measureScales_43 rfl hl (by decide) rfl (fun ls hl => ?_)
            refine lv_iinc (v := x4 + 1) (lv' := [(4, .int (x4 + 1)), (2, .double u15), (0, .ref q0), (1, .int x1)]) hx hb d_M_measureScales_44 hl (k := 3) rfl rfl (by decide) rfl (fun ls hl => ?_)
            refine lv_goto (tgt := 15) hx hb d_M_measureScales_47 (by decide) ?_
            exact kc15 _ (Option.some.inj h).symm H locs ls hP hD hS (lv_sub hl [2, 3, 1, 0] rfl)
        · intro H locs ls hP hD hS hl
          refine lv_aload_n hx hb d_M_measureScales_50 rfl (lv_at hl 0 rfl) ?_
          refine va_get (D := D) (ci := 8) (v := .ref q0_rowScaleNow) (C := "ConeForgeModel") (T := FM) (N := 46) hx hb hts iM hown hK hP 0 rfl rfl 24 (by decide) (hts _ (bgc bw708)) (fun _ h9 => h9) rfl d_M_measureScales_51 ?_
          refine lv_iload_n hx hb d_M_measureScales_54 rfl (lv_at hl 1 rfl) ?_
          refine lv_aload_n hx hb d_M_measureScales_55 rfl (lv_at hl 0 rfl) ?_
          refine va_get (D := D) (ci := 8) (v := .int vq0_scaled) (C := "ConeForgeModel") (T := FM) (N := 46) hx hb hts iM hown hK hP 0 rfl rfl 36 (by decide) (hts _ (bgc bw720)) (fun _ h9 => h9) rfl d_M_measureScales_56 ?_
          refine lv_if_eq (tgt := 69) hx hb d_M_measureScales_59 (by decide) (fun c16 => ?_) (fun c16 => ?_)
          · have h := it_t c16 h
            refine lv_dconst1 hx hb d_M_measureScales_69 ?_
            obtain ⟨g17, h⟩ := gd_some h
            refine va_dast hx hb hK hP hD hS 2 0 rfl rfl (inb_in g17) d_M_measureScales_70 (fun H locs hP hD hS => ?_)
            have hP : va_P D CL (w_M_measureScales T q0 q0_a q0_b q0_c q0_rowScale q0_columnScale q0_sa q0_sb q0_sc q0_x q0_s q0_y q0_p q0_d q0_h q0_f q0_mm q0_low q0_dd q0_r q0_big q0_dt q0_dx q0_t q0_cost q0_rowScaleNow q0_columnScaleNow q0_basic q0_text q0_turned q0_na q0_nb q0_nc vq0_m vq0_n vq0_length vq0_where vq0_effort vq0_thrown vq0_at vq0_scaled vq0_solved vq0_second vq0_nm vq0_nn vq0_number vq0_bad vq0_a (vf_upd vq0_rowScaleNow x1.toNatClampNeg FP.dconst1) vq0_columnScaleNow) H := hP
            have hD : va_D A (w_M_measureScales T q0 q0_a q0_b q0_c q0_rowScale q0_columnScale q0_sa q0_sb q0_sc q0_x q0_s q0_y q0_p q0_d q0_h q0_f q0_mm q0_low q0_dd q0_r q0_big q0_dt q0_dx q0_t q0_cost q0_rowScaleNow q0_columnScaleNow q0_basic q0_text q0_turned q0_na q0_nb q0_nc vq0_m vq0_n vq0_length vq0_where vq0_effort vq0_thrown vq0_at vq0_scaled vq0_solved vq0_second vq0_nm vq0_nn vq0_number vq0_bad vq0_a (vf_upd vq0_rowScaleNow x1.toNatClampNeg FP.dconst1) vq0_columnScaleNow) := hD
            refine lv_iinc (v := x1 + 1) (lv' := [(1, .int (x1 + 1)), (0, .ref q0), (2, .double u15)]) hx hb d_M_measureScales_71 hl (k := 1) rfl rfl (by decide) rfl (fun ls hl => ?_)
            refine lv_goto (tgt := 2) hx hb d_M_measureScales_74 (by decide) ?_
            exact kc2 _ (Option.some.inj h).symm H locs ls hP hD hS (lv_sub hl [1, 0] rfl)
          · have h := it_f c16 h
            refine lv_dload_n hx hb d_M_measureScales_62 rfl (lv_at hl 2 rfl) ?_
            obtain ⟨u18, hu18, h⟩ := bi_some h
            refine kD (v := u18) (wc := (w_M_power T  )) (wc' := (w_M_power T  )) (runOS (As := [.double u15]) (rest := [.int x1, .ref q0_rowScaleNow]) ((c_M_power l D T   u15 u18 hu18) H.size) ⟨hx, hb, hml, hown, hts⟩ (cwOS bw850 bw851 bw105 bw852 dd_M_power hts ⟨Nat.le_of_ble_eq_true rfl, Nat.le_of_ble_eq_true rfl⟩)  hNW hK hP hD [] rfl (by decide) rfl hl.1 rfl (lv_room (Nat.le_of_ble_eq_true rfl)) d_M_measureScales_63 ⟨Nat.le_of_ble_eq_true rfl, Nat.le_of_ble_eq_true rfl⟩) hP hD hS hA [] rfl rfl (fun H locs hP hD hS => ?_)
            have hP : va_P D CL (w_M_measureScales T q0 q0_a q0_b q0_c q0_rowScale q0_columnScale q0_sa q0_sb q0_sc q0_x q0_s q0_y q0_p q0_d q0_h q0_f q0_mm q0_low q0_dd q0_r q0_big q0_dt q0_dx q0_t q0_cost q0_rowScaleNow q0_columnScaleNow q0_basic q0_text q0_turned q0_na q0_nb q0_nc vq0_m vq0_n vq0_length vq0_where vq0_effort vq0_thrown vq0_at vq0_scaled vq0_solved vq0_second vq0_nm vq0_nn vq0_number vq0_bad vq0_a vq0_rowScaleNow vq0_columnScaleNow) H := hP
            have hD : va_D A (w_M_measureScales T q0 q0_a q0_b q0_c q0_rowScale q0_columnScale q0_sa q0_sb q0_sc q0_x q0_s q0_y q0_p q0_d q0_h q0_f q0_mm q0_low q0_dd q0_r q0_big q0_dt q0_dx q0_t q0_cost q0_rowScaleNow q0_columnScaleNow q0_basic q0_text q0_turned q0_na q0_nb q0_nc vq0_m vq0_n vq0_length vq0_where vq0_effort vq0_thrown vq0_at vq0_scaled vq0_solved vq0_second vq0_nm vq0_nn vq0_number vq0_bad vq0_a vq0_rowScaleNow vq0_columnScaleNow) := hD
            refine lv_goto (tgt := 70) hx hb d_M_measureScales_66 (by decide) ?_
            obtain ⟨g19, h⟩ := gd_some h
            refine va_dast hx hb hK hP hD hS 2 0 rfl rfl (inb_in g19) d_M_measureScales_70 (fun H locs hP hD hS => ?_)
            have hP : va_P D CL (w_M_measureScales T q0 q0_a q0_b q0_c q0_rowScale q0_columnScale q0_sa q0_sb q0_sc q0_x q0_s q0_y q0_p q0_d q0_h q0_f q0_mm q0_low q0_dd q0_r q0_big q0_dt q0_dx q0_t q0_cost q0_rowScaleNow q0_columnScaleNow q0_basic q0_text q0_turned q0_na q0_nb q0_nc vq0_m vq0_n vq0_length vq0_where vq0_effort vq0_thrown vq0_at vq0_scaled vq0_solved vq0_second vq0_nm vq0_nn vq0_number vq0_bad vq0_a (vf_upd vq0_rowScaleNow x1.toNatClampNeg u18) vq0_columnScaleNow) H := hP
            have hD : va_D A (w_M_measureScales T q0 q0_a q0_b q0_c q0_rowScale q0_columnScale q0_sa q0_sb q0_sc q0_x q0_s q0_y q0_p q0_d q0_h q0_f q0_mm q0_low q0_dd q0_r q0_big q0_dt q0_dx q0_t q0_cost q0_rowScaleNow q0_columnScaleNow q0_basic q0_text q0_turned q0_na q0_nb q0_nc vq0_m vq0_n vq0_length vq0_where vq0_effort vq0_thrown vq0_at vq0_scaled vq0_solved vq0_second vq0_nm vq0_nn vq0_number vq0_bad vq0_a (vf_upd vq0_rowScaleNow x1.toNatClampNeg u18) vq0_columnScaleNow) := hD
            refine lv_iinc (v := x1 + 1) (lv' := [(1, .int (x1 + 1)), (0, .ref q0), (2, .double u15)]) hx hb d_M_measureScales_71 hl (k := 1) rfl rfl (by decide) rfl (fun ls hl => ?_)
            refine lv_goto (tgt := 2) hx hb d_M_measureScales_74 (by decide) ?_
            exact kc2 _ (Option.some.inj h).symm H locs ls hP hD hS (lv_sub hl [1, 0] rfl)
      unfold s_M_measureScales_B2 at h
      refine lv_iload_n hx hb d_M_measureScales_2 rfl (lv_at hl 1 rfl) ?_
      refine lv_aload_n hx hb d_M_measureScales_3 rfl (lv_at hl 0 rfl) ?_
      refine va_get (D := D) (ci := 8) (v := .int vq0_m) (C := "ConeForgeModel") (T := FM) (N := 46) hx hb hts iM hown hK hP 0 rfl rfl 29 (by decide) (hts _ (bgc bw713)) (fun _ h9 => h9) rfl d_M_measureScales_4 ?_
      refine lv_icmp_ge (tgt := 77) hx hb d_M_measureScales_7 (by decide) (fun c20 => ?_) (fun c20 => ?_)
      · have h := it_t c20 h
        exact kx2 _ (Option.some.inj h).symm H locs ls hP hD hS (lv_sub hl [0] rfl)
      · have h := it_f c20 h
        refine lv_dconst0 hx hb d_M_measureScales_10 ?_
        refine lv_dstore_n (lv' := [(2, .double FP.dconst0), (0, .ref q0), (1, .int x1)]) hx hb d_M_measureScales_11 rfl hl (by decide) rfl (fun ls hl => ?_)
        refine lv_iconst (v := 0) hx hb d_M_measureScales_12 (by decide) ?_
        refine lv_istore (lv' := [(4, .int 0), (2, .double FP.dconst0), (0, .ref q0), (1, .int x1)]) hx hb d_M_measureScales_13 hl (by decide) rfl (fun ls hl => ?_)
        exact L15 vq0_rowScaleNow x1 FP.dconst0 0 H locs ls hP hD hS (lv_sub hl [2, 3, 1, 0] rfl) h
    · intro H locs ls hP hD hS hl
      refine lv_iconst (v := 0) hx hb d_M_measureScales_77 (by decide) ?_
      refine lv_istore_n (lv' := [(1, .int 0), (0, .ref q0)]) hx hb d_M_measureScales_78 rfl hl (by decide) rfl (fun ls hl => ?_)
      exact L79 u2 vq0_columnScaleNow 0 H locs ls hP hD hS (lv_sub hl [1, 0] rfl) h
  unfold s_M_measureScales at h
  refine lv_iconst (v := 0) hx hb d_M_measureScales_0 (by decide) ?_
  refine lv_istore_n (lv' := [(1, .int 0), (0, .ref q0)]) hx hb d_M_measureScales_1 rfl hl (by decide) rfl (fun ls hl => ?_)
  exact L2 vq0_rowScaleNow vq0_columnScaleNow 0 H locs ls hP hD hS (lv_sub hl [1, 0] rfl) h
theorem d_M_scale_0 : decode prog_10_method_50_code 0 = .ok (.aload_n 0, 1) := by decide +kernel
theorem d_M_scale_1 : decode prog_10_method_50_code 1 = .ok (.iload_n 1, 1) := by decide +kernel
theorem d_M_scale_2 : decode prog_10_method_50_code 2 = .ok (.iconst 0, 1) := by decide +kernel
theorem d_M_scale_3 : decode prog_10_method_50_code 3 = .ok (.iconst 1, 1) := by decide +kernel
theorem d_M_scale_4 : decode prog_10_method_50_code 4 = .ok (.invokestatic 125, 3) := by decide +kernel
theorem d_M_scale_7 : decode prog_10_method_50_code 7 = .ok (.ifCond .ne 7, 3) := by decide +kernel
theorem d_M_scale_10 : decode prog_10_method_50_code 10 = .ok (.iconst 1, 1) := by decide +kernel
theorem d_M_scale_11 : decode prog_10_method_50_code 11 = .ok (.goto 33, 3) := by decide +kernel
theorem d_M_scale_14 : decode prog_10_method_50_code 14 = .ok (.iload_n 2, 1) := by decide +kernel
theorem d_M_scale_15 : decode prog_10_method_50_code 15 = .ok (.iconst 0, 1) := by decide +kernel
theorem d_M_scale_16 : decode prog_10_method_50_code 16 = .ok (.iload_n 1, 1) := by decide +kernel
theorem d_M_scale_17 : decode prog_10_method_50_code 17 = .ok (.ifCond .ne 10, 3) := by decide +kernel
theorem d_M_scale_20 : decode prog_10_method_50_code 20 = .ok (.aload_n 0, 1) := by decide +kernel
theorem d_M_scale_21 : decode prog_10_method_50_code 21 = .ok (.getfield 99, 3) := by decide +kernel
theorem d_M_scale_24 : decode prog_10_method_50_code 24 = .ok (.goto 7, 3) := by decide +kernel
theorem d_M_scale_27 : decode prog_10_method_50_code 27 = .ok (.aload_n 0, 1) := by decide +kernel
theorem d_M_scale_28 : decode prog_10_method_50_code 28 = .ok (.getfield 103, 3) := by decide +kernel
theorem d_M_scale_31 : decode prog_10_method_50_code 31 = .ok (.iconst 1, 1) := by decide +kernel
theorem d_M_scale_32 : decode prog_10_method_50_code 32 = .ok (.isub, 1) := by decide +kernel
theorem d_M_scale_33 : decode prog_10_method_50_code 33 = .ok (.invokestatic 125, 3) := by decide +kernel
theorem d_M_scale_36 : decode prog_10_method_50_code 36 = .ok (.ifCond .ne 7, 3) := by decide +kernel
theorem d_M_scale_39 : decode prog_10_method_50_code 39 = .ok (.iconst 2, 1) := by decide +kernel
theorem d_M_scale_40 : decode prog_10_method_50_code 40 = .ok (.goto 4, 3) := by decide +kernel
theorem d_M_scale_43 : decode prog_10_method_50_code 43 = .ok (.iconst 0, 1) := by decide +kernel
theorem d_M_scale_44 : decode prog_10_method_50_code 44 = .ok (.putfield 122, 3) := by decide +kernel
theorem d_M_scale_47 : decode prog_10_method_50_code 47 = .ok (.aload_n 0, 1) := by decide +kernel
theorem d_M_scale_48 : decode prog_10_method_50_code 48 = .ok (.getfield 122, 3) := by decide +kernel
theorem d_M_scale_51 : decode prog_10_method_50_code 51 = .ok (.ifCond .le 5, 3) := by decide +kernel
theorem d_M_scale_54 : decode prog_10_method_50_code 54 = .ok (.dconst 0, 1) := by decide +kernel
theorem d_M_scale_55 : decode prog_10_method_50_code 55 = .ok (.dreturn, 1) := by decide +kernel
theorem d_M_scale_56 : decode prog_10_method_50_code 56 = .ok (.aload_n 0, 1) := by decide +kernel
theorem d_M_scale_57 : decode prog_10_method_50_code 57 = .ok (.invokevirtual 311, 3) := by decide +kernel
theorem d_M_scale_60 : decode prog_10_method_50_code 60 = .ok (.iload_n 1, 1) := by decide +kernel
theorem d_M_scale_61 : decode prog_10_method_50_code 61 = .ok (.ifCond .ne 12, 3) := by decide +kernel
theorem d_M_scale_64 : decode prog_10_method_50_code 64 = .ok (.aload_n 0, 1) := by decide +kernel
theorem d_M_scale_65 : decode prog_10_method_50_code 65 = .ok (.getfield 82, 3) := by decide +kernel
theorem d_M_scale_68 : decode prog_10_method_50_code 68 = .ok (.iload_n 2, 1) := by decide +kernel
theorem d_M_scale_69 : decode prog_10_method_50_code 69 = .ok (.daload, 1) := by decide +kernel
theorem d_M_scale_70 : decode prog_10_method_50_code 70 = .ok (.goto 9, 3) := by decide +kernel
theorem d_M_scale_73 : decode prog_10_method_50_code 73 = .ok (.aload_n 0, 1) := by decide +kernel
theorem d_M_scale_74 : decode prog_10_method_50_code 74 = .ok (.getfield 85, 3) := by decide +kernel
theorem d_M_scale_77 : decode prog_10_method_50_code 77 = .ok (.iload_n 2, 1) := by decide +kernel
theorem d_M_scale_78 : decode prog_10_method_50_code 78 = .ok (.daload, 1) := by decide +kernel
theorem d_M_scale_79 : decode prog_10_method_50_code 79 = .ok (.dreturn, 1) := by decide +kernel
abbrev w_M_scale (T : Nat → ClassId) (q0 : Nat) (q0_a : Nat) (q0_b : Nat) (q0_c : Nat) (q0_rowScale : Nat) (q0_columnScale : Nat) (q0_sa : Nat) (q0_sb : Nat) (q0_sc : Nat) (q0_x : Nat) (q0_s : Nat) (q0_y : Nat) (q0_p : Nat) (q0_d : Nat) (q0_h : Nat) (q0_f : Nat) (q0_mm : Nat) (q0_low : Nat) (q0_dd : Nat) (q0_r : Nat) (q0_big : Nat) (q0_dt : Nat) (q0_dx : Nat) (q0_t : Nat) (q0_cost : Nat) (q0_rowScaleNow : Nat) (q0_columnScaleNow : Nat) (q0_basic : Nat) (q0_text : Nat) (q0_turned : Nat) (q0_na : Nat) (q0_nb : Nat) (q0_nc : Nat) (vq0_m : Int32) (vq0_n : Int32) (vq0_length : Int32) (vq0_where : Int32) (vq0_effort : Int32) (vq0_thrown : Int32) (vq0_at : Int32) (vq0_scaled : Int32) (vq0_solved : Int32) (vq0_second : Int32) (vq0_nm : Int32) (vq0_nn : Int32) (vq0_number : UInt64) (vq0_bad : Int32) (vq0_a : Nat → UInt64) (vq0_rowScaleNow : Nat → UInt64) (vq0_columnScaleNow : Nat → UInt64) : va_W := [(q0, .inr (8, [.ref q0_a, .ref q0_b, .ref q0_c, .ref q0_rowScale, .ref q0_columnScale, .ref q0_sa, .ref q0_sb, .ref q0_sc, .ref q0_x, .ref q0_s, .ref q0_y, .ref q0_p, .ref q0_d, .ref q0_h, .ref q0_f, .ref q0_mm, .ref q0_low, .ref q0_dd, .ref q0_r, .ref q0_big, .ref q0_dt, .ref q0_dx, .ref q0_t, .ref q0_cost, .ref q0_rowScaleNow, .ref q0_columnScaleNow, .ref q0_basic, .ref q0_text, .ref q0_turned, .int vq0_m, .int vq0_n, .int vq0_length, .int vq0_where, .int vq0_effort, .int vq0_thrown, .int vq0_at, .int vq0_scaled, .int vq0_solved, .int vq0_second, .ref q0_na, .ref q0_nb, .ref q0_nc, .int vq0_nm, .int vq0_nn, .double vq0_number, .int vq0_bad])), (q0_a, .inl (T 0, 40, .inr (.inr (.inr (.inl vq0_a))))), (q0_rowScaleNow, .inl (T 0, 5, .inr (.inr (.inr (.inl vq0_rowScaleNow))))), (q0_columnScaleNow, .inl (T 0, 8, .inr (.inr (.inr (.inl vq0_columnScaleNow)))))]
def s_M_scale (vq0_m : Int32) (vq0_n : Int32) (vq0_length : Int32) (vq0_where : Int32) (vq0_effort : Int32) (vq0_thrown : Int32) (vq0_at : Int32) (vq0_scaled : Int32) (vq0_solved : Int32) (vq0_second : Int32) (vq0_nm : Int32) (vq0_nn : Int32) (vq0_number : UInt64) (vq0_bad : Int32) (vq0_a : Nat → UInt64) (vq0_rowScaleNow : Nat → UInt64) (vq0_columnScaleNow : Nat → UInt64) (x1 : Int32) (x2 : Int32) : Option (UInt64 × Int32 × (Nat → UInt64) × (Nat → UInt64)) :=
  (s_M_in x1 0 1).bind fun u1 => if u1 = 0 then (if 1 ≤ 0 then ((s_M_measureScales vq0_m vq0_n vq0_length vq0_where vq0_effort 1 vq0_at vq0_scaled vq0_solved vq0_second vq0_nm vq0_nn vq0_number vq0_bad vq0_a vq0_rowScaleNow vq0_columnScaleNow).bind fun u29 => if x1 = 0 then (gd (inb x2 5) <| some (u29.1 x2.toNatClampNeg, 1, u29.1, u29.2)) else (gd (inb x2 8) <| some (u29.2 x2.toNatClampNeg, 1, u29.1, u29.2))) else (some (FP.dconst0, 1, vq0_rowScaleNow, vq0_columnScaleNow))) else (if x1 = 0 then ((s_M_in x2 0 (vq0_m - 1)).bind fun u16 => if u16 = 0 then (if 2 ≤ 0 then ((s_M_measureScales vq0_m vq0_n vq0_length vq0_where vq0_effort 2 vq0_at vq0_scaled vq0_solved vq0_second vq0_nm vq0_nn vq0_number vq0_bad vq0_a vq0_rowScaleNow vq0_columnScaleNow).bind fun u24 => if x1 = 0 then (gd (inb x2 5) <| some (u24.1 x2.toNatClampNeg, 2, u24.1, u24.2)) else (gd (inb x2 8) <| some (u24.2 x2.toNatClampNeg, 2, u24.1, u24.2))) else (some (FP.dconst0, 2, vq0_rowScaleNow, vq0_columnScaleNow))) else (if 0 ≤ 0 then ((s_M_measureScales vq0_m vq0_n vq0_length vq0_where vq0_effort 0 vq0_at vq0_scaled vq0_solved vq0_second vq0_nm vq0_nn vq0_number vq0_bad vq0_a vq0_rowScaleNow vq0_columnScaleNow).bind fun u19 => if x1 = 0 then (gd (inb x2 5) <| some (u19.1 x2.toNatClampNeg, 0, u19.1, u19.2)) else (gd (inb x2 8) <| some (u19.2 x2.toNatClampNeg, 0, u19.1, u19.2))) else (some (FP.dconst0, 0, vq0_rowScaleNow, vq0_columnScaleNow)))) else ((s_M_in x2 0 (vq0_n - 1)).bind fun u4 => if u4 = 0 then (if 2 ≤ 0 then ((s_M_measureScales vq0_m vq0_n vq0_length vq0_where vq0_effort 2 vq0_at vq0_scaled vq0_solved vq0_second vq0_nm vq0_nn vq0_number vq0_bad vq0_a vq0_rowScaleNow vq0_columnScaleNow).bind fun u12 => if x1 = 0 then (gd (inb x2 5) <| some (u12.1 x2.toNatClampNeg, 2, u12.1, u12.2)) else (gd (inb x2 8) <| some (u12.2 x2.toNatClampNeg, 2, u12.1, u12.2))) else (some (FP.dconst0, 2, vq0_rowScaleNow, vq0_columnScaleNow))) else (if 0 ≤ 0 then ((s_M_measureScales vq0_m vq0_n vq0_length vq0_where vq0_effort 0 vq0_at vq0_scaled vq0_solved vq0_second vq0_nm vq0_nn vq0_number vq0_bad vq0_a vq0_rowScaleNow vq0_columnScaleNow).bind fun u7 => if x1 = 0 then (gd (inb x2 5) <| some (u7.1 x2.toNatClampNeg, 0, u7.1, u7.2)) else (gd (inb x2 8) <| some (u7.2 x2.toNatClampNeg, 0, u7.1, u7.2))) else (some (FP.dconst0, 0, vq0_rowScaleNow, vq0_columnScaleNow)))))
set_option maxHeartbeats 4000000 in
set_option maxRecDepth 100000 in
theorem c_M_scale (l : Launch) (D : va_G) (T : Nat → ClassId) (q0 : Nat) (q0_a : Nat) (q0_b : Nat) (q0_c : Nat) (q0_rowScale : Nat) (q0_columnScale : Nat) (q0_sa : Nat) (q0_sb : Nat) (q0_sc : Nat) (q0_x : Nat) (q0_s : Nat) (q0_y : Nat) (q0_p : Nat) (q0_d : Nat) (q0_h : Nat) (q0_f : Nat) (q0_mm : Nat) (q0_low : Nat) (q0_dd : Nat) (q0_r : Nat) (q0_big : Nat) (q0_dt : Nat) (q0_dx : Nat) (q0_t : Nat) (q0_cost : Nat) (q0_rowScaleNow : Nat) (q0_columnScaleNow : Nat) (q0_basic : Nat) (q0_text : Nat) (q0_turned : Nat) (q0_na : Nat) (q0_nb : Nat) (q0_nc : Nat) (vq0_m : Int32) (vq0_n : Int32) (vq0_length : Int32) (vq0_where : Int32) (vq0_effort : Int32) (vq0_thrown : Int32) (vq0_at : Int32) (vq0_scaled : Int32) (vq0_solved : Int32) (vq0_second : Int32) (vq0_nm : Int32) (vq0_nn : Int32) (vq0_number : UInt64) (vq0_bad : Int32) (vq0_a : Nat → UInt64) (vq0_rowScaleNow : Nat → UInt64) (vq0_columnScaleNow : Nat → UInt64) (x1 : Int32) (x2 : Int32) (rm : UInt64 × Int32 × (Nat → UInt64) × (Nat → UInt64)) (h : s_M_scale vq0_m vq0_n vq0_length vq0_where vq0_effort vq0_thrown vq0_at vq0_scaled vq0_solved vq0_second vq0_nm vq0_nn vq0_number vq0_bad vq0_a vq0_rowScaleNow vq0_columnScaleNow x1 x2 = some rm) : CtD l y_M_scale (Cond.code y_M_scale prog_10_method_50_code 3 (some .double) :: BIG) 2 49 D T [.ref q0, .int x1, .int x2] (w_M_scale T q0 q0_a q0_b q0_c q0_rowScale q0_columnScale q0_sa q0_sb q0_sc q0_x q0_s q0_y q0_p q0_d q0_h q0_f q0_mm q0_low q0_dd q0_r q0_big q0_dt q0_dx q0_t q0_cost q0_rowScaleNow q0_columnScaleNow q0_basic q0_text q0_turned q0_na q0_nb q0_nc vq0_m vq0_n vq0_length vq0_where vq0_effort vq0_thrown vq0_at vq0_scaled vq0_solved vq0_second vq0_nm vq0_nn vq0_number vq0_bad vq0_a vq0_rowScaleNow vq0_columnScaleNow) (fun r => r.1) (fun r => (w_M_scale T q0 q0_a q0_b q0_c q0_rowScale q0_columnScale q0_sa q0_sb q0_sc q0_x q0_s q0_y q0_p q0_d q0_h q0_f q0_mm q0_low q0_dd q0_r q0_big q0_dt q0_dx q0_t q0_cost q0_rowScaleNow q0_columnScaleNow q0_basic q0_text q0_turned q0_na q0_nb q0_nc vq0_m vq0_n vq0_length vq0_where vq0_effort r.2.1 vq0_at vq0_scaled vq0_solved vq0_second vq0_nm vq0_nn vq0_number vq0_bad vq0_a r.2.2.1 r.2.2.2)) rm := by
  refine cf_entry (y := y_M_scale) (cc := prog_10_method_50_code) (nL := 3) (ret := (some .double)) (fr := 2) (lo := 49) (T := T) (av := [.ref q0, .int x1, .int x2]) (w := (w_M_scale T q0 q0_a q0_b q0_c q0_rowScale q0_columnScale q0_sa q0_sb q0_sc q0_x q0_s q0_y q0_p q0_d q0_h q0_f q0_mm q0_low q0_dd q0_r q0_big q0_dt q0_dx q0_t q0_cost q0_rowScaleNow q0_columnScaleNow q0_basic q0_text q0_turned q0_na q0_nb q0_nc vq0_m vq0_n vq0_length vq0_where vq0_effort vq0_thrown vq0_at vq0_scaled vq0_solved vq0_second vq0_nm vq0_nn vq0_number vq0_bad vq0_a vq0_rowScaleNow vq0_columnScaleNow)) (Qc := cfQd D (fun r => r.1) (fun r => (w_M_scale T q0 q0_a q0_b q0_c q0_rowScale q0_columnScale q0_sa q0_sb q0_sc q0_x q0_s q0_y q0_p q0_d q0_h q0_f q0_mm q0_low q0_dd q0_r q0_big q0_dt q0_dx q0_t q0_cost q0_rowScaleNow q0_columnScaleNow q0_basic q0_text q0_turned q0_na q0_nb q0_nc vq0_m vq0_n vq0_length vq0_where vq0_effort r.2.1 vq0_at vq0_scaled vq0_solved vq0_second vq0_nm vq0_nn vq0_number vq0_bad vq0_a r.2.2.1 r.2.2.2)) rm) (by decide) rfl (Nat.le_of_ble_eq_true rfl) ?_
  intro p e s m args below meth c A Q H locs ls hx hb hr hlocks hml hown hts hNW hK hA hQ hP hD hS hl
  have hown : s.vm.findClass "ConeForgeModel" = some m.cls := hown
  have hl : lv_has ls 3 [(0, .ref q0), (1, .int x1), (2, .int x2)] := hl
  unfold s_M_scale at h
  refine lv_aload_n hx hb d_M_scale_0 rfl (lv_at hl 0 rfl) ?_
  refine lv_iload_n hx hb d_M_scale_1 rfl (lv_at hl 1 rfl) ?_
  refine lv_iconst (v := 0) hx hb d_M_scale_2 (by decide) ?_
  refine lv_iconst (v := 1) hx hb d_M_scale_3 (by decide) ?_
  obtain ⟨u1, hu1, h⟩ := bi_some h
  refine kI (v := u1) (wc := (w_M_in T  )) (wc' := (w_M_in T  )) (runOS (As := [.int x1, .int 0, .int 1]) (rest := [.ref q0]) ((c_M_in l D T   x1 0 1 u1 hu1) H.size) ⟨hx, hb, hml, hown, hts⟩ (cwOS bw785 bw786 bw105 bw787 dd_M_in hts ⟨Nat.le_of_ble_eq_true rfl, Nat.le_of_ble_eq_true rfl⟩)  hNW hK hP hD [] rfl (by decide) rfl hl.1 rfl (lv_room (Nat.le_of_ble_eq_true rfl)) d_M_scale_4 ⟨Nat.le_of_ble_eq_true rfl, Nat.le_of_ble_eq_true rfl⟩) hP hD hS hA [] rfl rfl (fun H locs hP hD hS => ?_)
  have hP : va_P D CL (w_M_scale T q0 q0_a q0_b q0_c q0_rowScale q0_columnScale q0_sa q0_sb q0_sc q0_x q0_s q0_y q0_p q0_d q0_h q0_f q0_mm q0_low q0_dd q0_r q0_big q0_dt q0_dx q0_t q0_cost q0_rowScaleNow q0_columnScaleNow q0_basic q0_text q0_turned q0_na q0_nb q0_nc vq0_m vq0_n vq0_length vq0_where vq0_effort vq0_thrown vq0_at vq0_scaled vq0_solved vq0_second vq0_nm vq0_nn vq0_number vq0_bad vq0_a vq0_rowScaleNow vq0_columnScaleNow) H := hP
  have hD : va_D A (w_M_scale T q0 q0_a q0_b q0_c q0_rowScale q0_columnScale q0_sa q0_sb q0_sc q0_x q0_s q0_y q0_p q0_d q0_h q0_f q0_mm q0_low q0_dd q0_r q0_big q0_dt q0_dx q0_t q0_cost q0_rowScaleNow q0_columnScaleNow q0_basic q0_text q0_turned q0_na q0_nb q0_nc vq0_m vq0_n vq0_length vq0_where vq0_effort vq0_thrown vq0_at vq0_scaled vq0_solved vq0_second vq0_nm vq0_nn vq0_number vq0_bad vq0_a vq0_rowScaleNow vq0_columnScaleNow) := hD
  refine lv_if_ne (tgt := 14) hx hb d_M_scale_7 (by decide) (fun c2 => ?_) (fun c2 => ?_)
  · have h := it_f c2 h
    refine lv_iload_n hx hb d_M_scale_14 rfl (lv_at hl 2 rfl) ?_
    refine lv_iconst (v := 0) hx hb d_M_scale_15 (by decide) ?_
    refine lv_iload_n hx hb d_M_scale_16 rfl (lv_at hl 1 rfl) ?_
    refine lv_if_ne (tgt := 27) hx hb d_M_scale_17 (by decide) (fun c3 => ?_) (fun c3 => ?_)
    · have h := it_f c3 h
      refine lv_aload_n hx hb d_M_scale_27 rfl (lv_at hl 0 rfl) ?_
      refine va_get (D := D) (ci := 8) (v := .int vq0_n) (C := "ConeForgeModel") (T := FM) (N := 46) hx hb hts iM hown hK hP 0 rfl rfl 30 (by decide) (hts _ (bgc bw714)) (fun _ h9 => h9) rfl d_M_scale_28 ?_
      refine lv_iconst (v := 1) hx hb d_M_scale_31 (by decide) ?_
      refine lv_isub hx hb d_M_scale_32 ?_
      obtain ⟨u4, hu4, h⟩ := bi_some h
      refine kI (v := u4) (wc := (w_M_in T  )) (wc' := (w_M_in T  )) (runOS (As := [.int x2, .int 0, .int (vq0_n - 1)]) (rest := [.ref q0]) ((c_M_in l D T   x2 0 (vq0_n - 1) u4 hu4) H.size) ⟨hx, hb, hml, hown, hts⟩ (cwOS bw785 bw786 bw105 bw787 dd_M_in hts ⟨Nat.le_of_ble_eq_true rfl, Nat.le_of_ble_eq_true rfl⟩)  hNW hK hP hD [] rfl (by decide) rfl hl.1 rfl (lv_room (Nat.le_of_ble_eq_true rfl)) d_M_scale_33 ⟨Nat.le_of_ble_eq_true rfl, Nat.le_of_ble_eq_true rfl⟩) hP hD hS hA [] rfl rfl (fun H locs hP hD hS => ?_)
      have hP : va_P D CL (w_M_scale T q0 q0_a q0_b q0_c q0_rowScale q0_columnScale q0_sa q0_sb q0_sc q0_x q0_s q0_y q0_p q0_d q0_h q0_f q0_mm q0_low q0_dd q0_r q0_big q0_dt q0_dx q0_t q0_cost q0_rowScaleNow q0_columnScaleNow q0_basic q0_text q0_turned q0_na q0_nb q0_nc vq0_m vq0_n vq0_length vq0_where vq0_effort vq0_thrown vq0_at vq0_scaled vq0_solved vq0_second vq0_nm vq0_nn vq0_number vq0_bad vq0_a vq0_rowScaleNow vq0_columnScaleNow) H := hP
      have hD : va_D A (w_M_scale T q0 q0_a q0_b q0_c q0_rowScale q0_columnScale q0_sa q0_sb q0_sc q0_x q0_s q0_y q0_p q0_d q0_h q0_f q0_mm q0_low q0_dd q0_r q0_big q0_dt q0_dx q0_t q0_cost q0_rowScaleNow q0_columnScaleNow q0_basic q0_text q0_turned q0_na q0_nb q0_nc vq0_m vq0_n vq0_length vq0_where vq0_effort vq0_thrown vq0_at vq0_scaled vq0_solved vq0_second vq0_nm vq0_nn vq0_number vq0_bad vq0_a vq0_rowScaleNow vq0_columnScaleNow) := hD
      refine lv_if_ne (tgt := 43) hx hb d_M_scale_36 (by decide) (fun c5 => ?_) (fun c5 => ?_)
      · have h := it_f c5 h
        refine lv_iconst (v := 0) hx hb d_M_scale_43 (by decide) ?_
        refine va_put (D := D) (ci := 8) (v := .int 0) (ty := .int) (C := "ConeForgeModel") (T := FM) (N := 46) hx hb hts iM tM tM_ok nmM hown hK hP hD hS 0 rfl rfl 34 (by decide) (hts _ (bgc bw718)) (fun _ h9 => h9) rfl (by decide +kernel) rfl rfl (Nat.le_of_ble_eq_true rfl) d_M_scale_44 (fun H locs hP hD hS => ?_)
        have hP : va_P D CL (w_M_scale T q0 q0_a q0_b q0_c q0_rowScale q0_columnScale q0_sa q0_sb q0_sc q0_x q0_s q0_y q0_p q0_d q0_h q0_f q0_mm q0_low q0_dd q0_r q0_big q0_dt q0_dx q0_t q0_cost q0_rowScaleNow q0_columnScaleNow q0_basic q0_text q0_turned q0_na q0_nb q0_nc vq0_m vq0_n vq0_length vq0_where vq0_effort 0 vq0_at vq0_scaled vq0_solved vq0_second vq0_nm vq0_nn vq0_number vq0_bad vq0_a vq0_rowScaleNow vq0_columnScaleNow) H := hP
        have hD : va_D A (w_M_scale T q0 q0_a q0_b q0_c q0_rowScale q0_columnScale q0_sa q0_sb q0_sc q0_x q0_s q0_y q0_p q0_d q0_h q0_f q0_mm q0_low q0_dd q0_r q0_big q0_dt q0_dx q0_t q0_cost q0_rowScaleNow q0_columnScaleNow q0_basic q0_text q0_turned q0_na q0_nb q0_nc vq0_m vq0_n vq0_length vq0_where vq0_effort 0 vq0_at vq0_scaled vq0_solved vq0_second vq0_nm vq0_nn vq0_number vq0_bad vq0_a vq0_rowScaleNow vq0_columnScaleNow) := hD
        refine lv_aload_n hx hb d_M_scale_47 rfl (lv_at hl 0 rfl) ?_
        refine va_get (D := D) (ci := 8) (v := .int 0) (C := "ConeForgeModel") (T := FM) (N := 46) hx hb hts iM hown hK hP 0 rfl rfl 34 (by decide) (hts _ (bgc bw718)) (fun _ h9 => h9) rfl d_M_scale_48 ?_
        refine lv_if_le (tgt := 56) hx hb d_M_scale_51 (by decide) (fun c6 => ?_) (fun c6 => ?_)
        · have h := it_t c6 h
          refine lv_aload_n hx hb d_M_scale_56 rfl (lv_at hl 0 rfl) ?_
          obtain ⟨u7, hu7, h⟩ := bi_some h
          refine kV (wc := (w_M_measureScales T q0 q0_a q0_b q0_c q0_rowScale q0_columnScale q0_sa q0_sb q0_sc q0_x q0_s q0_y q0_p q0_d q0_h q0_f q0_mm q0_low q0_dd q0_r q0_big q0_dt q0_dx q0_t q0_cost q0_rowScaleNow q0_columnScaleNow q0_basic q0_text q0_turned q0_na q0_nb q0_nc vq0_m vq0_n vq0_length vq0_where vq0_effort 0 vq0_at vq0_scaled vq0_solved vq0_second vq0_nm vq0_nn vq0_number vq0_bad vq0_a vq0_rowScaleNow vq0_columnScaleNow)) (wc' := (w_M_measureScales T q0 q0_a q0_b q0_c q0_rowScale q0_columnScale q0_sa q0_sb q0_sc q0_x q0_s q0_y q0_p q0_d q0_h q0_f q0_mm q0_low q0_dd q0_r q0_big q0_dt q0_dx q0_t q0_cost q0_rowScaleNow q0_columnScaleNow q0_basic q0_text q0_turned q0_na q0_nb q0_nc vq0_m vq0_n vq0_length vq0_where vq0_effort 0 vq0_at vq0_scaled vq0_solved vq0_second vq0_nm vq0_nn vq0_number vq0_bad vq0_a u7.1 u7.2)) (runOV (As := []) (rest := []) ((c_M_measureScales l D T q0 q0_a q0_b q0_c q0_rowScale q0_columnScale q0_sa q0_sb q0_sc q0_x q0_s q0_y q0_p q0_d q0_h q0_f q0_mm q0_low q0_dd q0_r q0_big q0_dt q0_dx q0_t q0_cost q0_rowScaleNow q0_columnScaleNow q0_basic q0_text q0_turned q0_na q0_nb q0_nc vq0_m vq0_n vq0_length vq0_where vq0_effort 0 vq0_at vq0_scaled vq0_solved vq0_second vq0_nm vq0_nn vq0_number vq0_bad vq0_a vq0_rowScaleNow vq0_columnScaleNow  u7 hu7) H.size) ⟨hx, hb, hml, hown, hts⟩ (cwOV bw959 bw960 bw95 bw105 bw961 dd_M_measureScales hts ⟨Nat.le_of_ble_eq_true rfl, Nat.le_of_ble_eq_true rfl⟩) (va_recv hK hP (ci := 8) (q0 := 0) rfl rfl) hNW hK hP hD [0, 1, 2, 3] rfl (by decide) rfl hl.1 rfl (lv_room (Nat.le_of_ble_eq_true rfl)) d_M_scale_57 ⟨Nat.le_of_ble_eq_true rfl, Nat.le_of_ble_eq_true rfl⟩) hP hD hS hA [0, 1, 2, 3] rfl rfl (fun H locs hP hD hS => ?_)
          have hP : va_P D CL (w_M_scale T q0 q0_a q0_b q0_c q0_rowScale q0_columnScale q0_sa q0_sb q0_sc q0_x q0_s q0_y q0_p q0_d q0_h q0_f q0_mm q0_low q0_dd q0_r q0_big q0_dt q0_dx q0_t q0_cost q0_rowScaleNow q0_columnScaleNow q0_basic q0_text q0_turned q0_na q0_nb q0_nc vq0_m vq0_n vq0_length vq0_where vq0_effort 0 vq0_at vq0_scaled vq0_solved vq0_second vq0_nm vq0_nn vq0_number vq0_bad vq0_a u7.1 u7.2) H := hP
          have hD : va_D A (w_M_scale T q0 q0_a q0_b q0_c q0_rowScale q0_columnScale q0_sa q0_sb q0_sc q0_x q0_s q0_y q0_p q0_d q0_h q0_f q0_mm q0_low q0_dd q0_r q0_big q0_dt q0_dx q0_t q0_cost q0_rowScaleNow q0_columnScaleNow q0_basic q0_text q0_turned q0_na q0_nb q0_nc vq0_m vq0_n vq0_length vq0_where vq0_effort 0 vq0_at vq0_scaled vq0_solved vq0_second vq0_nm vq0_nn vq0_number vq0_bad vq0_a u7.1 u7.2) := hD
          refine lv_iload_n hx hb d_M_scale_60 rfl (lv_at hl 1 rfl) ?_
          refine lv_if_ne (tgt := 73) hx hb d_M_scale_61 (by decide) (fun c8 => ?_) (fun c8 => ?_)
          · have h := it_f c8 h
            refine lv_aload_n hx hb d_M_scale_73 rfl (lv_at hl 0 rfl) ?_
            refine va_get (D := D) (ci := 8) (v := .ref q0_columnScaleNow) (C := "ConeForgeModel") (T := FM) (N := 46) hx hb hts iM hown hK hP 0 rfl rfl 25 (by decide) (hts _ (bgc bw709)) (fun _ h9 => h9) rfl d_M_scale_74 ?_
            refine lv_iload_n hx hb d_M_scale_77 rfl (lv_at hl 2 rfl) ?_
            obtain ⟨g9, h⟩ := gd_some h
            refine va_dald hx hb hK hP 3 0 rfl rfl (inb_in g9) d_M_scale_78 ?_
            exact rtD hx hb hr hlocks hQ (Option.some.inj h) hP hS d_M_scale_79 rfl rfl
          · have h := it_t c8 h
            refine lv_aload_n hx hb d_M_scale_64 rfl (lv_at hl 0 rfl) ?_
            refine va_get (D := D) (ci := 8) (v := .ref q0_rowScaleNow) (C := "ConeForgeModel") (T := FM) (N := 46) hx hb hts iM hown hK hP 0 rfl rfl 24 (by decide) (hts _ (bgc bw708)) (fun _ h9 => h9) rfl d_M_scale_65 ?_
            refine lv_iload_n hx hb d_M_scale_68 rfl (lv_at hl 2 rfl) ?_
            obtain ⟨g10, h⟩ := gd_some h
            refine va_dald hx hb hK hP 2 0 rfl rfl (inb_in g10) d_M_scale_69 ?_
            refine lv_goto (tgt := 79) hx hb d_M_scale_70 (by decide) ?_
            exact rtD hx hb hr hlocks hQ (Option.some.inj h) hP hS d_M_scale_79 rfl rfl
        · have h := it_f c6 h
          refine lv_dconst0 hx hb d_M_scale_54 ?_
          exact rtD hx hb hr hlocks hQ (Option.some.inj h) hP hS d_M_scale_55 rfl rfl
      · have h := it_t c5 h
        refine lv_iconst (v := 2) hx hb d_M_scale_39 (by decide) ?_
        refine lv_goto (tgt := 44) hx hb d_M_scale_40 (by decide) ?_
        refine va_put (D := D) (ci := 8) (v := .int 2) (ty := .int) (C := "ConeForgeModel") (T := FM) (N := 46) hx hb hts iM tM tM_ok nmM hown hK hP hD hS 0 rfl rfl 34 (by decide) (hts _ (bgc bw718)) (fun _ h9 => h9) rfl (by decide +kernel) rfl rfl (Nat.le_of_ble_eq_true rfl) d_M_scale_44 (fun H locs hP hD hS => ?_)
        have hP : va_P D CL (w_M_scale T q0 q0_a q0_b q0_c q0_rowScale q0_columnScale q0_sa q0_sb q0_sc q0_x q0_s q0_y q0_p q0_d q0_h q0_f q0_mm q0_low q0_dd q0_r q0_big q0_dt q0_dx q0_t q0_cost q0_rowScaleNow q0_columnScaleNow q0_basic q0_text q0_turned q0_na q0_nb q0_nc vq0_m vq0_n vq0_length vq0_where vq0_effort 2 vq0_at vq0_scaled vq0_solved vq0_second vq0_nm vq0_nn vq0_number vq0_bad vq0_a vq0_rowScaleNow vq0_columnScaleNow) H := hP
        have hD : va_D A (w_M_scale T q0 q0_a q0_b q0_c q0_rowScale q0_columnScale q0_sa q0_sb q0_sc q0_x q0_s q0_y q0_p q0_d q0_h q0_f q0_mm q0_low q0_dd q0_r q0_big q0_dt q0_dx q0_t q0_cost q0_rowScaleNow q0_columnScaleNow q0_basic q0_text q0_turned q0_na q0_nb q0_nc vq0_m vq0_n vq0_length vq0_where vq0_effort 2 vq0_at vq0_scaled vq0_solved vq0_second vq0_nm vq0_nn vq0_number vq0_bad vq0_a vq0_rowScaleNow vq0_columnScaleNow) := hD
        refine lv_aload_n hx hb d_M_scale_47 rfl (lv_at hl 0 rfl) ?_
        refine va_get (D := D) (ci := 8) (v := .int 2) (C := "ConeForgeModel") (T := FM) (N := 46) hx hb hts iM hown hK hP 0 rfl rfl 34 (by decide) (hts _ (bgc bw718)) (fun _ h9 => h9) rfl d_M_scale_48 ?_
        refine lv_if_le (tgt := 56) hx hb d_M_scale_51 (by decide) (fun c11 => ?_) (fun c11 => ?_)
        · have h := it_t c11 h
          refine lv_aload_n hx hb d_M_scale_56 rfl (lv_at hl 0 rfl) ?_
          obtain ⟨u12, hu12, h⟩ := bi_some h
          refine kV (wc := (w_M_measureScales T q0 q0_a q0_b q0_c q0_rowScale q0_columnScale q0_sa q0_sb q0_sc q0_x q0_s q0_y q0_p q0_d q0_h q0_f q0_mm q0_low q0_dd q0_r q0_big q0_dt q0_dx q0_t q0_cost q0_rowScaleNow q0_columnScaleNow q0_basic q0_text q0_turned q0_na q0_nb q0_nc vq0_m vq0_n vq0_length vq0_where vq0_effort 2 vq0_at vq0_scaled vq0_solved vq0_second vq0_nm vq0_nn vq0_number vq0_bad vq0_a vq0_rowScaleNow vq0_columnScaleNow)) (wc' := (w_M_measureScales T q0 q0_a q0_b q0_c q0_rowScale q0_columnScale q0_sa q0_sb q0_sc q0_x q0_s q0_y q0_p q0_d q0_h q0_f q0_mm q0_low q0_dd q0_r q0_big q0_dt q0_dx q0_t q0_cost q0_rowScaleNow q0_columnScaleNow q0_basic q0_text q0_turned q0_na q0_nb q0_nc vq0_m vq0_n vq0_length vq0_where vq0_effort 2 vq0_at vq0_scaled vq0_solved vq0_second vq0_nm vq0_nn vq0_number vq0_bad vq0_a u12.1 u12.2)) (runOV (As := []) (rest := []) ((c_M_measureScales l D T q0 q0_a q0_b q0_c q0_rowScale q0_columnScale q0_sa q0_sb q0_sc q0_x q0_s q0_y q0_p q0_d q0_h q0_f q0_mm q0_low q0_dd q0_r q0_big q0_dt q0_dx q0_t q0_cost q0_rowScaleNow q0_columnScaleNow q0_basic q0_text q0_turned q0_na q0_nb q0_nc vq0_m vq0_n vq0_length vq0_where vq0_effort 2 vq0_at vq0_scaled vq0_solved vq0_second vq0_nm vq0_nn vq0_number vq0_bad vq0_a vq0_rowScaleNow vq0_columnScaleNow  u12 hu12) H.size) ⟨hx, hb, hml, hown, hts⟩ (cwOV bw959 bw960 bw95 bw105 bw961 dd_M_measureScales hts ⟨Nat.le_of_ble_eq_true rfl, Nat.le_of_ble_eq_true rfl⟩) (va_recv hK hP (ci := 8) (q0 := 0) rfl rfl) hNW hK hP hD [0, 1, 2, 3] rfl (by decide) rfl hl.1 rfl (lv_room (Nat.le_of_ble_eq_true rfl)) d_M_scale_57 ⟨Nat.le_of_ble_eq_true rfl, Nat.le_of_ble_eq_true rfl⟩) hP hD hS hA [0, 1, 2, 3] rfl rfl (fun H locs hP hD hS => ?_)
          have hP : va_P D CL (w_M_scale T q0 q0_a q0_b q0_c q0_rowScale q0_columnScale q0_sa q0_sb q0_sc q0_x q0_s q0_y q0_p q0_d q0_h q0_f q0_mm q0_low q0_dd q0_r q0_big q0_dt q0_dx q0_t q0_cost q0_rowScaleNow q0_columnScaleNow q0_basic q0_text q0_turned q0_na q0_nb q0_nc vq0_m vq0_n vq0_length vq0_where vq0_effort 2 vq0_at vq0_scaled vq0_solved vq0_second vq0_nm vq0_nn vq0_number vq0_bad vq0_a u12.1 u12.2) H := hP
          have hD : va_D A (w_M_scale T q0 q0_a q0_b q0_c q0_rowScale q0_columnScale q0_sa q0_sb q0_sc q0_x q0_s q0_y q0_p q0_d q0_h q0_f q0_mm q0_low q0_dd q0_r q0_big q0_dt q0_dx q0_t q0_cost q0_rowScaleNow q0_columnScaleNow q0_basic q0_text q0_turned q0_na q0_nb q0_nc vq0_m vq0_n vq0_length vq0_where vq0_effort 2 vq0_at vq0_scaled vq0_solved vq0_second vq0_nm vq0_nn vq0_number vq0_bad vq0_a u12.1 u12.2) := hD
          refine lv_iload_n hx hb d_M_scale_60 rfl (lv_at hl 1 rfl) ?_
          refine lv_if_ne (tgt := 73) hx hb d_M_scale_61 (by decide) (fun c13 => ?_) (fun c13 => ?_)
          · have h := it_f c13 h
            refine lv_aload_n hx hb d_M_scale_73 rfl (lv_at hl 0 rfl) ?_
            refine va_get (D := D) (ci := 8) (v := .ref q0_columnScaleNow) (C := "ConeForgeModel") (T := FM) (N := 46) hx hb hts iM hown hK hP 0 rfl rfl 25 (by decide) (hts _ (bgc bw709)) (fun _ h9 => h9) rfl d_M_scale_74 ?_
            refine lv_iload_n hx hb d_M_scale_77 rfl (lv_at hl 2 rfl) ?_
            obtain ⟨g14, h⟩ := gd_some h
            refine va_dald hx hb hK hP 3 0 rfl rfl (inb_in g14) d_M_scale_78 ?_
            exact rtD hx hb hr hlocks hQ (Option.some.inj h) hP hS d_M_scale_79 rfl rfl
          · have h := it_t c13 h
            refine lv_aload_n hx hb d_M_scale_64 rfl (lv_at hl 0 rfl) ?_
            refine va_get (D := D) (ci := 8) (v := .ref q0_rowScaleNow) (C := "ConeForgeModel") (T := FM) (N := 46) hx hb hts iM hown hK hP 0 rfl rfl 24 (by decide) (hts _ (bgc bw708)) (fun _ h9 => h9) rfl d_M_scale_65 ?_
            refine lv_iload_n hx hb d_M_scale_68 rfl (lv_at hl 2 rfl) ?_
            obtain ⟨g15, h⟩ := gd_some h
            refine va_dald hx hb hK hP 2 0 rfl rfl (inb_in g15) d_M_scale_69 ?_
            refine lv_goto (tgt := 79) hx hb d_M_scale_70 (by decide) ?_
            exact rtD hx hb hr hlocks hQ (Option.some.inj h) hP hS d_M_scale_79 rfl rfl
        · have h := it_f c11 h
          refine lv_dconst0 hx hb d_M_scale_54 ?_
          exact rtD hx hb hr hlocks hQ (Option.some.inj h) hP hS d_M_scale_55 rfl rfl
    · have h := it_t c3 h
      refine lv_aload_n hx hb d_M_scale_20 rfl (lv_at hl 0 rfl) ?_
      refine va_get (D := D) (ci := 8) (v := .int vq0_m) (C := "ConeForgeModel") (T := FM) (N := 46) hx hb hts iM hown hK hP 0 rfl rfl 29 (by decide) (hts _ (bgc bw713)) (fun _ h9 => h9) rfl d_M_scale_21 ?_
      refine lv_goto (tgt := 31) hx hb d_M_scale_24 (by decide) ?_
      refine lv_iconst (v := 1) hx hb d_M_scale_31 (by decide) ?_
      refine lv_isub hx hb d_M_scale_32 ?_
      obtain ⟨u16, hu16, h⟩ := bi_some h
      refine kI (v := u16) (wc := (w_M_in T  )) (wc' := (w_M_in T  )) (runOS (As := [.int x2, .int 0, .int (vq0_m - 1)]) (rest := [.ref q0]) ((c_M_in l D T   x2 0 (vq0_m - 1) u16 hu16) H.size) ⟨hx, hb, hml, hown, hts⟩ (cwOS bw785 bw786 bw105 bw787 dd_M_in hts ⟨Nat.le_of_ble_eq_true rfl, Nat.le_of_ble_eq_true rfl⟩)  hNW hK hP hD [] rfl (by decide) rfl hl.1 rfl (lv_room (Nat.le_of_ble_eq_true rfl)) d_M_scale_33 ⟨Nat.le_of_ble_eq_true rfl, Nat.le_of_ble_eq_true rfl⟩) hP hD hS hA [] rfl rfl (fun H locs hP hD hS => ?_)
      have hP : va_P D CL (w_M_scale T q0 q0_a q0_b q0_c q0_rowScale q0_columnScale q0_sa q0_sb q0_sc q0_x q0_s q0_y q0_p q0_d q0_h q0_f q0_mm q0_low q0_dd q0_r q0_big q0_dt q0_dx q0_t q0_cost q0_rowScaleNow q0_columnScaleNow q0_basic q0_text q0_turned q0_na q0_nb q0_nc vq0_m vq0_n vq0_length vq0_where vq0_effort vq0_thrown vq0_at vq0_scaled vq0_solved vq0_second vq0_nm vq0_nn vq0_number vq0_bad vq0_a vq0_rowScaleNow vq0_columnScaleNow) H := hP
      have hD : va_D A (w_M_scale T q0 q0_a q0_b q0_c q0_rowScale q0_columnScale q0_sa q0_sb q0_sc q0_x q0_s q0_y q0_p q0_d q0_h q0_f q0_mm q0_low q0_dd q0_r q0_big q0_dt q0_dx q0_t q0_cost q0_rowScaleNow q0_columnScaleNow q0_basic q0_text q0_turned q0_na q0_nb q0_nc vq0_m vq0_n vq0_length vq0_where vq0_effort vq0_thrown vq0_at vq0_scaled vq0_solved vq0_second vq0_nm vq0_nn vq0_number vq0_bad vq0_a vq0_rowScaleNow vq0_columnScaleNow) := hD
      refine lv_if_ne (tgt := 43) hx hb d_M_scale_36 (by decide) (fun c17 => ?_) (fun c17 => ?_)
      · have h := it_f c17 h
        refine lv_iconst (v := 0) hx hb d_M_scale_43 (by decide) ?_
        refine va_put (D := D) (ci := 8) (v := .int 0) (ty := .int) (C := "ConeForgeModel") (T := FM) (N := 46) hx hb hts iM tM tM_ok nmM hown hK hP hD hS 0 rfl rfl 34 (by decide) (hts _ (bgc bw718)) (fun _ h9 => h9) rfl (by decide +kernel) rfl rfl (Nat.le_of_ble_eq_true rfl) d_M_scale_44 (fun H locs hP hD hS => ?_)
        have hP : va_P D CL (w_M_scale T q0 q0_a q0_b q0_c q0_rowScale q0_columnScale q0_sa q0_sb q0_sc q0_x q0_s q0_y q0_p q0_d q0_h q0_f q0_mm q0_low q0_dd q0_r q0_big q0_dt q0_dx q0_t q0_cost q0_rowScaleNow q0_columnScaleNow q0_basic q0_text q0_turned q0_na q0_nb q0_nc vq0_m vq0_n vq0_length vq0_where vq0_effort 0 vq0_at vq0_scaled vq0_solved vq0_second vq0_nm vq0_nn vq0_number vq0_bad vq0_a vq0_rowScaleNow vq0_columnScaleNow) H := hP
        have hD : va_D A (w_M_scale T q0 q0_a q0_b q0_c q0_rowScale q0_columnScale q0_sa q0_sb q0_sc q0_x q0_s q0_y q0_p q0_d q0_h q0_f q0_mm q0_low q0_dd q0_r q0_big q0_dt q0_dx q0_t q0_cost q0_rowScaleNow q0_columnScaleNow q0_basic q0_text q0_turned q0_na q0_nb q0_nc vq0_m vq0_n vq0_length vq0_where vq0_effort 0 vq0_at vq0_scaled vq0_solved vq0_second vq0_nm vq0_nn vq0_number vq0_bad vq0_a vq0_rowScaleNow vq0_columnScaleNow) := hD
        refine lv_aload_n hx hb d_M_scale_47 rfl (lv_at hl 0 rfl) ?_
        refine va_get (D := D) (ci := 8) (v := .int 0) (C := "ConeForgeModel") (T := FM) (N := 46) hx hb hts iM hown hK hP 0 rfl rfl 34 (by decide) (hts _ (bgc bw718)) (fun _ h9 => h9) rfl d_M_scale_48 ?_
        refine lv_if_le (tgt := 56) hx hb d_M_scale_51 (by decide) (fun c18 => ?_) (fun c18 => ?_)
        · have h := it_t c18 h
          refine lv_aload_n hx hb d_M_scale_56 rfl (lv_at hl 0 rfl) ?_
          obtain ⟨u19, hu19, h⟩ := bi_some h
          refine kV (wc := (w_M_measureScales T q0 q0_a q0_b q0_c q0_rowScale q0_columnScale q0_sa q0_sb q0_sc q0_x q0_s q0_y q0_p q0_d q0_h q0_f q0_mm q0_low q0_dd q0_r q0_big q0_dt q0_dx q0_t q0_cost q0_rowScaleNow q0_columnScaleNow q0_basic q0_text q0_turned q0_na q0_nb q0_nc vq0_m vq0_n vq0_length vq0_where vq0_effort 0 vq0_at vq0_scaled vq0_solved vq0_second vq0_nm vq0_nn vq0_number vq0_bad vq0_a vq0_rowScaleNow vq0_columnScaleNow)) (wc' := (w_M_measureScales T q0 q0_a q0_b q0_c q0_rowScale q0_columnScale q0_sa q0_sb q0_sc q0_x q0_s q0_y q0_p q0_d q0_h q0_f q0_mm q0_low q0_dd q0_r q0_big q0_dt q0_dx q0_t q0_cost q0_rowScaleNow q0_columnScaleNow q0_basic q0_text q0_turned q0_na q0_nb q0_nc vq0_m vq0_n vq0_length vq0_where vq0_effort 0 vq0_at vq0_scaled vq0_solved vq0_second vq0_nm vq0_nn vq0_number vq0_bad vq0_a u19.1 u19.2)) (runOV (As := []) (rest := []) ((c_M_measureScales l D T q0 q0_a q0_b q0_c q0_rowScale q0_columnScale q0_sa q0_sb q0_sc q0_x q0_s q0_y q0_p q0_d q0_h q0_f q0_mm q0_low q0_dd q0_r q0_big q0_dt q0_dx q0_t q0_cost q0_rowScaleNow q0_columnScaleNow q0_basic q0_text q0_turned q0_na q0_nb q0_nc vq0_m vq0_n vq0_length vq0_where vq0_effort 0 vq0_at vq0_scaled vq0_solved vq0_second vq0_nm vq0_nn vq0_number vq0_bad vq0_a vq0_rowScaleNow vq0_columnScaleNow  u19 hu19) H.size) ⟨hx, hb, hml, hown, hts⟩ (cwOV bw959 bw960 bw95 bw105 bw961 dd_M_measureScales hts ⟨Nat.le_of_ble_eq_true rfl, Nat.le_of_ble_eq_true rfl⟩) (va_recv hK hP (ci := 8) (q0 := 0) rfl rfl) hNW hK hP hD [0, 1, 2, 3] rfl (by decide) rfl hl.1 rfl (lv_room (Nat.le_of_ble_eq_true rfl)) d_M_scale_57 ⟨Nat.le_of_ble_eq_true rfl, Nat.le_of_ble_eq_true rfl⟩) hP hD hS hA [0, 1, 2, 3] rfl rfl (fun H locs hP hD hS => ?_)
          have hP : va_P D CL (w_M_scale T q0 q0_a q0_b q0_c q0_rowScale q0_columnScale q0_sa q0_sb q0_sc q0_x q0_s q0_y q0_p q0_d q0_h q0_f q0_mm q0_low q0_dd q0_r q0_big q0_dt q0_dx q0_t q0_cost q0_rowScaleNow q0_columnScaleNow q0_basic q0_text q0_turned q0_na q0_nb q0_nc vq0_m vq0_n vq0_length vq0_where vq0_effort 0 vq0_at vq0_scaled vq0_solved vq0_second vq0_nm vq0_nn vq0_number vq0_bad vq0_a u19.1 u19.2) H := hP
          have hD : va_D A (w_M_scale T q0 q0_a q0_b q0_c q0_rowScale q0_columnScale q0_sa q0_sb q0_sc q0_x q0_s q0_y q0_p q0_d q0_h q0_f q0_mm q0_low q0_dd q0_r q0_big q0_dt q0_dx q0_t q0_cost q0_rowScaleNow q0_columnScaleNow q0_basic q0_text q0_turned q0_na q0_nb q0_nc vq0_m vq0_n vq0_length vq0_where vq0_effort 0 vq0_at vq0_scaled vq0_solved vq0_second vq0_nm vq0_nn vq0_number vq0_bad vq0_a u19.1 u19.2) := hD
          refine lv_iload_n hx hb d_M_scale_60 rfl (lv_at hl 1 rfl) ?_
          refine lv_if_ne (tgt := 73) hx hb d_M_scale_61 (by decide) (fun c20 => ?_) (fun c20 => ?_)
          · have h := it_f c20 h
            refine lv_aload_n hx hb d_M_scale_73 rfl (lv_at hl 0 rfl) ?_
            refine va_get (D := D) (ci := 8) (v := .ref q0_columnScaleNow) (C := "ConeForgeModel") (T := FM) (N := 46) hx hb hts iM hown hK hP 0 rfl rfl 25 (by decide) (hts _ (bgc bw709)) (fun _ h9 => h9) rfl d_M_scale_74 ?_
            refine lv_iload_n hx hb d_M_scale_77 rfl (lv_at hl 2 rfl) ?_
            obtain ⟨g21, h⟩ := gd_some h
            refine va_dald hx hb hK hP 3 0 rfl rfl (inb_in g21) d_M_scale_78 ?_
            exact rtD hx hb hr hlocks hQ (Option.some.inj h) hP hS d_M_scale_79 rfl rfl
          · have h := it_t c20 h
            refine lv_aload_n hx hb d_M_scale_64 rfl (lv_at hl 0 rfl) ?_
            refine va_get (D := D) (ci := 8) (v := .ref q0_rowScaleNow) (C := "ConeForgeModel") (T := FM) (N := 46) hx hb hts iM hown hK hP 0 rfl rfl 24 (by decide) (hts _ (bgc bw708)) (fun _ h9 => h9) rfl d_M_scale_65 ?_
            refine lv_iload_n hx hb d_M_scale_68 rfl (lv_at hl 2 rfl) ?_
            obtain ⟨g22, h⟩ := gd_some h
            refine va_dald hx hb hK hP 2 0 rfl rfl (inb_in g22) d_M_scale_69 ?_
            refine lv_goto (tgt := 79) hx hb d_M_scale_70 (by decide) ?_
            exact rtD hx hb hr hlocks hQ (Option.some.inj h) hP hS d_M_scale_79 rfl rfl
        · have h := it_f c18 h
          refine lv_dconst0 hx hb d_M_scale_54 ?_
          exact rtD hx hb hr hlocks hQ (Option.some.inj h) hP hS d_M_scale_55 rfl rfl
      · have h := it_t c17 h
        refine lv_iconst (v := 2) hx hb d_M_scale_39 (by decide) ?_
        refine lv_goto (tgt := 44) hx hb d_M_scale_40 (by decide) ?_
        refine va_put (D := D) (ci := 8) (v := .int 2) (ty := .int) (C := "ConeForgeModel") (T := FM) (N := 46) hx hb hts iM tM tM_ok nmM hown hK hP hD hS 0 rfl rfl 34 (by decide) (hts _ (bgc bw718)) (fun _ h9 => h9) rfl (by decide +kernel) rfl rfl (Nat.le_of_ble_eq_true rfl) d_M_scale_44 (fun H locs hP hD hS => ?_)
        have hP : va_P D CL (w_M_scale T q0 q0_a q0_b q0_c q0_rowScale q0_columnScale q0_sa q0_sb q0_sc q0_x q0_s q0_y q0_p q0_d q0_h q0_f q0_mm q0_low q0_dd q0_r q0_big q0_dt q0_dx q0_t q0_cost q0_rowScaleNow q0_columnScaleNow q0_basic q0_text q0_turned q0_na q0_nb q0_nc vq0_m vq0_n vq0_length vq0_where vq0_effort 2 vq0_at vq0_scaled vq0_solved vq0_second vq0_nm vq0_nn vq0_number vq0_bad vq0_a vq0_rowScaleNow vq0_columnScaleNow) H := hP
        have hD : va_D A (w_M_scale T q0 q0_a q0_b q0_c q0_rowScale q0_columnScale q0_sa q0_sb q0_sc q0_x q0_s q0_y q0_p q0_d q0_h q0_f q0_mm q0_low q0_dd q0_r q0_big q0_dt q0_dx q0_t q0_cost q0_rowScaleNow q0_columnScaleNow q0_basic q0_text q0_turned q0_na q0_nb q0_nc vq0_m vq0_n vq0_length vq0_where vq0_effort 2 vq0_at vq0_scaled vq0_solved vq0_second vq0_nm vq0_nn vq0_number vq0_bad vq0_a vq0_rowScaleNow vq0_columnScaleNow) := hD
        refine lv_aload_n hx hb d_M_scale_47 rfl (lv_at hl 0 rfl) ?_
        refine va_get (D := D) (ci := 8) (v := .int 2) (C := "ConeForgeModel") (T := FM) (N := 46) hx hb hts iM hown hK hP 0 rfl rfl 34 (by decide) (hts _ (bgc bw718)) (fun _ h9 => h9) rfl d_M_scale_48 ?_
        refine lv_if_le (tgt := 56) hx hb d_M_scale_51 (by decide) (fun c23 => ?_) (fun c23 => ?_)
        · have h := it_t c23 h
          refine lv_aload_n hx hb d_M_scale_56 rfl (lv_at hl 0 rfl) ?_
          obtain ⟨u24, hu24, h⟩ := bi_some h
          refine kV (wc := (w_M_measureScales T q0 q0_a q0_b q0_c q0_rowScale q0_columnScale q0_sa q0_sb q0_sc q0_x q0_s q0_y q0_p q0_d q0_h q0_f q0_mm q0_low q0_dd q0_r q0_big q0_dt q0_dx q0_t q0_cost q0_rowScaleNow q0_columnScaleNow q0_basic q0_text q0_turned q0_na q0_nb q0_nc vq0_m vq0_n vq0_length vq0_where vq0_effort 2 vq0_at vq0_scaled vq0_solved vq0_second vq0_nm vq0_nn vq0_number vq0_bad vq0_a vq0_rowScaleNow vq0_columnScaleNow)) (wc' := (w_M_measureScales T q0 q0_a q0_b q0_c q0_rowScale q0_columnScale q0_sa q0_sb q0_sc q0_x q0_s q0_y q0_p q0_d q0_h q0_f q0_mm q0_low q0_dd q0_r q0_big q0_dt q0_dx q0_t q0_cost q0_rowScaleNow q0_columnScaleNow q0_basic q0_text q0_turned q0_na q0_nb q0_nc vq0_m vq0_n vq0_length vq0_where vq0_effort 2 vq0_at vq0_scaled vq0_solved vq0_second vq0_nm vq0_nn vq0_number vq0_bad vq0_a u24.1 u24.2)) (runOV (As := []) (rest := []) ((c_M_measureScales l D T q0 q0_a q0_b q0_c q0_rowScale q0_columnScale q0_sa q0_sb q0_sc q0_x q0_s q0_y q0_p q0_d q0_h q0_f q0_mm q0_low q0_dd q0_r q0_big q0_dt q0_dx q0_t q0_cost q0_rowScaleNow q0_columnScaleNow q0_basic q0_text q0_turned q0_na q0_nb q0_nc vq0_m vq0_n vq0_length vq0_where vq0_effort 2 vq0_at vq0_scaled vq0_solved vq0_second vq0_nm vq0_nn vq0_number vq0_bad vq0_a vq0_rowScaleNow vq0_columnScaleNow  u24 hu24) H.size) ⟨hx, hb, hml, hown, hts⟩ (cwOV bw959 bw960 bw95 bw105 bw961 dd_M_measureScales hts ⟨Nat.le_of_ble_eq_true rfl, Nat.le_of_ble_eq_true rfl⟩) (va_recv hK hP (ci := 8) (q0 := 0) rfl rfl) hNW hK hP hD [0, 1, 2, 3] rfl (by decide) rfl hl.1 rfl (lv_room (Nat.le_of_ble_eq_true rfl)) d_M_scale_57 ⟨Nat.le_of_ble_eq_true rfl, Nat.le_of_ble_eq_true rfl⟩) hP hD hS hA [0, 1, 2, 3] rfl rfl (fun H locs hP hD hS => ?_)
          have hP : va_P D CL (w_M_scale T q0 q0_a q0_b q0_c q0_rowScale q0_columnScale q0_sa q0_sb q0_sc q0_x q0_s q0_y q0_p q0_d q0_h q0_f q0_mm q0_low q0_dd q0_r q0_big q0_dt q0_dx q0_t q0_cost q0_rowScaleNow q0_columnScaleNow q0_basic q0_text q0_turned q0_na q0_nb q0_nc vq0_m vq0_n vq0_length vq0_where vq0_effort 2 vq0_at vq0_scaled vq0_solved vq0_second vq0_nm vq0_nn vq0_number vq0_bad vq0_a u24.1 u24.2) H := hP
          have hD : va_D A (w_M_scale T q0 q0_a q0_b q0_c q0_rowScale q0_columnScale q0_sa q0_sb q0_sc q0_x q0_s q0_y q0_p q0_d q0_h q0_f q0_mm q0_low q0_dd q0_r q0_big q0_dt q0_dx q0_t q0_cost q0_rowScaleNow q0_columnScaleNow q0_basic q0_text q0_turned q0_na q0_nb q0_nc vq0_m vq0_n vq0_length vq0_where vq0_effort 2 vq0_at vq0_scaled vq0_solved vq0_second vq0_nm vq0_nn vq0_number vq0_bad vq0_a u24.1 u24.2) := hD
          refine lv_iload_n hx hb d_M_scale_60 rfl (lv_at hl 1 rfl) ?_
          refine lv_if_ne (tgt := 73) hx hb d_M_scale_61 (by decide) (fun c25 => ?_) (fun c25 => ?_)
          · have h := it_f c25 h
            refine lv_aload_n hx hb d_M_scale_73 rfl (lv_at hl 0 rfl) ?_
            refine va_get (D := D) (ci := 8) (v := .ref q0_columnScaleNow) (C := "ConeForgeModel") (T := FM) (N := 46) hx hb hts iM hown hK hP 0 rfl rfl 25 (by decide) (hts _ (bgc bw709)) (fun _ h9 => h9) rfl d_M_scale_74 ?_
            refine lv_iload_n hx hb d_M_scale_77 rfl (lv_at hl 2 rfl) ?_
            obtain ⟨g26, h⟩ := gd_some h
            refine va_dald hx hb hK hP 3 0 rfl rfl (inb_in g26) d_M_scale_78 ?_
            exact rtD hx hb hr hlocks hQ (Option.some.inj h) hP hS d_M_scale_79 rfl rfl
          · have h := it_t c25 h
            refine lv_aload_n hx hb d_M_scale_64 rfl (lv_at hl 0 rfl) ?_
            refine va_get (D := D) (ci := 8) (v := .ref q0_rowScaleNow) (C := "ConeForgeModel") (T := FM) (N := 46) hx hb hts iM hown hK hP 0 rfl rfl 24 (by decide) (hts _ (bgc bw708)) (fun _ h9 => h9) rfl d_M_scale_65 ?_
            refine lv_iload_n hx hb d_M_scale_68 rfl (lv_at hl 2 rfl) ?_
            obtain ⟨g27, h⟩ := gd_some h
            refine va_dald hx hb hK hP 2 0 rfl rfl (inb_in g27) d_M_scale_69 ?_
            refine lv_goto (tgt := 79) hx hb d_M_scale_70 (by decide) ?_
            exact rtD hx hb hr hlocks hQ (Option.some.inj h) hP hS d_M_scale_79 rfl rfl
        · have h := it_f c23 h
          refine lv_dconst0 hx hb d_M_scale_54 ?_
          exact rtD hx hb hr hlocks hQ (Option.some.inj h) hP hS d_M_scale_55 rfl rfl
  · have h := it_t c2 h
    refine lv_iconst (v := 1) hx hb d_M_scale_10 (by decide) ?_
    refine lv_goto (tgt := 44) hx hb d_M_scale_11 (by decide) ?_
    refine va_put (D := D) (ci := 8) (v := .int 1) (ty := .int) (C := "ConeForgeModel") (T := FM) (N := 46) hx hb hts iM tM tM_ok nmM hown hK hP hD hS 0 rfl rfl 34 (by decide) (hts _ (bgc bw718)) (fun _ h9 => h9) rfl (by decide +kernel) rfl rfl (Nat.le_of_ble_eq_true rfl) d_M_scale_44 (fun H locs hP hD hS => ?_)
    have hP : va_P D CL (w_M_scale T q0 q0_a q0_b q0_c q0_rowScale q0_columnScale q0_sa q0_sb q0_sc q0_x q0_s q0_y q0_p q0_d q0_h q0_f q0_mm q0_low q0_dd q0_r q0_big q0_dt q0_dx q0_t q0_cost q0_rowScaleNow q0_columnScaleNow q0_basic q0_text q0_turned q0_na q0_nb q0_nc vq0_m vq0_n vq0_length vq0_where vq0_effort 1 vq0_at vq0_scaled vq0_solved vq0_second vq0_nm vq0_nn vq0_number vq0_bad vq0_a vq0_rowScaleNow vq0_columnScaleNow) H := hP
    have hD : va_D A (w_M_scale T q0 q0_a q0_b q0_c q0_rowScale q0_columnScale q0_sa q0_sb q0_sc q0_x q0_s q0_y q0_p q0_d q0_h q0_f q0_mm q0_low q0_dd q0_r q0_big q0_dt q0_dx q0_t q0_cost q0_rowScaleNow q0_columnScaleNow q0_basic q0_text q0_turned q0_na q0_nb q0_nc vq0_m vq0_n vq0_length vq0_where vq0_effort 1 vq0_at vq0_scaled vq0_solved vq0_second vq0_nm vq0_nn vq0_number vq0_bad vq0_a vq0_rowScaleNow vq0_columnScaleNow) := hD
    refine lv_aload_n hx hb d_M_scale_47 rfl (lv_at hl 0 rfl) ?_
    refine va_get (D := D) (ci := 8) (v := .int 1) (C := "ConeForgeModel") (T := FM) (N := 46) hx hb hts iM hown hK hP 0 rfl rfl 34 (by decide) (hts _ (bgc bw718)) (fun _ h9 => h9) rfl d_M_scale_48 ?_
    refine lv_if_le (tgt := 56) hx hb d_M_scale_51 (by decide) (fun c28 => ?_) (fun c28 => ?_)
    · have h := it_t c28 h
      refine lv_aload_n hx hb d_M_scale_56 rfl (lv_at hl 0 rfl) ?_
      obtain ⟨u29, hu29, h⟩ := bi_some h
      refine kV (wc := (w_M_measureScales T q0 q0_a q0_b q0_c q0_rowScale q0_columnScale q0_sa q0_sb q0_sc q0_x q0_s q0_y q0_p q0_d q0_h q0_f q0_mm q0_low q0_dd q0_r q0_big q0_dt q0_dx q0_t q0_cost q0_rowScaleNow q0_columnScaleNow q0_basic q0_text q0_turned q0_na q0_nb q0_nc vq0_m vq0_n vq0_length vq0_where vq0_effort 1 vq0_at vq0_scaled vq0_solved vq0_second vq0_nm vq0_nn vq0_number vq0_bad vq0_a vq0_rowScaleNow vq0_columnScaleNow)) (wc' := (w_M_measureScales T q0 q0_a q0_b q0_c q0_rowScale q0_columnScale q0_sa q0_sb q0_sc q0_x q0_s q0_y q0_p q0_d q0_h q0_f q0_mm q0_low q0_dd q0_r q0_big q0_dt q0_dx q0_t q0_cost q0_rowScaleNow q0_columnScaleNow q0_basic q0_text q0_turned q0_na q0_nb q0_nc vq0_m vq0_n vq0_length vq0_where vq0_effort 1 vq0_at vq0_scaled vq0_solved vq0_second vq0_nm vq0_nn vq0_number vq0_bad vq0_a u29.1 u29.2)) (runOV (As := []) (rest := []) ((c_M_measureScales l D T q0 q0_a q0_b q0_c q0_rowScale q0_columnScale q0_sa q0_sb q0_sc q0_x q0_s q0_y q0_p q0_d q0_h q0_f q0_mm q0_low q0_dd q0_r q0_big q0_dt q0_dx q0_t q0_cost q0_rowScaleNow q0_columnScaleNow q0_basic q0_text q0_turned q0_na q0_nb q0_nc vq0_m vq0_n vq0_length vq0_where vq0_effort 1 vq0_at vq0_scaled vq0_solved vq0_second vq0_nm vq0_nn vq0_number vq0_bad vq0_a vq0_rowScaleNow vq0_columnScaleNow  u29 hu29) H.size) ⟨hx, hb, hml, hown, hts⟩ (cwOV bw959 bw960 bw95 bw105 bw961 dd_M_measureScales hts ⟨Nat.le_of_ble_eq_true rfl, Nat.le_of_ble_eq_true rfl⟩) (va_recv hK hP (ci := 8) (q0 := 0) rfl rfl) hNW hK hP hD [0, 1, 2, 3] rfl (by decide) rfl hl.1 rfl (lv_room (Nat.le_of_ble_eq_true rfl)) d_M_scale_57 ⟨Nat.le_of_ble_eq_true rfl, Nat.le_of_ble_eq_true rfl⟩) hP hD hS hA [0, 1, 2, 3] rfl rfl (fun H locs hP hD hS => ?_)
      have hP : va_P D CL (w_M_scale T q0 q0_a q0_b q0_c q0_rowScale q0_columnScale q0_sa q0_sb q0_sc q0_x q0_s q0_y q0_p q0_d q0_h q0_f q0_mm q0_low q0_dd q0_r q0_big q0_dt q0_dx q0_t q0_cost q0_rowScaleNow q0_columnScaleNow q0_basic q0_text q0_turned q0_na q0_nb q0_nc vq0_m vq0_n vq0_length vq0_where vq0_effort 1 vq0_at vq0_scaled vq0_solved vq0_second vq0_nm vq0_nn vq0_number vq0_bad vq0_a u29.1 u29.2) H := hP
      have hD : va_D A (w_M_scale T q0 q0_a q0_b q0_c q0_rowScale q0_columnScale q0_sa q0_sb q0_sc q0_x q0_s q0_y q0_p q0_d q0_h q0_f q0_mm q0_low q0_dd q0_r q0_big q0_dt q0_dx q0_t q0_cost q0_rowScaleNow q0_columnScaleNow q0_basic q0_text q0_turned q0_na q0_nb q0_nc vq0_m vq0_n vq0_length vq0_where vq0_effort 1 vq0_at vq0_scaled vq0_solved vq0_second vq0_nm vq0_nn vq0_number vq0_bad vq0_a u29.1 u29.2) := hD
      refine lv_iload_n hx hb d_M_scale_60 rfl (lv_at hl 1 rfl) ?_
      refine lv_if_ne (tgt := 73) hx hb d_M_scale_61 (by decide) (fun c30 => ?_) (fun c30 => ?_)
      · have h := it_f c30 h
        refine lv_aload_n hx hb d_M_scale_73 rfl (lv_at hl 0 rfl) ?_
        refine va_get (D := D) (ci := 8) (v := .ref q0_columnScaleNow) (C := "ConeForgeModel") (T := FM) (N := 46) hx hb hts iM hown hK hP 0 rfl rfl 25 (by decide) (hts _ (bgc bw709)) (fun _ h9 => h9) rfl d_M_scale_74 ?_
        refine lv_iload_n hx hb d_M_scale_77 rfl (lv_at hl 2 rfl) ?_
        obtain ⟨g31, h⟩ := gd_some h
        refine va_dald hx hb hK hP 3 0 rfl rfl (inb_in g31) d_M_scale_78 ?_
        exact rtD hx hb hr hlocks hQ (Option.some.inj h) hP hS d_M_scale_79 rfl rfl
      · have h := it_t c30 h
        refine lv_aload_n hx hb d_M_scale_64 rfl (lv_at hl 0 rfl) ?_
        refine va_get (D := D) (ci := 8) (v := .ref q0_rowScaleNow) (C := "ConeForgeModel") (T := FM) (N := 46) hx hb hts iM hown hK hP 0 rfl rfl 24 (by decide) (hts _ (bgc bw708)) (fun _ h9 => h9) rfl d_M_scale_65 ?_
        refine lv_iload_n hx hb d_M_scale_68 rfl (lv_at hl 2 rfl) ?_
        obtain ⟨g32, h⟩ := gd_some h
        refine va_dald hx hb hK hP 2 0 rfl rfl (inb_in g32) d_M_scale_69 ?_
        refine lv_goto (tgt := 79) hx hb d_M_scale_70 (by decide) ?_
        exact rtD hx hb hr hlocks hQ (Option.some.inj h) hP hS d_M_scale_79 rfl rfl
    · have h := it_f c28 h
      refine lv_dconst0 hx hb d_M_scale_54 ?_
      exact rtD hx hb hr hlocks hQ (Option.some.inj h) hP hS d_M_scale_55 rfl rfl
