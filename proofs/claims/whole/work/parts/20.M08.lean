theorem d_M_factor_0 : decode prog_10_method_25_code 0 = .ok (.iconst 0, 1) := by decide +kernel
theorem d_M_factor_1 : decode prog_10_method_25_code 1 = .ok (.istore_n 1, 1) := by decide +kernel
theorem d_M_factor_2 : decode prog_10_method_25_code 2 = .ok (.iload_n 1, 1) := by decide +kernel
theorem d_M_factor_3 : decode prog_10_method_25_code 3 = .ok (.aload_n 0, 1) := by decide +kernel
theorem d_M_factor_4 : decode prog_10_method_25_code 4 = .ok (.getfield 99, 3) := by decide +kernel
theorem d_M_factor_7 : decode prog_10_method_25_code 7 = .ok (.if_icmp .ge 130, 3) := by decide +kernel
theorem d_M_factor_10 : decode prog_10_method_25_code 10 = .ok (.iconst 0, 1) := by decide +kernel
theorem d_M_factor_11 : decode prog_10_method_25_code 11 = .ok (.istore_n 2, 1) := by decide +kernel
theorem d_M_factor_12 : decode prog_10_method_25_code 12 = .ok (.iload_n 2, 1) := by decide +kernel
theorem d_M_factor_13 : decode prog_10_method_25_code 13 = .ok (.iload_n 1, 1) := by decide +kernel
theorem d_M_factor_14 : decode prog_10_method_25_code 14 = .ok (.if_icmp .gt 117, 3) := by decide +kernel
theorem d_M_factor_17 : decode prog_10_method_25_code 17 = .ok (.aload_n 0, 1) := by decide +kernel
theorem d_M_factor_18 : decode prog_10_method_25_code 18 = .ok (.getfield 55, 3) := by decide +kernel
theorem d_M_factor_21 : decode prog_10_method_25_code 21 = .ok (.iconst 5, 1) := by decide +kernel
theorem d_M_factor_22 : decode prog_10_method_25_code 22 = .ok (.iload_n 1, 1) := by decide +kernel
theorem d_M_factor_23 : decode prog_10_method_25_code 23 = .ok (.imul, 1) := by decide +kernel
theorem d_M_factor_24 : decode prog_10_method_25_code 24 = .ok (.iload_n 2, 1) := by decide +kernel
theorem d_M_factor_25 : decode prog_10_method_25_code 25 = .ok (.iadd, 1) := by decide +kernel
theorem d_M_factor_26 : decode prog_10_method_25_code 26 = .ok (.daload, 1) := by decide +kernel
theorem d_M_factor_27 : decode prog_10_method_25_code 27 = .ok (.dstore_n 3, 1) := by decide +kernel
theorem d_M_factor_28 : decode prog_10_method_25_code 28 = .ok (.iconst 0, 1) := by decide +kernel
theorem d_M_factor_29 : decode prog_10_method_25_code 29 = .ok (.istore 5, 2) := by decide +kernel
theorem d_M_factor_31 : decode prog_10_method_25_code 31 = .ok (.iload 5, 2) := by decide +kernel
theorem d_M_factor_33 : decode prog_10_method_25_code 33 = .ok (.iload_n 2, 1) := by decide +kernel
theorem d_M_factor_34 : decode prog_10_method_25_code 34 = .ok (.if_icmp .ge 43, 3) := by decide +kernel
theorem d_M_factor_37 : decode prog_10_method_25_code 37 = .ok (.dload_n 3, 1) := by decide +kernel
theorem d_M_factor_38 : decode prog_10_method_25_code 38 = .ok (.aload_n 0, 1) := by decide +kernel
theorem d_M_factor_39 : decode prog_10_method_25_code 39 = .ok (.getfield 58, 3) := by decide +kernel
theorem d_M_factor_42 : decode prog_10_method_25_code 42 = .ok (.iconst 5, 1) := by decide +kernel
theorem d_M_factor_43 : decode prog_10_method_25_code 43 = .ok (.iload_n 1, 1) := by decide +kernel
theorem d_M_factor_44 : decode prog_10_method_25_code 44 = .ok (.imul, 1) := by decide +kernel
theorem d_M_factor_45 : decode prog_10_method_25_code 45 = .ok (.iload 5, 2) := by decide +kernel
theorem d_M_factor_47 : decode prog_10_method_25_code 47 = .ok (.iadd, 1) := by decide +kernel
theorem d_M_factor_48 : decode prog_10_method_25_code 48 = .ok (.daload, 1) := by decide +kernel
theorem d_M_factor_49 : decode prog_10_method_25_code 49 = .ok (.aload_n 0, 1) := by decide +kernel
theorem d_M_factor_50 : decode prog_10_method_25_code 50 = .ok (.getfield 61, 3) := by decide +kernel
theorem d_M_factor_53 : decode prog_10_method_25_code 53 = .ok (.iload 5, 2) := by decide +kernel
theorem d_M_factor_55 : decode prog_10_method_25_code 55 = .ok (.daload, 1) := by decide +kernel
theorem d_M_factor_56 : decode prog_10_method_25_code 56 = .ok (.dmul, 1) := by decide +kernel
theorem d_M_factor_57 : decode prog_10_method_25_code 57 = .ok (.aload_n 0, 1) := by decide +kernel
theorem d_M_factor_58 : decode prog_10_method_25_code 58 = .ok (.getfield 58, 3) := by decide +kernel
theorem d_M_factor_61 : decode prog_10_method_25_code 61 = .ok (.iconst 5, 1) := by decide +kernel
theorem d_M_factor_62 : decode prog_10_method_25_code 62 = .ok (.iload_n 2, 1) := by decide +kernel
theorem d_M_factor_63 : decode prog_10_method_25_code 63 = .ok (.imul, 1) := by decide +kernel
theorem d_M_factor_64 : decode prog_10_method_25_code 64 = .ok (.iload 5, 2) := by decide +kernel
theorem d_M_factor_66 : decode prog_10_method_25_code 66 = .ok (.iadd, 1) := by decide +kernel
theorem d_M_factor_67 : decode prog_10_method_25_code 67 = .ok (.daload, 1) := by decide +kernel
theorem d_M_factor_68 : decode prog_10_method_25_code 68 = .ok (.dmul, 1) := by decide +kernel
theorem d_M_factor_69 : decode prog_10_method_25_code 69 = .ok (.dsub, 1) := by decide +kernel
theorem d_M_factor_70 : decode prog_10_method_25_code 70 = .ok (.dstore_n 3, 1) := by decide +kernel
theorem d_M_factor_71 : decode prog_10_method_25_code 71 = .ok (.iinc 5 1, 3) := by decide +kernel
theorem d_M_factor_74 : decode prog_10_method_25_code 74 = .ok (.goto (-43), 3) := by decide +kernel
theorem d_M_factor_77 : decode prog_10_method_25_code 77 = .ok (.iload_n 2, 1) := by decide +kernel
theorem d_M_factor_78 : decode prog_10_method_25_code 78 = .ok (.iload_n 1, 1) := by decide +kernel
theorem d_M_factor_79 : decode prog_10_method_25_code 79 = .ok (.if_icmp .ge 24, 3) := by decide +kernel
theorem d_M_factor_82 : decode prog_10_method_25_code 82 = .ok (.aload_n 0, 1) := by decide +kernel
theorem d_M_factor_83 : decode prog_10_method_25_code 83 = .ok (.getfield 58, 3) := by decide +kernel
theorem d_M_factor_86 : decode prog_10_method_25_code 86 = .ok (.iconst 5, 1) := by decide +kernel
theorem d_M_factor_87 : decode prog_10_method_25_code 87 = .ok (.iload_n 1, 1) := by decide +kernel
theorem d_M_factor_88 : decode prog_10_method_25_code 88 = .ok (.imul, 1) := by decide +kernel
theorem d_M_factor_89 : decode prog_10_method_25_code 89 = .ok (.iload_n 2, 1) := by decide +kernel
theorem d_M_factor_90 : decode prog_10_method_25_code 90 = .ok (.iadd, 1) := by decide +kernel
theorem d_M_factor_91 : decode prog_10_method_25_code 91 = .ok (.dload_n 3, 1) := by decide +kernel
theorem d_M_factor_92 : decode prog_10_method_25_code 92 = .ok (.aload_n 0, 1) := by decide +kernel
theorem d_M_factor_93 : decode prog_10_method_25_code 93 = .ok (.getfield 61, 3) := by decide +kernel
theorem d_M_factor_96 : decode prog_10_method_25_code 96 = .ok (.iload_n 2, 1) := by decide +kernel
theorem d_M_factor_97 : decode prog_10_method_25_code 97 = .ok (.daload, 1) := by decide +kernel
theorem d_M_factor_98 : decode prog_10_method_25_code 98 = .ok (.ddiv, 1) := by decide +kernel
theorem d_M_factor_99 : decode prog_10_method_25_code 99 = .ok (.dastore, 1) := by decide +kernel
theorem d_M_factor_100 : decode prog_10_method_25_code 100 = .ok (.goto 10, 3) := by decide +kernel
theorem d_M_factor_103 : decode prog_10_method_25_code 103 = .ok (.aload_n 0, 1) := by decide +kernel
theorem d_M_factor_104 : decode prog_10_method_25_code 104 = .ok (.getfield 61, 3) := by decide +kernel
theorem d_M_factor_107 : decode prog_10_method_25_code 107 = .ok (.iload_n 1, 1) := by decide +kernel
theorem d_M_factor_108 : decode prog_10_method_25_code 108 = .ok (.dload_n 3, 1) := by decide +kernel
theorem d_M_factor_109 : decode prog_10_method_25_code 109 = .ok (.dastore, 1) := by decide +kernel
theorem d_M_factor_110 : decode prog_10_method_25_code 110 = .ok (.iload_n 2, 1) := by decide +kernel
theorem d_M_factor_111 : decode prog_10_method_25_code 111 = .ok (.iload_n 1, 1) := by decide +kernel
theorem d_M_factor_112 : decode prog_10_method_25_code 112 = .ok (.if_icmp .ne 13, 3) := by decide +kernel
theorem d_M_factor_115 : decode prog_10_method_25_code 115 = .ok (.dload_n 3, 1) := by decide +kernel
theorem d_M_factor_116 : decode prog_10_method_25_code 116 = .ok (.ldc2_w 214, 3) := by decide +kernel
theorem d_M_factor_119 : decode prog_10_method_25_code 119 = .ok (.dcmp .g, 1) := by decide +kernel
theorem d_M_factor_120 : decode prog_10_method_25_code 120 = .ok (.ifCond .gt 5, 3) := by decide +kernel
theorem d_M_factor_123 : decode prog_10_method_25_code 123 = .ok (.iconst 0, 1) := by decide +kernel
theorem d_M_factor_124 : decode prog_10_method_25_code 124 = .ok (.ireturn, 1) := by decide +kernel
theorem d_M_factor_125 : decode prog_10_method_25_code 125 = .ok (.iinc 2 1, 3) := by decide +kernel
theorem d_M_factor_128 : decode prog_10_method_25_code 128 = .ok (.goto (-116), 3) := by decide +kernel
theorem d_M_factor_131 : decode prog_10_method_25_code 131 = .ok (.iinc 1 1, 3) := by decide +kernel
theorem d_M_factor_134 : decode prog_10_method_25_code 134 = .ok (.goto (-132), 3) := by decide +kernel
theorem d_M_factor_137 : decode prog_10_method_25_code 137 = .ok (.iconst 1, 1) := by decide +kernel
theorem d_M_factor_138 : decode prog_10_method_25_code 138 = .ok (.ireturn, 1) := by decide +kernel
abbrev w_M_factor (T : Nat → ClassId) (q0 : Nat) (q0_a : Nat) (q0_b : Nat) (q0_c : Nat) (q0_rowScale : Nat) (q0_columnScale : Nat) (q0_sa : Nat) (q0_sb : Nat) (q0_sc : Nat) (q0_x : Nat) (q0_s : Nat) (q0_y : Nat) (q0_p : Nat) (q0_d : Nat) (q0_h : Nat) (q0_f : Nat) (q0_mm : Nat) (q0_low : Nat) (q0_dd : Nat) (q0_r : Nat) (q0_big : Nat) (q0_dt : Nat) (q0_dx : Nat) (q0_t : Nat) (q0_cost : Nat) (q0_rowScaleNow : Nat) (q0_columnScaleNow : Nat) (q0_basic : Nat) (q0_text : Nat) (q0_turned : Nat) (q0_na : Nat) (q0_nb : Nat) (q0_nc : Nat) (vq0_m : Int32) (vq0_n : Int32) (vq0_length : Int32) (vq0_where : Int32) (vq0_effort : Int32) (vq0_thrown : Int32) (vq0_at : Int32) (vq0_scaled : Int32) (vq0_solved : Int32) (vq0_second : Int32) (vq0_nm : Int32) (vq0_nn : Int32) (vq0_number : UInt64) (vq0_bad : Int32) (vq0_mm : Nat → UInt64) (vq0_low : Nat → UInt64) (vq0_dd : Nat → UInt64) : va_W := [(q0, .inr (8, [.ref q0_a, .ref q0_b, .ref q0_c, .ref q0_rowScale, .ref q0_columnScale, .ref q0_sa, .ref q0_sb, .ref q0_sc, .ref q0_x, .ref q0_s, .ref q0_y, .ref q0_p, .ref q0_d, .ref q0_h, .ref q0_f, .ref q0_mm, .ref q0_low, .ref q0_dd, .ref q0_r, .ref q0_big, .ref q0_dt, .ref q0_dx, .ref q0_t, .ref q0_cost, .ref q0_rowScaleNow, .ref q0_columnScaleNow, .ref q0_basic, .ref q0_text, .ref q0_turned, .int vq0_m, .int vq0_n, .int vq0_length, .int vq0_where, .int vq0_effort, .int vq0_thrown, .int vq0_at, .int vq0_scaled, .int vq0_solved, .int vq0_second, .ref q0_na, .ref q0_nb, .ref q0_nc, .int vq0_nm, .int vq0_nn, .double vq0_number, .int vq0_bad])), (q0_mm, .inl (T 0, 25, .inr (.inr (.inr (.inl vq0_mm))))), (q0_low, .inl (T 0, 25, .inr (.inr (.inr (.inl vq0_low))))), (q0_dd, .inl (T 0, 5, .inr (.inr (.inr (.inl vq0_dd)))))]
def s_M_factor_J125 (vq0_m : Int32) (vq0_n : Int32) (vq0_length : Int32) (vq0_where : Int32) (vq0_effort : Int32) (vq0_thrown : Int32) (vq0_at : Int32) (vq0_scaled : Int32) (vq0_solved : Int32) (vq0_second : Int32) (vq0_nm : Int32) (vq0_nn : Int32) (vq0_number : UInt64) (vq0_bad : Int32) (vq0_mm : Nat → UInt64) (vq0_low : Nat → UInt64) (vq0_dd : Nat → UInt64) (x1 : Int32) (x2 : Int32) : Option (((Nat → UInt64) × (Nat → UInt64) × Int32) ⊕ (((Nat → UInt64) × (Nat → UInt64)) ⊕ (Int32 × (Nat → UInt64) × (Nat → UInt64)))) :=
  some (.inl (vq0_low, vq0_dd, x2 + 1))
def s_M_factor_J110 (vq0_m : Int32) (vq0_n : Int32) (vq0_length : Int32) (vq0_where : Int32) (vq0_effort : Int32) (vq0_thrown : Int32) (vq0_at : Int32) (vq0_scaled : Int32) (vq0_solved : Int32) (vq0_second : Int32) (vq0_nm : Int32) (vq0_nn : Int32) (vq0_number : UInt64) (vq0_bad : Int32) (vq0_mm : Nat → UInt64) (vq0_low : Nat → UInt64) (vq0_dd : Nat → UInt64) (x1 : Int32) (x2 : Int32) (x3 : UInt64) : Option (((Nat → UInt64) × (Nat → UInt64) × Int32) ⊕ (((Nat → UInt64) × (Nat → UInt64)) ⊕ (Int32 × (Nat → UInt64) × (Nat → UInt64)))) :=
  if x2 = x1 then (if 0 < (Op.cmpValue (FP.dcmp x3 4412443251819771522) .g) then (s_M_factor_J125 vq0_m vq0_n vq0_length vq0_where vq0_effort vq0_thrown vq0_at vq0_scaled vq0_solved vq0_second vq0_nm vq0_nn vq0_number vq0_bad vq0_mm vq0_low vq0_dd x1 x2) else (gd (isb 0) <| some (.inr (.inr (0, vq0_low, vq0_dd))))) else (s_M_factor_J125 vq0_m vq0_n vq0_length vq0_where vq0_effort vq0_thrown vq0_at vq0_scaled vq0_solved vq0_second vq0_nm vq0_nn vq0_number vq0_bad vq0_mm vq0_low vq0_dd x1 x2)
def s_M_factor_B31 (vq0_m : Int32) (vq0_n : Int32) (vq0_length : Int32) (vq0_where : Int32) (vq0_effort : Int32) (vq0_thrown : Int32) (vq0_at : Int32) (vq0_scaled : Int32) (vq0_solved : Int32) (vq0_second : Int32) (vq0_nm : Int32) (vq0_nn : Int32) (vq0_number : UInt64) (vq0_bad : Int32) (vq0_mm : Nat → UInt64) (vq0_low : Nat → UInt64) (vq0_dd : Nat → UInt64) (x1 : Int32) (x2 : Int32) (x3 : UInt64) (x5 : Int32) : Option ((UInt64 × Int32) ⊕ (UInt64)) :=
  if x2 ≤ x5 then (some (.inr x3)) else (gd (inb ((5 * x1) + x5) 25) <| gd (inb x5 5) <| gd (isn (FP.dmul (vq0_low ((5 * x1) + x5).toNatClampNeg) (vq0_dd x5.toNatClampNeg))) <| gd (inb ((5 * x2) + x5) 25) <| gd (isn (FP.dmul (FP.dmul (vq0_low ((5 * x1) + x5).toNatClampNeg) (vq0_dd x5.toNatClampNeg)) (vq0_low ((5 * x2) + x5).toNatClampNeg))) <| gd (isn (FP.dsub x3 (FP.dmul (FP.dmul (vq0_low ((5 * x1) + x5).toNatClampNeg) (vq0_dd x5.toNatClampNeg)) (vq0_low ((5 * x2) + x5).toNatClampNeg)))) <| some (.inl (FP.dsub x3 (FP.dmul (FP.dmul (vq0_low ((5 * x1) + x5).toNatClampNeg) (vq0_dd x5.toNatClampNeg)) (vq0_low ((5 * x2) + x5).toNatClampNeg)), x5 + 1)))
def s_M_factor_L31 (vq0_m : Int32) (vq0_n : Int32) (vq0_length : Int32) (vq0_where : Int32) (vq0_effort : Int32) (vq0_thrown : Int32) (vq0_at : Int32) (vq0_scaled : Int32) (vq0_solved : Int32) (vq0_second : Int32) (vq0_nm : Int32) (vq0_nn : Int32) (vq0_number : UInt64) (vq0_bad : Int32) (vq0_mm : Nat → UInt64) (vq0_low : Nat → UInt64) (vq0_dd : Nat → UInt64) (x1 : Int32) (x2 : Int32) (x3 : UInt64) (x5 : Int32) : Option (((Nat → UInt64) × (Nat → UInt64) × Int32) ⊕ (((Nat → UInt64) × (Nat → UInt64)) ⊕ (Int32 × (Nat → UInt64) × (Nat → UInt64)))) :=
  (loopO (fun (st : UInt64 × Int32) => s_M_factor_B31 vq0_m vq0_n vq0_length vq0_where vq0_effort vq0_thrown vq0_at vq0_scaled vq0_solved vq0_second vq0_nm vq0_nn vq0_number vq0_bad vq0_mm vq0_low vq0_dd x1 x2 st.1 st.2) 2000 (x3, x5)).bind fun ul31 => if x1 ≤ x2 then (gd (inb x1 5) <| s_M_factor_J110 vq0_m vq0_n vq0_length vq0_where vq0_effort vq0_thrown vq0_at vq0_scaled vq0_solved vq0_second vq0_nm vq0_nn vq0_number vq0_bad vq0_mm vq0_low (vf_upd vq0_dd x1.toNatClampNeg ul31) x1 x2 ul31) else (gd (inb x2 5) <| gd (isn (FP.ddiv ul31 (vq0_dd x2.toNatClampNeg))) <| gd (inb ((5 * x1) + x2) 25) <| s_M_factor_J110 vq0_m vq0_n vq0_length vq0_where vq0_effort vq0_thrown vq0_at vq0_scaled vq0_solved vq0_second vq0_nm vq0_nn vq0_number vq0_bad vq0_mm (vf_upd vq0_low ((5 * x1) + x2).toNatClampNeg (FP.ddiv ul31 (vq0_dd x2.toNatClampNeg))) vq0_dd x1 x2 ul31)
def s_M_factor_B12 (vq0_m : Int32) (vq0_n : Int32) (vq0_length : Int32) (vq0_where : Int32) (vq0_effort : Int32) (vq0_thrown : Int32) (vq0_at : Int32) (vq0_scaled : Int32) (vq0_solved : Int32) (vq0_second : Int32) (vq0_nm : Int32) (vq0_nn : Int32) (vq0_number : UInt64) (vq0_bad : Int32) (vq0_mm : Nat → UInt64) (x1 : Int32) (vq0_low : Nat → UInt64) (vq0_dd : Nat → UInt64) (x2 : Int32) : Option (((Nat → UInt64) × (Nat → UInt64) × Int32) ⊕ (((Nat → UInt64) × (Nat → UInt64)) ⊕ (Int32 × (Nat → UInt64) × (Nat → UInt64)))) :=
  if x1 < x2 then (some (.inr (.inl (vq0_low, vq0_dd)))) else (gd (inb ((5 * x1) + x2) 25) <| s_M_factor_L31 vq0_m vq0_n vq0_length vq0_where vq0_effort vq0_thrown vq0_at vq0_scaled vq0_solved vq0_second vq0_nm vq0_nn vq0_number vq0_bad vq0_mm vq0_low vq0_dd x1 x2 (vq0_mm ((5 * x1) + x2).toNatClampNeg) 0)
def s_M_factor_L12 (vq0_m : Int32) (vq0_n : Int32) (vq0_length : Int32) (vq0_where : Int32) (vq0_effort : Int32) (vq0_thrown : Int32) (vq0_at : Int32) (vq0_scaled : Int32) (vq0_solved : Int32) (vq0_second : Int32) (vq0_nm : Int32) (vq0_nn : Int32) (vq0_number : UInt64) (vq0_bad : Int32) (vq0_mm : Nat → UInt64) (vq0_low : Nat → UInt64) (vq0_dd : Nat → UInt64) (x1 : Int32) (x2 : Int32) : Option (((Nat → UInt64) × (Nat → UInt64) × Int32) ⊕ (((Nat → UInt64) × (Nat → UInt64)) ⊕ (Int32 × (Nat → UInt64) × (Nat → UInt64)))) :=
  (loopO (fun (st : (Nat → UInt64) × (Nat → UInt64) × Int32) => s_M_factor_B12 vq0_m vq0_n vq0_length vq0_where vq0_effort vq0_thrown vq0_at vq0_scaled vq0_solved vq0_second vq0_nm vq0_nn vq0_number vq0_bad vq0_mm x1 st.1 st.2.1 st.2.2) 2000 (vq0_low, vq0_dd, x2)).bind fun ul12 => Sum.elim (fun wl12 => some (.inl (wl12.1, wl12.2, x1 + 1))) (fun wl12 => some (.inr (.inr wl12))) ul12
def s_M_factor_B2 (vq0_m : Int32) (vq0_n : Int32) (vq0_length : Int32) (vq0_where : Int32) (vq0_effort : Int32) (vq0_thrown : Int32) (vq0_at : Int32) (vq0_scaled : Int32) (vq0_solved : Int32) (vq0_second : Int32) (vq0_nm : Int32) (vq0_nn : Int32) (vq0_number : UInt64) (vq0_bad : Int32) (vq0_mm : Nat → UInt64) (vq0_low : Nat → UInt64) (vq0_dd : Nat → UInt64) (x1 : Int32) : Option (((Nat → UInt64) × (Nat → UInt64) × Int32) ⊕ (((Nat → UInt64) × (Nat → UInt64)) ⊕ (Int32 × (Nat → UInt64) × (Nat → UInt64)))) :=
  if vq0_m ≤ x1 then (some (.inr (.inl (vq0_low, vq0_dd)))) else (s_M_factor_L12 vq0_m vq0_n vq0_length vq0_where vq0_effort vq0_thrown vq0_at vq0_scaled vq0_solved vq0_second vq0_nm vq0_nn vq0_number vq0_bad vq0_mm vq0_low vq0_dd x1 0)
def s_M_factor_L2 (vq0_m : Int32) (vq0_n : Int32) (vq0_length : Int32) (vq0_where : Int32) (vq0_effort : Int32) (vq0_thrown : Int32) (vq0_at : Int32) (vq0_scaled : Int32) (vq0_solved : Int32) (vq0_second : Int32) (vq0_nm : Int32) (vq0_nn : Int32) (vq0_number : UInt64) (vq0_bad : Int32) (vq0_mm : Nat → UInt64) (vq0_low : Nat → UInt64) (vq0_dd : Nat → UInt64) (x1 : Int32) : Option (Int32 × (Nat → UInt64) × (Nat → UInt64)) :=
  (loopO (fun (st : (Nat → UInt64) × (Nat → UInt64) × Int32) => s_M_factor_B2 vq0_m vq0_n vq0_length vq0_where vq0_effort vq0_thrown vq0_at vq0_scaled vq0_solved vq0_second vq0_nm vq0_nn vq0_number vq0_bad vq0_mm st.1 st.2.1 st.2.2) 2000 (vq0_low, vq0_dd, x1)).bind fun ul2 => Sum.elim (fun wl2 => gd (isb 1) <| some (1, wl2.1, wl2.2)) (fun wl2 => some wl2) ul2
def s_M_factor (vq0_m : Int32) (vq0_n : Int32) (vq0_length : Int32) (vq0_where : Int32) (vq0_effort : Int32) (vq0_thrown : Int32) (vq0_at : Int32) (vq0_scaled : Int32) (vq0_solved : Int32) (vq0_second : Int32) (vq0_nm : Int32) (vq0_nn : Int32) (vq0_number : UInt64) (vq0_bad : Int32) (vq0_mm : Nat → UInt64) (vq0_low : Nat → UInt64) (vq0_dd : Nat → UInt64) : Option (Int32 × (Nat → UInt64) × (Nat → UInt64)) :=
  s_M_factor_L2 vq0_m vq0_n vq0_length vq0_where vq0_effort vq0_thrown vq0_at vq0_scaled vq0_solved vq0_second vq0_nm vq0_nn vq0_number vq0_bad vq0_mm vq0_low vq0_dd 0
set_option maxHeartbeats 40000000 in
set_option maxRecDepth 100000 in
theorem c_M_factor (l : Launch) (D : va_G) (T : Nat → ClassId) (q0 : Nat) (q0_a : Nat) (q0_b : Nat) (q0_c : Nat) (q0_rowScale : Nat) (q0_columnScale : Nat) (q0_sa : Nat) (q0_sb : Nat) (q0_sc : Nat) (q0_x : Nat) (q0_s : Nat) (q0_y : Nat) (q0_p : Nat) (q0_d : Nat) (q0_h : Nat) (q0_f : Nat) (q0_mm : Nat) (q0_low : Nat) (q0_dd : Nat) (q0_r : Nat) (q0_big : Nat) (q0_dt : Nat) (q0_dx : Nat) (q0_t : Nat) (q0_cost : Nat) (q0_rowScaleNow : Nat) (q0_columnScaleNow : Nat) (q0_basic : Nat) (q0_text : Nat) (q0_turned : Nat) (q0_na : Nat) (q0_nb : Nat) (q0_nc : Nat) (vq0_m : Int32) (vq0_n : Int32) (vq0_length : Int32) (vq0_where : Int32) (vq0_effort : Int32) (vq0_thrown : Int32) (vq0_at : Int32) (vq0_scaled : Int32) (vq0_solved : Int32) (vq0_second : Int32) (vq0_nm : Int32) (vq0_nn : Int32) (vq0_number : UInt64) (vq0_bad : Int32) (vq0_mm : Nat → UInt64) (vq0_low : Nat → UInt64) (vq0_dd : Nat → UInt64) (rm : Int32 × (Nat → UInt64) × (Nat → UInt64)) (h : s_M_factor vq0_m vq0_n vq0_length vq0_where vq0_effort vq0_thrown vq0_at vq0_scaled vq0_solved vq0_second vq0_nm vq0_nn vq0_number vq0_bad vq0_mm vq0_low vq0_dd = some rm) : CtI l y_M_factor (Cond.code y_M_factor prog_10_method_25_code 6 (some .boolean) :: BIG) 0 0 D T [.ref q0] (w_M_factor T q0 q0_a q0_b q0_c q0_rowScale q0_columnScale q0_sa q0_sb q0_sc q0_x q0_s q0_y q0_p q0_d q0_h q0_f q0_mm q0_low q0_dd q0_r q0_big q0_dt q0_dx q0_t q0_cost q0_rowScaleNow q0_columnScaleNow q0_basic q0_text q0_turned q0_na q0_nb q0_nc vq0_m vq0_n vq0_length vq0_where vq0_effort vq0_thrown vq0_at vq0_scaled vq0_solved vq0_second vq0_nm vq0_nn vq0_number vq0_bad vq0_mm vq0_low vq0_dd) (fun r => r.1) (fun r => (w_M_factor T q0 q0_a q0_b q0_c q0_rowScale q0_columnScale q0_sa q0_sb q0_sc q0_x q0_s q0_y q0_p q0_d q0_h q0_f q0_mm q0_low q0_dd q0_r q0_big q0_dt q0_dx q0_t q0_cost q0_rowScaleNow q0_columnScaleNow q0_basic q0_text q0_turned q0_na q0_nb q0_nc vq0_m vq0_n vq0_length vq0_where vq0_effort vq0_thrown vq0_at vq0_scaled vq0_solved vq0_second vq0_nm vq0_nn vq0_number vq0_bad vq0_mm r.2.1 r.2.2)) rm := by
  refine cf_entry (y := y_M_factor) (cc := prog_10_method_25_code) (nL := 6) (ret := (some .boolean)) (fr := 0) (lo := 0) (T := T) (av := [.ref q0]) (w := (w_M_factor T q0 q0_a q0_b q0_c q0_rowScale q0_columnScale q0_sa q0_sb q0_sc q0_x q0_s q0_y q0_p q0_d q0_h q0_f q0_mm q0_low q0_dd q0_r q0_big q0_dt q0_dx q0_t q0_cost q0_rowScaleNow q0_columnScaleNow q0_basic q0_text q0_turned q0_na q0_nb q0_nc vq0_m vq0_n vq0_length vq0_where vq0_effort vq0_thrown vq0_at vq0_scaled vq0_solved vq0_second vq0_nm vq0_nn vq0_number vq0_bad vq0_mm vq0_low vq0_dd)) (Qc := cfQi D (fun r => r.1) (fun r => (w_M_factor T q0 q0_a q0_b q0_c q0_rowScale q0_columnScale q0_sa q0_sb q0_sc q0_x q0_s q0_y q0_p q0_d q0_h q0_f q0_mm q0_low q0_dd q0_r q0_big q0_dt q0_dx q0_t q0_cost q0_rowScaleNow q0_columnScaleNow q0_basic q0_text q0_turned q0_na q0_nb q0_nc vq0_m vq0_n vq0_length vq0_where vq0_effort vq0_thrown vq0_at vq0_scaled vq0_solved vq0_second vq0_nm vq0_nn vq0_number vq0_bad vq0_mm r.2.1 r.2.2)) rm) (by decide) rfl (Nat.le_of_ble_eq_true rfl) ?_
  intro p e s m args below meth c A Q H locs ls hx hb hr hlocks hml hown hts hNW hK hA hQ hP hD hS hl
  have hown : s.vm.findClass "ConeForgeModel" = some m.cls := hown
  have hl : lv_has ls 6 [(0, .ref q0)] := hl
  have L2 : ∀ (vq0_low : Nat → UInt64) (vq0_dd : Nat → UInt64) (x1 : Int32), ∀ (H : Heap) (locs : List Loc) (ls : Array Slot), va_P D CL (w_M_factor T q0 q0_a q0_b q0_c q0_rowScale q0_columnScale q0_sa q0_sb q0_sc q0_x q0_s q0_y q0_p q0_d q0_h q0_f q0_mm q0_low q0_dd q0_r q0_big q0_dt q0_dx q0_t q0_cost q0_rowScaleNow q0_columnScaleNow q0_basic q0_text q0_turned q0_na q0_nb q0_nc vq0_m vq0_n vq0_length vq0_where vq0_effort vq0_thrown vq0_at vq0_scaled vq0_solved vq0_second vq0_nm vq0_nn vq0_number vq0_bad vq0_mm vq0_low vq0_dd) H → va_D A (w_M_factor T q0 q0_a q0_b q0_c q0_rowScale q0_columnScale q0_sa q0_sb q0_sc q0_x q0_s q0_y q0_p q0_d q0_h q0_f q0_mm q0_low q0_dd q0_r q0_big q0_dt q0_dx q0_t q0_cost q0_rowScaleNow q0_columnScaleNow q0_basic q0_text q0_turned q0_na q0_nb q0_nc vq0_m vq0_n vq0_length vq0_where vq0_effort vq0_thrown vq0_at vq0_scaled vq0_solved vq0_second vq0_nm vq0_nn vq0_number vq0_bad vq0_mm vq0_low vq0_dd) → va_S A s.heap H locs → lv_has ls 6 [(0, .ref q0), (1, .int x1)] → s_M_factor_L2 vq0_m vq0_n vq0_length vq0_where vq0_effort vq0_thrown vq0_at vq0_scaled vq0_solved vq0_second vq0_nm vq0_nn vq0_number vq0_bad vq0_mm vq0_low vq0_dd x1 = some rm → W p l e (rmk 0 0) s m args below meth c H locs 0 0 Q (F0 m 2 ls []) := by
    intro vq0_low vq0_dd x1 H locs ls hP hD hS hl h
    unfold s_M_factor_L2 at h
    obtain ⟨ul2, hul2, h⟩ := bi_some h
    refine loopO_W (Wh := fun (st : (Nat → UInt64) × (Nat → UInt64) × Int32) => ∀ (H : Heap) (locs : List Loc) (ls : Array Slot), va_P D CL (w_M_factor T q0 q0_a q0_b q0_c q0_rowScale q0_columnScale q0_sa q0_sb q0_sc q0_x q0_s q0_y q0_p q0_d q0_h q0_f q0_mm q0_low q0_dd q0_r q0_big q0_dt q0_dx q0_t q0_cost q0_rowScaleNow q0_columnScaleNow q0_basic q0_text q0_turned q0_na q0_nb q0_nc vq0_m vq0_n vq0_length vq0_where vq0_effort vq0_thrown vq0_at vq0_scaled vq0_solved vq0_second vq0_nm vq0_nn vq0_number vq0_bad vq0_mm st.1 st.2.1) H → va_D A (w_M_factor T q0 q0_a q0_b q0_c q0_rowScale q0_columnScale q0_sa q0_sb q0_sc q0_x q0_s q0_y q0_p q0_d q0_h q0_f q0_mm q0_low q0_dd q0_r q0_big q0_dt q0_dx q0_t q0_cost q0_rowScaleNow q0_columnScaleNow q0_basic q0_text q0_turned q0_na q0_nb q0_nc vq0_m vq0_n vq0_length vq0_where vq0_effort vq0_thrown vq0_at vq0_scaled vq0_solved vq0_second vq0_nm vq0_nn vq0_number vq0_bad vq0_mm st.1 st.2.1) → va_S A s.heap H locs → lv_has ls 6 [(0, .ref q0), (1, .int st.2.2)] → W p l e (rmk 0 0) s m args below meth c H locs 0 0 Q (F0 m 2 ls [])) (Wx := fun (e0 : ((Nat → UInt64) × (Nat → UInt64)) ⊕ (Int32 × (Nat → UInt64) × (Nat → UInt64))) => Sum.elim (fun (e1 : (Nat → UInt64) × (Nat → UInt64)) => ∀ (H : Heap) (locs : List Loc) (ls : Array Slot), va_P D CL (w_M_factor T q0 q0_a q0_b q0_c q0_rowScale q0_columnScale q0_sa q0_sb q0_sc q0_x q0_s q0_y q0_p q0_d q0_h q0_f q0_mm q0_low q0_dd q0_r q0_big q0_dt q0_dx q0_t q0_cost q0_rowScaleNow q0_columnScaleNow q0_basic q0_text q0_turned q0_na q0_nb q0_nc vq0_m vq0_n vq0_length vq0_where vq0_effort vq0_thrown vq0_at vq0_scaled vq0_solved vq0_second vq0_nm vq0_nn vq0_number vq0_bad vq0_mm e1.1 e1.2) H → va_D A (w_M_factor T q0 q0_a q0_b q0_c q0_rowScale q0_columnScale q0_sa q0_sb q0_sc q0_x q0_s q0_y q0_p q0_d q0_h q0_f q0_mm q0_low q0_dd q0_r q0_big q0_dt q0_dx q0_t q0_cost q0_rowScaleNow q0_columnScaleNow q0_basic q0_text q0_turned q0_na q0_nb q0_nc vq0_m vq0_n vq0_length vq0_where vq0_effort vq0_thrown vq0_at vq0_scaled vq0_solved vq0_second vq0_nm vq0_nn vq0_number vq0_bad vq0_mm e1.1 e1.2) → va_S A s.heap H locs → lv_has ls 6 [] → W p l e (rmk 0 0) s m args below meth c H locs 0 0 Q (F0 m 137 ls [])) (fun e2 => e2 = rm) e0) ?_ 2000 _ ul2 hul2 ?_ H locs ls hP hD hS hl
    · intro st rb2 h kc2 kx2 H locs ls hP hD hS hl
      obtain ⟨vq0_low, vq0_dd, x1⟩ := st
      have h : s_M_factor_B2 vq0_m vq0_n vq0_length vq0_where vq0_effort vq0_thrown vq0_at vq0_scaled vq0_solved vq0_second vq0_nm vq0_nn vq0_number vq0_bad vq0_mm vq0_low vq0_dd x1 = some rb2 := h
      have L12 : ∀ (vq0_low : Nat → UInt64) (vq0_dd : Nat → UInt64) (x1 : Int32) (x2 : Int32), ∀ (H : Heap) (locs : List Loc) (ls : Array Slot), va_P D CL (w_M_factor T q0 q0_a q0_b q0_c q0_rowScale q0_columnScale q0_sa q0_sb q0_sc q0_x q0_s q0_y q0_p q0_d q0_h q0_f q0_mm q0_low q0_dd q0_r q0_big q0_dt q0_dx q0_t q0_cost q0_rowScaleNow q0_columnScaleNow q0_basic q0_text q0_turned q0_na q0_nb q0_nc vq0_m vq0_n vq0_length vq0_where vq0_effort vq0_thrown vq0_at vq0_scaled vq0_solved vq0_second vq0_nm vq0_nn vq0_number vq0_bad vq0_mm vq0_low vq0_dd) H → va_D A (w_M_factor T q0 q0_a q0_b q0_c q0_rowScale q0_columnScale q0_sa q0_sb q0_sc q0_x q0_s q0_y q0_p q0_d q0_h q0_f q0_mm q0_low q0_dd q0_r q0_big q0_dt q0_dx q0_t q0_cost q0_rowScaleNow q0_columnScaleNow q0_basic q0_text q0_turned q0_na q0_nb q0_nc vq0_m vq0_n vq0_length vq0_where vq0_effort vq0_thrown vq0_at vq0_scaled vq0_solved vq0_second vq0_nm vq0_nn vq0_number vq0_bad vq0_mm vq0_low vq0_dd) → va_S A s.heap H locs → lv_has ls 6 [(0, .ref q0), (1, .int x1), (2, .int x2)] → s_M_factor_L12 vq0_m vq0_n vq0_length vq0_where vq0_effort vq0_thrown vq0_at vq0_scaled vq0_solved vq0_second vq0_nm vq0_nn vq0_number vq0_bad vq0_mm vq0_low vq0_dd x1 x2 = some rb2 → W p l e (rmk 0 0) s m args below meth c H locs 0 0 Q (F0 m 12 ls []) := by
        intro vq0_low vq0_dd x1 x2 H locs ls hP hD hS hl h
        unfold s_M_factor_L12 at h
        obtain ⟨ul12, hul12, h⟩ := bi_some h
        refine loopO_W (Wh := fun (st : (Nat → UInt64) × (Nat → UInt64) × Int32) => ∀ (H : Heap) (locs : List Loc) (ls : Array Slot), va_P D CL (w_M_factor T q0 q0_a q0_b q0_c q0_rowScale q0_columnScale q0_sa q0_sb q0_sc q0_x q0_s q0_y q0_p q0_d q0_h q0_f q0_mm q0_low q0_dd q0_r q0_big q0_dt q0_dx q0_t q0_cost q0_rowScaleNow q0_columnScaleNow q0_basic q0_text q0_turned q0_na q0_nb q0_nc vq0_m vq0_n vq0_length vq0_where vq0_effort vq0_thrown vq0_at vq0_scaled vq0_solved vq0_second vq0_nm vq0_nn vq0_number vq0_bad vq0_mm st.1 st.2.1) H → va_D A (w_M_factor T q0 q0_a q0_b q0_c q0_rowScale q0_columnScale q0_sa q0_sb q0_sc q0_x q0_s q0_y q0_p q0_d q0_h q0_f q0_mm q0_low q0_dd q0_r q0_big q0_dt q0_dx q0_t q0_cost q0_rowScaleNow q0_columnScaleNow q0_basic q0_text q0_turned q0_na q0_nb q0_nc vq0_m vq0_n vq0_length vq0_where vq0_effort vq0_thrown vq0_at vq0_scaled vq0_solved vq0_second vq0_nm vq0_nn vq0_number vq0_bad vq0_mm st.1 st.2.1) → va_S A s.heap H locs → lv_has ls 6 [(0, .ref q0), (1, .int x1), (2, .int st.2.2)] → W p l e (rmk 0 0) s m args below meth c H locs 0 0 Q (F0 m 12 ls [])) (Wx := fun (e0 : ((Nat → UInt64) × (Nat → UInt64)) ⊕ (Int32 × (Nat → UInt64) × (Nat → UInt64))) => Sum.elim (fun (e1 : (Nat → UInt64) × (Nat → UInt64)) => ∀ (H : Heap) (locs : List Loc) (ls : Array Slot), va_P D CL (w_M_factor T q0 q0_a q0_b q0_c q0_rowScale q0_columnScale q0_sa q0_sb q0_sc q0_x q0_s q0_y q0_p q0_d q0_h q0_f q0_mm q0_low q0_dd q0_r q0_big q0_dt q0_dx q0_t q0_cost q0_rowScaleNow q0_columnScaleNow q0_basic q0_text q0_turned q0_na q0_nb q0_nc vq0_m vq0_n vq0_length vq0_where vq0_effort vq0_thrown vq0_at vq0_scaled vq0_solved vq0_second vq0_nm vq0_nn vq0_number vq0_bad vq0_mm e1.1 e1.2) H → va_D A (w_M_factor T q0 q0_a q0_b q0_c q0_rowScale q0_columnScale q0_sa q0_sb q0_sc q0_x q0_s q0_y q0_p q0_d q0_h q0_f q0_mm q0_low q0_dd q0_r q0_big q0_dt q0_dx q0_t q0_cost q0_rowScaleNow q0_columnScaleNow q0_basic q0_text q0_turned q0_na q0_nb q0_nc vq0_m vq0_n vq0_length vq0_where vq0_effort vq0_thrown vq0_at vq0_scaled vq0_solved vq0_second vq0_nm vq0_nn vq0_number vq0_bad vq0_mm e1.1 e1.2) → va_S A s.heap H locs → lv_has ls 6 [(0, .ref q0), (1, .int x1)] → W p l e (rmk 0 0) s m args below meth c H locs 0 0 Q (F0 m 131 ls [])) (fun e2 => e2 = rm) e0) ?_ 2000 _ ul12 hul12 ?_ H locs ls hP hD hS hl
        · intro st rb12 h kc12 kx12 H locs ls hP hD hS hl
          obtain ⟨vq0_low, vq0_dd, x2⟩ := st
          have h : s_M_factor_B12 vq0_m vq0_n vq0_length vq0_where vq0_effort vq0_thrown vq0_at vq0_scaled vq0_solved vq0_second vq0_nm vq0_nn vq0_number vq0_bad vq0_mm x1 vq0_low vq0_dd x2 = some rb12 := h
          have J125 : ∀ (vq0_low : Nat → UInt64) (vq0_dd : Nat → UInt64) (x2 : Int32), ∀ (H : Heap) (locs : List Loc) (ls : Array Slot), va_P D CL (w_M_factor T q0 q0_a q0_b q0_c q0_rowScale q0_columnScale q0_sa q0_sb q0_sc q0_x q0_s q0_y q0_p q0_d q0_h q0_f q0_mm q0_low q0_dd q0_r q0_big q0_dt q0_dx q0_t q0_cost q0_rowScaleNow q0_columnScaleNow q0_basic q0_text q0_turned q0_na q0_nb q0_nc vq0_m vq0_n vq0_length vq0_where vq0_effort vq0_thrown vq0_at vq0_scaled vq0_solved vq0_second vq0_nm vq0_nn vq0_number vq0_bad vq0_mm vq0_low vq0_dd) H → va_D A (w_M_factor T q0 q0_a q0_b q0_c q0_rowScale q0_columnScale q0_sa q0_sb q0_sc q0_x q0_s q0_y q0_p q0_d q0_h q0_f q0_mm q0_low q0_dd q0_r q0_big q0_dt q0_dx q0_t q0_cost q0_rowScaleNow q0_columnScaleNow q0_basic q0_text q0_turned q0_na q0_nb q0_nc vq0_m vq0_n vq0_length vq0_where vq0_effort vq0_thrown vq0_at vq0_scaled vq0_solved vq0_second vq0_nm vq0_nn vq0_number vq0_bad vq0_mm vq0_low vq0_dd) → va_S A s.heap H locs → lv_has ls 6 [(0, .ref q0), (1, .int x1), (2, .int x2)] → s_M_factor_J125 vq0_m vq0_n vq0_length vq0_where vq0_effort vq0_thrown vq0_at vq0_scaled vq0_solved vq0_second vq0_nm vq0_nn vq0_number vq0_bad vq0_mm vq0_low vq0_dd x1 x2 = some rb12 → W p l e (rmk 0 0) s m args below meth c H locs 0 0 Q (F0 m 125 ls []) := by
            intro vq0_low vq0_dd x2 H locs ls hP hD hS hl h
            unfold s_M_factor_J125 at h
            refine lv_iinc (v := x2 + 1) (lv' := [(2, .int (x2 + 1)), (0, .ref q0), (1, .int x1)]) hx hb d_M_factor_125 hl (k := 2) rfl rfl (by decide) rfl (fun ls hl => ?_)
            refine lv_goto (tgt := 12) hx hb d_M_factor_128 (by decide) ?_
            exact kc12 _ (Option.some.inj h).symm H locs ls hP hD hS (lv_sub hl [1, 2, 0] rfl)
          have J110 : ∀ (vq0_low : Nat → UInt64) (vq0_dd : Nat → UInt64) (x2 : Int32) (x3 : UInt64), ∀ (H : Heap) (locs : List Loc) (ls : Array Slot), va_P D CL (w_M_factor T q0 q0_a q0_b q0_c q0_rowScale q0_columnScale q0_sa q0_sb q0_sc q0_x q0_s q0_y q0_p q0_d q0_h q0_f q0_mm q0_low q0_dd q0_r q0_big q0_dt q0_dx q0_t q0_cost q0_rowScaleNow q0_columnScaleNow q0_basic q0_text q0_turned q0_na q0_nb q0_nc vq0_m vq0_n vq0_length vq0_where vq0_effort vq0_thrown vq0_at vq0_scaled vq0_solved vq0_second vq0_nm vq0_nn vq0_number vq0_bad vq0_mm vq0_low vq0_dd) H → va_D A (w_M_factor T q0 q0_a q0_b q0_c q0_rowScale q0_columnScale q0_sa q0_sb q0_sc q0_x q0_s q0_y q0_p q0_d q0_h q0_f q0_mm q0_low q0_dd q0_r q0_big q0_dt q0_dx q0_t q0_cost q0_rowScaleNow q0_columnScaleNow q0_basic q0_text q0_turned q0_na q0_nb q0_nc vq0_m vq0_n vq0_length vq0_where vq0_effort vq0_thrown vq0_at vq0_scaled vq0_solved vq0_second vq0_nm vq0_nn vq0_number vq0_bad vq0_mm vq0_low vq0_dd) → va_S A s.heap H locs → lv_has ls 6 [(0, .ref q0), (1, .int x1), (2, .int x2), (3, .double x3)] → s_M_factor_J110 vq0_m vq0_n vq0_length vq0_where vq0_effort vq0_thrown vq0_at vq0_scaled vq0_solved vq0_second vq0_nm vq0_nn vq0_number vq0_bad vq0_mm vq0_low vq0_dd x1 x2 x3 = some rb12 → W p l e (rmk 0 0) s m args below meth c H locs 0 0 Q (F0 m 110 ls []) := by
            intro vq0_low vq0_dd x2 x3 H locs ls hP hD hS hl h
            unfold s_M_factor_J110 at h
            refine lv_iload_n hx hb d_M_factor_110 rfl (lv_at hl 2 rfl) ?_
            refine lv_iload_n hx hb d_M_factor_111 rfl (lv_at hl 1 rfl) ?_
            refine lv_icmp_ne (tgt := 125) hx hb d_M_factor_112 (by decide) (fun c1 => ?_) (fun c1 => ?_)
            · have h := it_f c1 h
              exact J125 vq0_low vq0_dd x2 H locs ls hP hD hS (lv_sub hl [0, 1, 2] rfl) h
            · have h := it_t c1 h
              refine lv_dload_n hx hb d_M_factor_115 rfl (lv_at hl 3 rfl) ?_
              refine lv_ldc2d (v := 4412443251819771522) hx hb hown (hts _ (bgc bw873)) d_M_factor_116 ?_
              refine lv_dcmp hx hb d_M_factor_119 ?_
              refine lv_if_gt (tgt := 125) hx hb d_M_factor_120 (by decide) (fun c2 => ?_) (fun c2 => ?_)
              · have h := it_t c2 h
                exact J125 vq0_low vq0_dd x2 H locs ls hP hD hS (lv_sub hl [0, 1, 2] rfl) h
              · have h := it_f c2 h
                refine lv_iconst (v := 0) hx hb d_M_factor_123 (by decide) ?_
                obtain ⟨g3, h⟩ := gd_some h
                exact rtZ hx hb hr hlocks g3 hQ (kx12 _ (Option.some.inj h).symm) hP hS d_M_factor_124 rfl rfl
          have L31 : ∀ (vq0_low : Nat → UInt64) (vq0_dd : Nat → UInt64) (x2 : Int32) (x3 : UInt64) (x5 : Int32), ∀ (H : Heap) (locs : List Loc) (ls : Array Slot), va_P D CL (w_M_factor T q0 q0_a q0_b q0_c q0_rowScale q0_columnScale q0_sa q0_sb q0_sc q0_x q0_s q0_y q0_p q0_d q0_h q0_f q0_mm q0_low q0_dd q0_r q0_big q0_dt q0_dx q0_t q0_cost q0_rowScaleNow q0_columnScaleNow q0_basic q0_text q0_turned q0_na q0_nb q0_nc vq0_m vq0_n vq0_length vq0_where vq0_effort vq0_thrown vq0_at vq0_scaled vq0_solved vq0_second vq0_nm vq0_nn vq0_number vq0_bad vq0_mm vq0_low vq0_dd) H → va_D A (w_M_factor T q0 q0_a q0_b q0_c q0_rowScale q0_columnScale q0_sa q0_sb q0_sc q0_x q0_s q0_y q0_p q0_d q0_h q0_f q0_mm q0_low q0_dd q0_r q0_big q0_dt q0_dx q0_t q0_cost q0_rowScaleNow q0_columnScaleNow q0_basic q0_text q0_turned q0_na q0_nb q0_nc vq0_m vq0_n vq0_length vq0_where vq0_effort vq0_thrown vq0_at vq0_scaled vq0_solved vq0_second vq0_nm vq0_nn vq0_number vq0_bad vq0_mm vq0_low vq0_dd) → va_S A s.heap H locs → lv_has ls 6 [(0, .ref q0), (1, .int x1), (2, .int x2), (3, .double x3), (5, .int x5)] → s_M_factor_L31 vq0_m vq0_n vq0_length vq0_where vq0_effort vq0_thrown vq0_at vq0_scaled vq0_solved vq0_second vq0_nm vq0_nn vq0_number vq0_bad vq0_mm vq0_low vq0_dd x1 x2 x3 x5 = some rb12 → W p l e (rmk 0 0) s m args below meth c H locs 0 0 Q (F0 m 31 ls []) := by
            intro vq0_low vq0_dd x2 x3 x5 H locs ls hP hD hS hl h
            unfold s_M_factor_L31 at h
            obtain ⟨ul31, hul31, h⟩ := bi_some h
            refine loopO_W (Wh := fun (st : UInt64 × Int32) => ∀ (H : Heap) (locs : List Loc) (ls : Array Slot), va_P D CL (w_M_factor T q0 q0_a q0_b q0_c q0_rowScale q0_columnScale q0_sa q0_sb q0_sc q0_x q0_s q0_y q0_p q0_d q0_h q0_f q0_mm q0_low q0_dd q0_r q0_big q0_dt q0_dx q0_t q0_cost q0_rowScaleNow q0_columnScaleNow q0_basic q0_text q0_turned q0_na q0_nb q0_nc vq0_m vq0_n vq0_length vq0_where vq0_effort vq0_thrown vq0_at vq0_scaled vq0_solved vq0_second vq0_nm vq0_nn vq0_number vq0_bad vq0_mm vq0_low vq0_dd) H → va_D A (w_M_factor T q0 q0_a q0_b q0_c q0_rowScale q0_columnScale q0_sa q0_sb q0_sc q0_x q0_s q0_y q0_p q0_d q0_h q0_f q0_mm q0_low q0_dd q0_r q0_big q0_dt q0_dx q0_t q0_cost q0_rowScaleNow q0_columnScaleNow q0_basic q0_text q0_turned q0_na q0_nb q0_nc vq0_m vq0_n vq0_length vq0_where vq0_effort vq0_thrown vq0_at vq0_scaled vq0_solved vq0_second vq0_nm vq0_nn vq0_number vq0_bad vq0_mm vq0_low vq0_dd) → va_S A s.heap H locs → lv_has ls 6 [(0, .ref q0), (1, .int x1), (2, .int x2), (3, .double st.1), (5, .int st.2)] → W p l e (rmk 0 0) s m args below meth c H locs 0 0 Q (F0 m 31 ls [])) (Wx := fun (e1 : UInt64) => ∀ (H : Heap) (locs : List Loc) (ls : Array Slot), va_P D CL (w_M_factor T q0 q0_a q0_b q0_c q0_rowScale q0_columnScale q0_sa q0_sb q0_sc q0_x q0_s q0_y q0_p q0_d q0_h q0_f q0_mm q0_low q0_dd q0_r q0_big q0_dt q0_dx q0_t q0_cost q0_rowScaleNow q0_columnScaleNow q0_basic q0_text q0_turned q0_na q0_nb q0_nc vq0_m vq0_n vq0_length vq0_where vq0_effort vq0_thrown vq0_at vq0_scaled vq0_solved vq0_second vq0_nm vq0_nn vq0_number vq0_bad vq0_mm vq0_low vq0_dd) H → va_D A (w_M_factor T q0 q0_a q0_b q0_c q0_rowScale q0_columnScale q0_sa q0_sb q0_sc q0_x q0_s q0_y q0_p q0_d q0_h q0_f q0_mm q0_low q0_dd q0_r q0_big q0_dt q0_dx q0_t q0_cost q0_rowScaleNow q0_columnScaleNow q0_basic q0_text q0_turned q0_na q0_nb q0_nc vq0_m vq0_n vq0_length vq0_where vq0_effort vq0_thrown vq0_at vq0_scaled vq0_solved vq0_second vq0_nm vq0_nn vq0_number vq0_bad vq0_mm vq0_low vq0_dd) → va_S A s.heap H locs → lv_has ls 6 [(0, .ref q0), (1, .int x1), (2, .int x2), (3, .double e1)] → W p l e (rmk 0 0) s m args below meth c H locs 0 0 Q (F0 m 77 ls [])) ?_ 2000 _ ul31 hul31 ?_ H locs ls hP hD hS hl
            · intro st rb31 h kc31 kx31 H locs ls hP hD hS hl
              obtain ⟨x3, x5⟩ := st
              have h : s_M_factor_B31 vq0_m vq0_n vq0_length vq0_where vq0_effort vq0_thrown vq0_at vq0_scaled vq0_solved vq0_second vq0_nm vq0_nn vq0_number vq0_bad vq0_mm vq0_low vq0_dd x1 x2 x3 x5 = some rb31 := h
              unfold s_M_factor_B31 at h
              refine lv_iload hx hb d_M_factor_31 (lv_at hl 4 rfl) ?_
              refine lv_iload_n hx hb d_M_factor_33 rfl (lv_at hl 2 rfl) ?_
              refine lv_icmp_ge (tgt := 77) hx hb d_M_factor_34 (by decide) (fun c4 => ?_) (fun c4 => ?_)
              · have h := it_t c4 h
                exact kx31 _ (Option.some.inj h).symm H locs ls hP hD hS (lv_sub hl [0, 1, 2, 3] rfl)
              · have h := it_f c4 h
                refine lv_dload_n hx hb d_M_factor_37 rfl (lv_at hl 3 rfl) ?_
                refine lv_aload_n hx hb d_M_factor_38 rfl (lv_at hl 0 rfl) ?_
                refine va_get (D := D) (ci := 8) (v := .ref q0_low) (C := "ConeForgeModel") (T := FM) (N := 46) hx hb hts iM hown hK hP 0 rfl rfl 16 (by decide) (hts _ (bgc bw700)) (fun _ h9 => h9) rfl d_M_factor_39 ?_
                refine lv_iconst (v := 5) hx hb d_M_factor_42 (by decide) ?_
                refine lv_iload_n hx hb d_M_factor_43 rfl (lv_at hl 1 rfl) ?_
                refine lv_imul hx hb d_M_factor_44 ?_
                refine lv_iload hx hb d_M_factor_45 (lv_at hl 4 rfl) ?_
                refine lv_iadd hx hb d_M_factor_47 ?_
                obtain ⟨g5, h⟩ := gd_some h
                refine va_dald hx hb hK hP 2 0 rfl rfl (inb_in g5) d_M_factor_48 ?_
                refine lv_aload_n hx hb d_M_factor_49 rfl (lv_at hl 0 rfl) ?_
                refine va_get (D := D) (ci := 8) (v := .ref q0_dd) (C := "ConeForgeModel") (T := FM) (N := 46) hx hb hts iM hown hK hP 0 rfl rfl 17 (by decide) (hts _ (bgc bw701)) (fun _ h9 => h9) rfl d_M_factor_50 ?_
                refine lv_iload hx hb d_M_factor_53 (lv_at hl 4 rfl) ?_
                obtain ⟨g6, h⟩ := gd_some h
                refine va_dald hx hb hK hP 3 0 rfl rfl (inb_in g6) d_M_factor_55 ?_
                obtain ⟨g7, h⟩ := gd_some h
                refine lv_dmul hx hb d_M_factor_56 (isn_n g7) ?_
                refine lv_aload_n hx hb d_M_factor_57 rfl (lv_at hl 0 rfl) ?_
                refine va_get (D := D) (ci := 8) (v := .ref q0_low) (C := "ConeForgeModel") (T := FM) (N := 46) hx hb hts iM hown hK hP 0 rfl rfl 16 (by decide) (hts _ (bgc bw700)) (fun _ h9 => h9) rfl d_M_factor_58 ?_
                refine lv_iconst (v := 5) hx hb d_M_factor_61 (by decide) ?_
                refine lv_iload_n hx hb d_M_factor_62 rfl (lv_at hl 2 rfl) ?_
                refine lv_imul hx hb d_M_factor_63 ?_
                refine lv_iload hx hb d_M_factor_64 (lv_at hl 4 rfl) ?_
                refine lv_iadd hx hb d_M_factor_66 ?_
                obtain ⟨g8, h⟩ := gd_some h
                refine va_dald hx hb hK hP 2 0 rfl rfl (inb_in g8) d_M_factor_67 ?_
                obtain ⟨g9, h⟩ := gd_some h
                refine lv_dmul hx hb d_M_factor_68 (isn_n g9) ?_
                obtain ⟨g10, h⟩ := gd_some h
                refine lv_dsub hx hb d_M_factor_69 (isn_n g10) ?_
                refine lv_dstore_n (lv' := [(3, .double (FP.dsub x3 (FP.dmul (FP.dmul (vq0_low ((5 * x1) + x5).toNatClampNeg) (vq0_dd x5.toNatClampNeg)) (vq0_low ((5 * x2) + x5).toNatClampNeg)))), (0, .ref q0), (1, .int x1), (2, .int x2), (5, .int x5)]) hx hb d_M_factor_70 rfl hl (by decide) rfl (fun ls hl => ?_)
                refine lv_iinc (v := x5 + 1) (lv' := [(5, .int (x5 + 1)), (3, .double (FP.dsub x3 (FP.dmul (FP.dmul (vq0_low ((5 * x1) + x5).toNatClampNeg) (vq0_dd x5.toNatClampNeg)) (vq0_low ((5 * x2) + x5).toNatClampNeg)))), (0, .ref q0), (1, .int x1), (2, .int x2)]) hx hb d_M_factor_71 hl (k := 4) rfl rfl (by decide) rfl (fun ls hl => ?_)
                refine lv_goto (tgt := 31) hx hb d_M_factor_74 (by decide) ?_
                exact kc31 _ (Option.some.inj h).symm H locs ls hP hD hS (lv_sub hl [2, 3, 4, 1, 0] rfl)
            · intro H locs ls hP hD hS hl
              refine lv_iload_n hx hb d_M_factor_77 rfl (lv_at hl 2 rfl) ?_
              refine lv_iload_n hx hb d_M_factor_78 rfl (lv_at hl 1 rfl) ?_
              refine lv_icmp_ge (tgt := 103) hx hb d_M_factor_79 (by decide) (fun c11 => ?_) (fun c11 => ?_)
              · have h := it_t c11 h
                refine lv_aload_n hx hb d_M_factor_103 rfl (lv_at hl 0 rfl) ?_
                refine va_get (D := D) (ci := 8) (v := .ref q0_dd) (C := "ConeForgeModel") (T := FM) (N := 46) hx hb hts iM hown hK hP 0 rfl rfl 17 (by decide) (hts _ (bgc bw701)) (fun _ h9 => h9) rfl d_M_factor_104 ?_
                refine lv_iload_n hx hb d_M_factor_107 rfl (lv_at hl 1 rfl) ?_
                refine lv_dload_n hx hb d_M_factor_108 rfl (lv_at hl 3 rfl) ?_
                obtain ⟨g12, h⟩ := gd_some h
                refine va_dast hx hb hK hP hD hS 3 0 rfl rfl (inb_in g12) d_M_factor_109 (fun H locs hP hD hS => ?_)
                have hP : va_P D CL (w_M_factor T q0 q0_a q0_b q0_c q0_rowScale q0_columnScale q0_sa q0_sb q0_sc q0_x q0_s q0_y q0_p q0_d q0_h q0_f q0_mm q0_low q0_dd q0_r q0_big q0_dt q0_dx q0_t q0_cost q0_rowScaleNow q0_columnScaleNow q0_basic q0_text q0_turned q0_na q0_nb q0_nc vq0_m vq0_n vq0_length vq0_where vq0_effort vq0_thrown vq0_at vq0_scaled vq0_solved vq0_second vq0_nm vq0_nn vq0_number vq0_bad vq0_mm vq0_low (vf_upd vq0_dd x1.toNatClampNeg ul31)) H := hP
                have hD : va_D A (w_M_factor T q0 q0_a q0_b q0_c q0_rowScale q0_columnScale q0_sa q0_sb q0_sc q0_x q0_s q0_y q0_p q0_d q0_h q0_f q0_mm q0_low q0_dd q0_r q0_big q0_dt q0_dx q0_t q0_cost q0_rowScaleNow q0_columnScaleNow q0_basic q0_text q0_turned q0_na q0_nb q0_nc vq0_m vq0_n vq0_length vq0_where vq0_effort vq0_thrown vq0_at vq0_scaled vq0_solved vq0_second vq0_nm vq0_nn vq0_number vq0_bad vq0_mm vq0_low (vf_upd vq0_dd x1.toNatClampNeg ul31)) := hD
                exact J110 vq0_low (vf_upd vq0_dd x1.toNatClampNeg ul31) x2 ul31 H locs ls hP hD hS (lv_sub hl [0, 1, 2, 3] rfl) h
              · have h := it_f c11 h
                refine lv_aload_n hx hb d_M_factor_82 rfl (lv_at hl 0 rfl) ?_
                refine va_get (D := D) (ci := 8) (v := .ref q0_low) (C := "ConeForgeModel") (T := FM) (N := 46) hx hb hts iM hown hK hP 0 rfl rfl 16 (by decide) (hts _ (bgc bw700)) (fun _ h9 => h9) rfl d_M_factor_83 ?_
                refine lv_iconst (v := 5) hx hb d_M_factor_86 (by decide) ?_
                refine lv_iload_n hx hb d_M_factor_87 rfl (lv_at hl 1 rfl) ?_
                refine lv_imul hx hb d_M_factor_88 ?_
                refine lv_iload_n hx hb d_M_factor_89 rfl (lv_at hl 2 rfl) ?_
                refine lv_iadd hx hb d_M_factor_90 ?_
                refine lv_dload_n hx hb d_M_factor_91 rfl (lv_at hl 3 rfl) ?_
                refine lv_aload_n hx hb d_M_factor_92 rfl (lv_at hl 0 rfl) ?_
                refine va_get (D := D) (ci := 8) (v := .ref q0_dd) (C := "ConeForgeModel") (T := FM) (N := 46) hx hb hts iM hown hK hP 0 rfl rfl 17 (by decide) (hts _ (bgc bw701)) (fun _ h9 => h9) rfl d_M_factor_93 ?_
                refine lv_iload_n hx hb d_M_factor_96 rfl (lv_at hl 2 rfl) ?_
                obtain ⟨g13, h⟩ := gd_some h
                refine va_dald hx hb hK hP 3 0 rfl rfl (inb_in g13) d_M_factor_97 ?_
                obtain ⟨g14, h⟩ := gd_some h
                refine lv_ddiv hx hb d_M_factor_98 (isn_n g14) ?_
                obtain ⟨g15, h⟩ := gd_some h
                refine va_dast hx hb hK hP hD hS 2 0 rfl rfl (inb_in g15) d_M_factor_99 (fun H locs hP hD hS => ?_)
                have hP : va_P D CL (w_M_factor T q0 q0_a q0_b q0_c q0_rowScale q0_columnScale q0_sa q0_sb q0_sc q0_x q0_s q0_y q0_p q0_d q0_h q0_f q0_mm q0_low q0_dd q0_r q0_big q0_dt q0_dx q0_t q0_cost q0_rowScaleNow q0_columnScaleNow q0_basic q0_text q0_turned q0_na q0_nb q0_nc vq0_m vq0_n vq0_length vq0_where vq0_effort vq0_thrown vq0_at vq0_scaled vq0_solved vq0_second vq0_nm vq0_nn vq0_number vq0_bad vq0_mm (vf_upd vq0_low ((5 * x1) + x2).toNatClampNeg (FP.ddiv ul31 (vq0_dd x2.toNatClampNeg))) vq0_dd) H := hP
                have hD : va_D A (w_M_factor T q0 q0_a q0_b q0_c q0_rowScale q0_columnScale q0_sa q0_sb q0_sc q0_x q0_s q0_y q0_p q0_d q0_h q0_f q0_mm q0_low q0_dd q0_r q0_big q0_dt q0_dx q0_t q0_cost q0_rowScaleNow q0_columnScaleNow q0_basic q0_text q0_turned q0_na q0_nb q0_nc vq0_m vq0_n vq0_length vq0_where vq0_effort vq0_thrown vq0_at vq0_scaled vq0_solved vq0_second vq0_nm vq0_nn vq0_number vq0_bad vq0_mm (vf_upd vq0_low ((5 * x1) + x2).toNatClampNeg (FP.ddiv ul31 (vq0_dd x2.toNatClampNeg))) vq0_dd) := hD
                refine lv_goto (tgt := 110) hx hb d_M_factor_100 (by decide) ?_
                exact J110 (vf_upd vq0_low ((5 * x1) + x2).toNatClampNeg (FP.ddiv ul31 (vq0_dd x2.toNatClampNeg))) vq0_dd x2 ul31 H locs ls hP hD hS (lv_sub hl [0, 1, 2, 3] rfl) h
          unfold s_M_factor_B12 at h
          refine lv_iload_n hx hb d_M_factor_12 rfl (lv_at hl 2 rfl) ?_
          refine lv_iload_n hx hb d_M_factor_13 rfl (lv_at hl 1 rfl) ?_
          refine lv_icmp_gt (tgt := 131) hx hb d_M_factor_14 (by decide) (fun c16 => ?_) (fun c16 => ?_)
          · have h := it_t c16 h
            exact kx12 _ (Option.some.inj h).symm H locs ls hP hD hS (lv_sub hl [0, 1] rfl)
          · have h := it_f c16 h
            refine lv_aload_n hx hb d_M_factor_17 rfl (lv_at hl 0 rfl) ?_
            refine va_get (D := D) (ci := 8) (v := .ref q0_mm) (C := "ConeForgeModel") (T := FM) (N := 46) hx hb hts iM hown hK hP 0 rfl rfl 15 (by decide) (hts _ (bgc bw699)) (fun _ h9 => h9) rfl d_M_factor_18 ?_
            refine lv_iconst (v := 5) hx hb d_M_factor_21 (by decide) ?_
            refine lv_iload_n hx hb d_M_factor_22 rfl (lv_at hl 1 rfl) ?_
            refine lv_imul hx hb d_M_factor_23 ?_
            refine lv_iload_n hx hb d_M_factor_24 rfl (lv_at hl 2 rfl) ?_
            refine lv_iadd hx hb d_M_factor_25 ?_
            obtain ⟨g17, h⟩ := gd_some h
            refine va_dald hx hb hK hP 1 0 rfl rfl (inb_in g17) d_M_factor_26 ?_
            refine lv_dstore_n (lv' := [(3, .double (vq0_mm ((5 * x1) + x2).toNatClampNeg)), (0, .ref q0), (1, .int x1), (2, .int x2)]) hx hb d_M_factor_27 rfl hl (by decide) rfl (fun ls hl => ?_)
            refine lv_iconst (v := 0) hx hb d_M_factor_28 (by decide) ?_
            refine lv_istore (lv' := [(5, .int 0), (3, .double (vq0_mm ((5 * x1) + x2).toNatClampNeg)), (0, .ref q0), (1, .int x1), (2, .int x2)]) hx hb d_M_factor_29 hl (by decide) rfl (fun ls hl => ?_)
            exact L31 vq0_low vq0_dd x2 (vq0_mm ((5 * x1) + x2).toNatClampNeg) 0 H locs ls hP hD hS (lv_sub hl [2, 3, 4, 1, 0] rfl) h
        · cases ul12 with
          | inl wl12 =>
            intro H locs ls hP hD hS hl
            refine lv_iinc (v := x1 + 1) (lv' := [(1, .int (x1 + 1)), (0, .ref q0)]) hx hb d_M_factor_131 hl (k := 1) rfl rfl (by decide) rfl (fun ls hl => ?_)
            refine lv_goto (tgt := 2) hx hb d_M_factor_134 (by decide) ?_
            exact kc2 _ (Option.some.inj h).symm H locs ls hP hD hS (lv_sub hl [1, 0] rfl)
          | inr wl12 => exact kx2 _ (Option.some.inj h).symm
      unfold s_M_factor_B2 at h
      refine lv_iload_n hx hb d_M_factor_2 rfl (lv_at hl 1 rfl) ?_
      refine lv_aload_n hx hb d_M_factor_3 rfl (lv_at hl 0 rfl) ?_
      refine va_get (D := D) (ci := 8) (v := .int vq0_m) (C := "ConeForgeModel") (T := FM) (N := 46) hx hb hts iM hown hK hP 0 rfl rfl 29 (by decide) (hts _ (bgc bw713)) (fun _ h9 => h9) rfl d_M_factor_4 ?_
      refine lv_icmp_ge (tgt := 137) hx hb d_M_factor_7 (by decide) (fun c18 => ?_) (fun c18 => ?_)
      · have h := it_t c18 h
        exact kx2 _ (Option.some.inj h).symm H locs ls hP hD hS (lv_sub hl [] rfl)
      · have h := it_f c18 h
        refine lv_iconst (v := 0) hx hb d_M_factor_10 (by decide) ?_
        refine lv_istore_n (lv' := [(2, .int 0), (0, .ref q0), (1, .int x1)]) hx hb d_M_factor_11 rfl hl (by decide) rfl (fun ls hl => ?_)
        exact L12 vq0_low vq0_dd x1 0 H locs ls hP hD hS (lv_sub hl [1, 2, 0] rfl) h
    · cases ul2 with
      | inl wl2 =>
        intro H locs ls hP hD hS hl
        refine lv_iconst (v := 1) hx hb d_M_factor_137 (by decide) ?_
        obtain ⟨g19, h⟩ := gd_some h
        exact rtZ hx hb hr hlocks g19 hQ (Option.some.inj h) hP hS d_M_factor_138 rfl rfl
      | inr wl2 => exact Option.some.inj h
  unfold s_M_factor at h
  refine lv_iconst (v := 0) hx hb d_M_factor_0 (by decide) ?_
  refine lv_istore_n (lv' := [(1, .int 0), (0, .ref q0)]) hx hb d_M_factor_1 rfl hl (by decide) rfl (fun ls hl => ?_)
  exact L2 vq0_low vq0_dd 0 H locs ls hP hD hS (lv_sub hl [1, 0] rfl) h
theorem d_M_solve_0 : decode prog_10_method_26_code 0 = .ok (.iconst 0, 1) := by decide +kernel
theorem d_M_solve_1 : decode prog_10_method_26_code 1 = .ok (.istore_n 1, 1) := by decide +kernel
theorem d_M_solve_2 : decode prog_10_method_26_code 2 = .ok (.iload_n 1, 1) := by decide +kernel
theorem d_M_solve_3 : decode prog_10_method_26_code 3 = .ok (.aload_n 0, 1) := by decide +kernel
theorem d_M_solve_4 : decode prog_10_method_26_code 4 = .ok (.getfield 99, 3) := by decide +kernel
theorem d_M_solve_7 : decode prog_10_method_26_code 7 = .ok (.if_icmp .ge 64, 3) := by decide +kernel
theorem d_M_solve_10 : decode prog_10_method_26_code 10 = .ok (.aload_n 0, 1) := by decide +kernel
theorem d_M_solve_11 : decode prog_10_method_26_code 11 = .ok (.getfield 67, 3) := by decide +kernel
theorem d_M_solve_14 : decode prog_10_method_26_code 14 = .ok (.iload_n 1, 1) := by decide +kernel
theorem d_M_solve_15 : decode prog_10_method_26_code 15 = .ok (.aload_n 0, 1) := by decide +kernel
theorem d_M_solve_16 : decode prog_10_method_26_code 16 = .ok (.getfield 64, 3) := by decide +kernel
theorem d_M_solve_19 : decode prog_10_method_26_code 19 = .ok (.iload_n 1, 1) := by decide +kernel
theorem d_M_solve_20 : decode prog_10_method_26_code 20 = .ok (.daload, 1) := by decide +kernel
theorem d_M_solve_21 : decode prog_10_method_26_code 21 = .ok (.dastore, 1) := by decide +kernel
theorem d_M_solve_22 : decode prog_10_method_26_code 22 = .ok (.iconst 0, 1) := by decide +kernel
theorem d_M_solve_23 : decode prog_10_method_26_code 23 = .ok (.istore_n 2, 1) := by decide +kernel
theorem d_M_solve_24 : decode prog_10_method_26_code 24 = .ok (.iload_n 2, 1) := by decide +kernel
theorem d_M_solve_25 : decode prog_10_method_26_code 25 = .ok (.iload_n 1, 1) := by decide +kernel
theorem d_M_solve_26 : decode prog_10_method_26_code 26 = .ok (.if_icmp .ge 39, 3) := by decide +kernel
theorem d_M_solve_29 : decode prog_10_method_26_code 29 = .ok (.aload_n 0, 1) := by decide +kernel
theorem d_M_solve_30 : decode prog_10_method_26_code 30 = .ok (.getfield 67, 3) := by decide +kernel
theorem d_M_solve_33 : decode prog_10_method_26_code 33 = .ok (.iload_n 1, 1) := by decide +kernel
theorem d_M_solve_34 : decode prog_10_method_26_code 34 = .ok (.aload_n 0, 1) := by decide +kernel
theorem d_M_solve_35 : decode prog_10_method_26_code 35 = .ok (.getfield 67, 3) := by decide +kernel
theorem d_M_solve_38 : decode prog_10_method_26_code 38 = .ok (.iload_n 1, 1) := by decide +kernel
theorem d_M_solve_39 : decode prog_10_method_26_code 39 = .ok (.daload, 1) := by decide +kernel
theorem d_M_solve_40 : decode prog_10_method_26_code 40 = .ok (.aload_n 0, 1) := by decide +kernel
theorem d_M_solve_41 : decode prog_10_method_26_code 41 = .ok (.getfield 58, 3) := by decide +kernel
theorem d_M_solve_44 : decode prog_10_method_26_code 44 = .ok (.iconst 5, 1) := by decide +kernel
theorem d_M_solve_45 : decode prog_10_method_26_code 45 = .ok (.iload_n 1, 1) := by decide +kernel
theorem d_M_solve_46 : decode prog_10_method_26_code 46 = .ok (.imul, 1) := by decide +kernel
theorem d_M_solve_47 : decode prog_10_method_26_code 47 = .ok (.iload_n 2, 1) := by decide +kernel
theorem d_M_solve_48 : decode prog_10_method_26_code 48 = .ok (.iadd, 1) := by decide +kernel
theorem d_M_solve_49 : decode prog_10_method_26_code 49 = .ok (.daload, 1) := by decide +kernel
theorem d_M_solve_50 : decode prog_10_method_26_code 50 = .ok (.aload_n 0, 1) := by decide +kernel
theorem d_M_solve_51 : decode prog_10_method_26_code 51 = .ok (.getfield 67, 3) := by decide +kernel
theorem d_M_solve_54 : decode prog_10_method_26_code 54 = .ok (.iload_n 2, 1) := by decide +kernel
theorem d_M_solve_55 : decode prog_10_method_26_code 55 = .ok (.daload, 1) := by decide +kernel
theorem d_M_solve_56 : decode prog_10_method_26_code 56 = .ok (.dmul, 1) := by decide +kernel
theorem d_M_solve_57 : decode prog_10_method_26_code 57 = .ok (.dsub, 1) := by decide +kernel
theorem d_M_solve_58 : decode prog_10_method_26_code 58 = .ok (.dastore, 1) := by decide +kernel
theorem d_M_solve_59 : decode prog_10_method_26_code 59 = .ok (.iinc 2 1, 3) := by decide +kernel
theorem d_M_solve_62 : decode prog_10_method_26_code 62 = .ok (.goto (-38), 3) := by decide +kernel
theorem d_M_solve_65 : decode prog_10_method_26_code 65 = .ok (.iinc 1 1, 3) := by decide +kernel
theorem d_M_solve_68 : decode prog_10_method_26_code 68 = .ok (.goto (-66), 3) := by decide +kernel
theorem d_M_solve_71 : decode prog_10_method_26_code 71 = .ok (.iconst 0, 1) := by decide +kernel
theorem d_M_solve_72 : decode prog_10_method_26_code 72 = .ok (.istore_n 1, 1) := by decide +kernel
theorem d_M_solve_73 : decode prog_10_method_26_code 73 = .ok (.iload_n 1, 1) := by decide +kernel
theorem d_M_solve_74 : decode prog_10_method_26_code 74 = .ok (.aload_n 0, 1) := by decide +kernel
theorem d_M_solve_75 : decode prog_10_method_26_code 75 = .ok (.getfield 99, 3) := by decide +kernel
theorem d_M_solve_78 : decode prog_10_method_26_code 78 = .ok (.if_icmp .ge 28, 3) := by decide +kernel
theorem d_M_solve_81 : decode prog_10_method_26_code 81 = .ok (.aload_n 0, 1) := by decide +kernel
theorem d_M_solve_82 : decode prog_10_method_26_code 82 = .ok (.getfield 67, 3) := by decide +kernel
theorem d_M_solve_85 : decode prog_10_method_26_code 85 = .ok (.iload_n 1, 1) := by decide +kernel
theorem d_M_solve_86 : decode prog_10_method_26_code 86 = .ok (.aload_n 0, 1) := by decide +kernel
theorem d_M_solve_87 : decode prog_10_method_26_code 87 = .ok (.getfield 67, 3) := by decide +kernel
theorem d_M_solve_90 : decode prog_10_method_26_code 90 = .ok (.iload_n 1, 1) := by decide +kernel
theorem d_M_solve_91 : decode prog_10_method_26_code 91 = .ok (.daload, 1) := by decide +kernel
theorem d_M_solve_92 : decode prog_10_method_26_code 92 = .ok (.aload_n 0, 1) := by decide +kernel
theorem d_M_solve_93 : decode prog_10_method_26_code 93 = .ok (.getfield 61, 3) := by decide +kernel
theorem d_M_solve_96 : decode prog_10_method_26_code 96 = .ok (.iload_n 1, 1) := by decide +kernel
theorem d_M_solve_97 : decode prog_10_method_26_code 97 = .ok (.daload, 1) := by decide +kernel
theorem d_M_solve_98 : decode prog_10_method_26_code 98 = .ok (.ddiv, 1) := by decide +kernel
theorem d_M_solve_99 : decode prog_10_method_26_code 99 = .ok (.dastore, 1) := by decide +kernel
theorem d_M_solve_100 : decode prog_10_method_26_code 100 = .ok (.iinc 1 1, 3) := by decide +kernel
theorem d_M_solve_103 : decode prog_10_method_26_code 103 = .ok (.goto (-30), 3) := by decide +kernel
theorem d_M_solve_106 : decode prog_10_method_26_code 106 = .ok (.aload_n 0, 1) := by decide +kernel
theorem d_M_solve_107 : decode prog_10_method_26_code 107 = .ok (.getfield 99, 3) := by decide +kernel
theorem d_M_solve_110 : decode prog_10_method_26_code 110 = .ok (.iconst 1, 1) := by decide +kernel
theorem d_M_solve_111 : decode prog_10_method_26_code 111 = .ok (.isub, 1) := by decide +kernel
theorem d_M_solve_112 : decode prog_10_method_26_code 112 = .ok (.istore_n 1, 1) := by decide +kernel
theorem d_M_solve_113 : decode prog_10_method_26_code 113 = .ok (.iload_n 1, 1) := by decide +kernel
theorem d_M_solve_114 : decode prog_10_method_26_code 114 = .ok (.ifCond .lt 57, 3) := by decide +kernel
theorem d_M_solve_117 : decode prog_10_method_26_code 117 = .ok (.iload_n 1, 1) := by decide +kernel
theorem d_M_solve_118 : decode prog_10_method_26_code 118 = .ok (.iconst 1, 1) := by decide +kernel
theorem d_M_solve_119 : decode prog_10_method_26_code 119 = .ok (.iadd, 1) := by decide +kernel
theorem d_M_solve_120 : decode prog_10_method_26_code 120 = .ok (.istore_n 2, 1) := by decide +kernel
theorem d_M_solve_121 : decode prog_10_method_26_code 121 = .ok (.iload_n 2, 1) := by decide +kernel
theorem d_M_solve_122 : decode prog_10_method_26_code 122 = .ok (.aload_n 0, 1) := by decide +kernel
theorem d_M_solve_123 : decode prog_10_method_26_code 123 = .ok (.getfield 99, 3) := by decide +kernel
theorem d_M_solve_126 : decode prog_10_method_26_code 126 = .ok (.if_icmp .ge 39, 3) := by decide +kernel
theorem d_M_solve_129 : decode prog_10_method_26_code 129 = .ok (.aload_n 0, 1) := by decide +kernel
theorem d_M_solve_130 : decode prog_10_method_26_code 130 = .ok (.getfield 67, 3) := by decide +kernel
theorem d_M_solve_133 : decode prog_10_method_26_code 133 = .ok (.iload_n 1, 1) := by decide +kernel
theorem d_M_solve_134 : decode prog_10_method_26_code 134 = .ok (.aload_n 0, 1) := by decide +kernel
theorem d_M_solve_135 : decode prog_10_method_26_code 135 = .ok (.getfield 67, 3) := by decide +kernel
theorem d_M_solve_138 : decode prog_10_method_26_code 138 = .ok (.iload_n 1, 1) := by decide +kernel
theorem d_M_solve_139 : decode prog_10_method_26_code 139 = .ok (.daload, 1) := by decide +kernel
theorem d_M_solve_140 : decode prog_10_method_26_code 140 = .ok (.aload_n 0, 1) := by decide +kernel
theorem d_M_solve_141 : decode prog_10_method_26_code 141 = .ok (.getfield 58, 3) := by decide +kernel
theorem d_M_solve_144 : decode prog_10_method_26_code 144 = .ok (.iconst 5, 1) := by decide +kernel
theorem d_M_solve_145 : decode prog_10_method_26_code 145 = .ok (.iload_n 2, 1) := by decide +kernel
theorem d_M_solve_146 : decode prog_10_method_26_code 146 = .ok (.imul, 1) := by decide +kernel
theorem d_M_solve_147 : decode prog_10_method_26_code 147 = .ok (.iload_n 1, 1) := by decide +kernel
theorem d_M_solve_148 : decode prog_10_method_26_code 148 = .ok (.iadd, 1) := by decide +kernel
theorem d_M_solve_149 : decode prog_10_method_26_code 149 = .ok (.daload, 1) := by decide +kernel
theorem d_M_solve_150 : decode prog_10_method_26_code 150 = .ok (.aload_n 0, 1) := by decide +kernel
theorem d_M_solve_151 : decode prog_10_method_26_code 151 = .ok (.getfield 67, 3) := by decide +kernel
theorem d_M_solve_154 : decode prog_10_method_26_code 154 = .ok (.iload_n 2, 1) := by decide +kernel
theorem d_M_solve_155 : decode prog_10_method_26_code 155 = .ok (.daload, 1) := by decide +kernel
theorem d_M_solve_156 : decode prog_10_method_26_code 156 = .ok (.dmul, 1) := by decide +kernel
theorem d_M_solve_157 : decode prog_10_method_26_code 157 = .ok (.dsub, 1) := by decide +kernel
theorem d_M_solve_158 : decode prog_10_method_26_code 158 = .ok (.dastore, 1) := by decide +kernel
theorem d_M_solve_159 : decode prog_10_method_26_code 159 = .ok (.iinc 2 1, 3) := by decide +kernel
theorem d_M_solve_162 : decode prog_10_method_26_code 162 = .ok (.goto (-41), 3) := by decide +kernel
theorem d_M_solve_165 : decode prog_10_method_26_code 165 = .ok (.iinc 1 (-1), 3) := by decide +kernel
theorem d_M_solve_168 : decode prog_10_method_26_code 168 = .ok (.goto (-55), 3) := by decide +kernel
theorem d_M_solve_171 : decode prog_10_method_26_code 171 = .ok (.return_, 1) := by decide +kernel
abbrev w_M_solve (T : Nat → ClassId) (q0 : Nat) (q0_a : Nat) (q0_b : Nat) (q0_c : Nat) (q0_rowScale : Nat) (q0_columnScale : Nat) (q0_sa : Nat) (q0_sb : Nat) (q0_sc : Nat) (q0_x : Nat) (q0_s : Nat) (q0_y : Nat) (q0_p : Nat) (q0_d : Nat) (q0_h : Nat) (q0_f : Nat) (q0_mm : Nat) (q0_low : Nat) (q0_dd : Nat) (q0_r : Nat) (q0_big : Nat) (q0_dt : Nat) (q0_dx : Nat) (q0_t : Nat) (q0_cost : Nat) (q0_rowScaleNow : Nat) (q0_columnScaleNow : Nat) (q0_basic : Nat) (q0_text : Nat) (q0_turned : Nat) (q0_na : Nat) (q0_nb : Nat) (q0_nc : Nat) (vq0_m : Int32) (vq0_n : Int32) (vq0_length : Int32) (vq0_where : Int32) (vq0_effort : Int32) (vq0_thrown : Int32) (vq0_at : Int32) (vq0_scaled : Int32) (vq0_solved : Int32) (vq0_second : Int32) (vq0_nm : Int32) (vq0_nn : Int32) (vq0_number : UInt64) (vq0_bad : Int32) (vq0_low : Nat → UInt64) (vq0_dd : Nat → UInt64) (vq0_r : Nat → UInt64) (vq0_big : Nat → UInt64) : va_W := [(q0, .inr (8, [.ref q0_a, .ref q0_b, .ref q0_c, .ref q0_rowScale, .ref q0_columnScale, .ref q0_sa, .ref q0_sb, .ref q0_sc, .ref q0_x, .ref q0_s, .ref q0_y, .ref q0_p, .ref q0_d, .ref q0_h, .ref q0_f, .ref q0_mm, .ref q0_low, .ref q0_dd, .ref q0_r, .ref q0_big, .ref q0_dt, .ref q0_dx, .ref q0_t, .ref q0_cost, .ref q0_rowScaleNow, .ref q0_columnScaleNow, .ref q0_basic, .ref q0_text, .ref q0_turned, .int vq0_m, .int vq0_n, .int vq0_length, .int vq0_where, .int vq0_effort, .int vq0_thrown, .int vq0_at, .int vq0_scaled, .int vq0_solved, .int vq0_second, .ref q0_na, .ref q0_nb, .ref q0_nc, .int vq0_nm, .int vq0_nn, .double vq0_number, .int vq0_bad])), (q0_low, .inl (T 0, 25, .inr (.inr (.inr (.inl vq0_low))))), (q0_dd, .inl (T 0, 5, .inr (.inr (.inr (.inl vq0_dd))))), (q0_r, .inl (T 0, 5, .inr (.inr (.inr (.inl vq0_r))))), (q0_big, .inl (T 0, 5, .inr (.inr (.inr (.inl vq0_big)))))]
def s_M_solve_B121 (vq0_m : Int32) (vq0_n : Int32) (vq0_length : Int32) (vq0_where : Int32) (vq0_effort : Int32) (vq0_thrown : Int32) (vq0_at : Int32) (vq0_scaled : Int32) (vq0_solved : Int32) (vq0_second : Int32) (vq0_nm : Int32) (vq0_nn : Int32) (vq0_number : UInt64) (vq0_bad : Int32) (vq0_low : Nat → UInt64) (vq0_dd : Nat → UInt64) (vq0_r : Nat → UInt64) (x1 : Int32) (vq0_big : Nat → UInt64) (x2 : Int32) : Option (((Nat → UInt64) × Int32) ⊕ ((Nat → UInt64))) :=
  if vq0_m ≤ x2 then (some (.inr vq0_big)) else (gd (inb x1 5) <| gd (inb ((5 * x2) + x1) 25) <| gd (inb x2 5) <| gd (isn (FP.dmul (vq0_low ((5 * x2) + x1).toNatClampNeg) (vq0_big x2.toNatClampNeg))) <| gd (isn (FP.dsub (vq0_big x1.toNatClampNeg) (FP.dmul (vq0_low ((5 * x2) + x1).toNatClampNeg) (vq0_big x2.toNatClampNeg)))) <| gd (inb x1 5) <| some (.inl (vf_upd vq0_big x1.toNatClampNeg (FP.dsub (vq0_big x1.toNatClampNeg) (FP.dmul (vq0_low ((5 * x2) + x1).toNatClampNeg) (vq0_big x2.toNatClampNeg))), x2 + 1)))
def s_M_solve_L121 (vq0_m : Int32) (vq0_n : Int32) (vq0_length : Int32) (vq0_where : Int32) (vq0_effort : Int32) (vq0_thrown : Int32) (vq0_at : Int32) (vq0_scaled : Int32) (vq0_solved : Int32) (vq0_second : Int32) (vq0_nm : Int32) (vq0_nn : Int32) (vq0_number : UInt64) (vq0_bad : Int32) (vq0_low : Nat → UInt64) (vq0_dd : Nat → UInt64) (vq0_r : Nat → UInt64) (vq0_big : Nat → UInt64) (x1 : Int32) (x2 : Int32) : Option (((Nat → UInt64) × Int32) ⊕ ((Nat → UInt64))) :=
  (loopO (fun (st : (Nat → UInt64) × Int32) => s_M_solve_B121 vq0_m vq0_n vq0_length vq0_where vq0_effort vq0_thrown vq0_at vq0_scaled vq0_solved vq0_second vq0_nm vq0_nn vq0_number vq0_bad vq0_low vq0_dd vq0_r x1 st.1 st.2) 2000 (vq0_big, x2)).bind fun ul121 => some (.inl (ul121, x1 + (-1)))
def s_M_solve_B113 (vq0_m : Int32) (vq0_n : Int32) (vq0_length : Int32) (vq0_where : Int32) (vq0_effort : Int32) (vq0_thrown : Int32) (vq0_at : Int32) (vq0_scaled : Int32) (vq0_solved : Int32) (vq0_second : Int32) (vq0_nm : Int32) (vq0_nn : Int32) (vq0_number : UInt64) (vq0_bad : Int32) (vq0_low : Nat → UInt64) (vq0_dd : Nat → UInt64) (vq0_r : Nat → UInt64) (vq0_big : Nat → UInt64) (x1 : Int32) : Option (((Nat → UInt64) × Int32) ⊕ ((Nat → UInt64))) :=
  if x1 < 0 then (some (.inr vq0_big)) else (s_M_solve_L121 vq0_m vq0_n vq0_length vq0_where vq0_effort vq0_thrown vq0_at vq0_scaled vq0_solved vq0_second vq0_nm vq0_nn vq0_number vq0_bad vq0_low vq0_dd vq0_r vq0_big x1 (x1 + 1))
def s_M_solve_L113 (vq0_m : Int32) (vq0_n : Int32) (vq0_length : Int32) (vq0_where : Int32) (vq0_effort : Int32) (vq0_thrown : Int32) (vq0_at : Int32) (vq0_scaled : Int32) (vq0_solved : Int32) (vq0_second : Int32) (vq0_nm : Int32) (vq0_nn : Int32) (vq0_number : UInt64) (vq0_bad : Int32) (vq0_low : Nat → UInt64) (vq0_dd : Nat → UInt64) (vq0_r : Nat → UInt64) (vq0_big : Nat → UInt64) (x1 : Int32) : Option ((Nat → UInt64)) :=
  (loopO (fun (st : (Nat → UInt64) × Int32) => s_M_solve_B113 vq0_m vq0_n vq0_length vq0_where vq0_effort vq0_thrown vq0_at vq0_scaled vq0_solved vq0_second vq0_nm vq0_nn vq0_number vq0_bad vq0_low vq0_dd vq0_r st.1 st.2) 2000 (vq0_big, x1)).bind fun ul113 => some ul113
def s_M_solve_B73 (vq0_m : Int32) (vq0_n : Int32) (vq0_length : Int32) (vq0_where : Int32) (vq0_effort : Int32) (vq0_thrown : Int32) (vq0_at : Int32) (vq0_scaled : Int32) (vq0_solved : Int32) (vq0_second : Int32) (vq0_nm : Int32) (vq0_nn : Int32) (vq0_number : UInt64) (vq0_bad : Int32) (vq0_low : Nat → UInt64) (vq0_dd : Nat → UInt64) (vq0_r : Nat → UInt64) (vq0_big : Nat → UInt64) (x1 : Int32) : Option (((Nat → UInt64) × Int32) ⊕ ((Nat → UInt64))) :=
  if vq0_m ≤ x1 then (some (.inr vq0_big)) else (gd (inb x1 5) <| gd (inb x1 5) <| gd (isn (FP.ddiv (vq0_big x1.toNatClampNeg) (vq0_dd x1.toNatClampNeg))) <| gd (inb x1 5) <| some (.inl (vf_upd vq0_big x1.toNatClampNeg (FP.ddiv (vq0_big x1.toNatClampNeg) (vq0_dd x1.toNatClampNeg)), x1 + 1)))
def s_M_solve_L73 (vq0_m : Int32) (vq0_n : Int32) (vq0_length : Int32) (vq0_where : Int32) (vq0_effort : Int32) (vq0_thrown : Int32) (vq0_at : Int32) (vq0_scaled : Int32) (vq0_solved : Int32) (vq0_second : Int32) (vq0_nm : Int32) (vq0_nn : Int32) (vq0_number : UInt64) (vq0_bad : Int32) (vq0_low : Nat → UInt64) (vq0_dd : Nat → UInt64) (vq0_r : Nat → UInt64) (vq0_big : Nat → UInt64) (x1 : Int32) : Option ((Nat → UInt64)) :=
  (loopO (fun (st : (Nat → UInt64) × Int32) => s_M_solve_B73 vq0_m vq0_n vq0_length vq0_where vq0_effort vq0_thrown vq0_at vq0_scaled vq0_solved vq0_second vq0_nm vq0_nn vq0_number vq0_bad vq0_low vq0_dd vq0_r st.1 st.2) 2000 (vq0_big, x1)).bind fun ul73 => s_M_solve_L113 vq0_m vq0_n vq0_length vq0_where vq0_effort vq0_thrown vq0_at vq0_scaled vq0_solved vq0_second vq0_nm vq0_nn vq0_number vq0_bad vq0_low vq0_dd vq0_r ul73 (vq0_m - 1)
def s_M_solve_B24 (vq0_m : Int32) (vq0_n : Int32) (vq0_length : Int32) (vq0_where : Int32) (vq0_effort : Int32) (vq0_thrown : Int32) (vq0_at : Int32) (vq0_scaled : Int32) (vq0_solved : Int32) (vq0_second : Int32) (vq0_nm : Int32) (vq0_nn : Int32) (vq0_number : UInt64) (vq0_bad : Int32) (vq0_low : Nat → UInt64) (vq0_dd : Nat → UInt64) (vq0_r : Nat → UInt64) (x1 : Int32) (vq0_big : Nat → UInt64) (x2 : Int32) : Option (((Nat → UInt64) × Int32) ⊕ ((Nat → UInt64))) :=
  if x1 ≤ x2 then (some (.inr vq0_big)) else (gd (inb x1 5) <| gd (inb ((5 * x1) + x2) 25) <| gd (inb x2 5) <| gd (isn (FP.dmul (vq0_low ((5 * x1) + x2).toNatClampNeg) (vq0_big x2.toNatClampNeg))) <| gd (isn (FP.dsub (vq0_big x1.toNatClampNeg) (FP.dmul (vq0_low ((5 * x1) + x2).toNatClampNeg) (vq0_big x2.toNatClampNeg)))) <| gd (inb x1 5) <| some (.inl (vf_upd vq0_big x1.toNatClampNeg (FP.dsub (vq0_big x1.toNatClampNeg) (FP.dmul (vq0_low ((5 * x1) + x2).toNatClampNeg) (vq0_big x2.toNatClampNeg))), x2 + 1)))
def s_M_solve_L24 (vq0_m : Int32) (vq0_n : Int32) (vq0_length : Int32) (vq0_where : Int32) (vq0_effort : Int32) (vq0_thrown : Int32) (vq0_at : Int32) (vq0_scaled : Int32) (vq0_solved : Int32) (vq0_second : Int32) (vq0_nm : Int32) (vq0_nn : Int32) (vq0_number : UInt64) (vq0_bad : Int32) (vq0_low : Nat → UInt64) (vq0_dd : Nat → UInt64) (vq0_r : Nat → UInt64) (vq0_big : Nat → UInt64) (x1 : Int32) (x2 : Int32) : Option (((Nat → UInt64) × Int32) ⊕ ((Nat → UInt64))) :=
  (loopO (fun (st : (Nat → UInt64) × Int32) => s_M_solve_B24 vq0_m vq0_n vq0_length vq0_where vq0_effort vq0_thrown vq0_at vq0_scaled vq0_solved vq0_second vq0_nm vq0_nn vq0_number vq0_bad vq0_low vq0_dd vq0_r x1 st.1 st.2) 2000 (vq0_big, x2)).bind fun ul24 => some (.inl (ul24, x1 + 1))
def s_M_solve_B2 (vq0_m : Int32) (vq0_n : Int32) (vq0_length : Int32) (vq0_where : Int32) (vq0_effort : Int32) (vq0_thrown : Int32) (vq0_at : Int32) (vq0_scaled : Int32) (vq0_solved : Int32) (vq0_second : Int32) (vq0_nm : Int32) (vq0_nn : Int32) (vq0_number : UInt64) (vq0_bad : Int32) (vq0_low : Nat → UInt64) (vq0_dd : Nat → UInt64) (vq0_r : Nat → UInt64) (vq0_big : Nat → UInt64) (x1 : Int32) : Option (((Nat → UInt64) × Int32) ⊕ ((Nat → UInt64))) :=
  if vq0_m ≤ x1 then (some (.inr vq0_big)) else (gd (inb x1 5) <| gd (inb x1 5) <| s_M_solve_L24 vq0_m vq0_n vq0_length vq0_where vq0_effort vq0_thrown vq0_at vq0_scaled vq0_solved vq0_second vq0_nm vq0_nn vq0_number vq0_bad vq0_low vq0_dd vq0_r (vf_upd vq0_big x1.toNatClampNeg (vq0_r x1.toNatClampNeg)) x1 0)
def s_M_solve_L2 (vq0_m : Int32) (vq0_n : Int32) (vq0_length : Int32) (vq0_where : Int32) (vq0_effort : Int32) (vq0_thrown : Int32) (vq0_at : Int32) (vq0_scaled : Int32) (vq0_solved : Int32) (vq0_second : Int32) (vq0_nm : Int32) (vq0_nn : Int32) (vq0_number : UInt64) (vq0_bad : Int32) (vq0_low : Nat → UInt64) (vq0_dd : Nat → UInt64) (vq0_r : Nat → UInt64) (vq0_big : Nat → UInt64) (x1 : Int32) : Option ((Nat → UInt64)) :=
  (loopO (fun (st : (Nat → UInt64) × Int32) => s_M_solve_B2 vq0_m vq0_n vq0_length vq0_where vq0_effort vq0_thrown vq0_at vq0_scaled vq0_solved vq0_second vq0_nm vq0_nn vq0_number vq0_bad vq0_low vq0_dd vq0_r st.1 st.2) 2000 (vq0_big, x1)).bind fun ul2 => s_M_solve_L73 vq0_m vq0_n vq0_length vq0_where vq0_effort vq0_thrown vq0_at vq0_scaled vq0_solved vq0_second vq0_nm vq0_nn vq0_number vq0_bad vq0_low vq0_dd vq0_r ul2 0
def s_M_solve (vq0_m : Int32) (vq0_n : Int32) (vq0_length : Int32) (vq0_where : Int32) (vq0_effort : Int32) (vq0_thrown : Int32) (vq0_at : Int32) (vq0_scaled : Int32) (vq0_solved : Int32) (vq0_second : Int32) (vq0_nm : Int32) (vq0_nn : Int32) (vq0_number : UInt64) (vq0_bad : Int32) (vq0_low : Nat → UInt64) (vq0_dd : Nat → UInt64) (vq0_r : Nat → UInt64) (vq0_big : Nat → UInt64) : Option ((Nat → UInt64)) :=
  s_M_solve_L2 vq0_m vq0_n vq0_length vq0_where vq0_effort vq0_thrown vq0_at vq0_scaled vq0_solved vq0_second vq0_nm vq0_nn vq0_number vq0_bad vq0_low vq0_dd vq0_r vq0_big 0
set_option maxHeartbeats 40000000 in
set_option maxRecDepth 100000 in
theorem c_M_solve (l : Launch) (D : va_G) (T : Nat → ClassId) (q0 : Nat) (q0_a : Nat) (q0_b : Nat) (q0_c : Nat) (q0_rowScale : Nat) (q0_columnScale : Nat) (q0_sa : Nat) (q0_sb : Nat) (q0_sc : Nat) (q0_x : Nat) (q0_s : Nat) (q0_y : Nat) (q0_p : Nat) (q0_d : Nat) (q0_h : Nat) (q0_f : Nat) (q0_mm : Nat) (q0_low : Nat) (q0_dd : Nat) (q0_r : Nat) (q0_big : Nat) (q0_dt : Nat) (q0_dx : Nat) (q0_t : Nat) (q0_cost : Nat) (q0_rowScaleNow : Nat) (q0_columnScaleNow : Nat) (q0_basic : Nat) (q0_text : Nat) (q0_turned : Nat) (q0_na : Nat) (q0_nb : Nat) (q0_nc : Nat) (vq0_m : Int32) (vq0_n : Int32) (vq0_length : Int32) (vq0_where : Int32) (vq0_effort : Int32) (vq0_thrown : Int32) (vq0_at : Int32) (vq0_scaled : Int32) (vq0_solved : Int32) (vq0_second : Int32) (vq0_nm : Int32) (vq0_nn : Int32) (vq0_number : UInt64) (vq0_bad : Int32) (vq0_low : Nat → UInt64) (vq0_dd : Nat → UInt64) (vq0_r : Nat → UInt64) (vq0_big : Nat → UInt64) (rm : (Nat → UInt64)) (h : s_M_solve vq0_m vq0_n vq0_length vq0_where vq0_effort vq0_thrown vq0_at vq0_scaled vq0_solved vq0_second vq0_nm vq0_nn vq0_number vq0_bad vq0_low vq0_dd vq0_r vq0_big = some rm) : CtV l y_M_solve (Cond.code y_M_solve prog_10_method_26_code 3 none :: BIG) 0 0 D T [.ref q0] (w_M_solve T q0 q0_a q0_b q0_c q0_rowScale q0_columnScale q0_sa q0_sb q0_sc q0_x q0_s q0_y q0_p q0_d q0_h q0_f q0_mm q0_low q0_dd q0_r q0_big q0_dt q0_dx q0_t q0_cost q0_rowScaleNow q0_columnScaleNow q0_basic q0_text q0_turned q0_na q0_nb q0_nc vq0_m vq0_n vq0_length vq0_where vq0_effort vq0_thrown vq0_at vq0_scaled vq0_solved vq0_second vq0_nm vq0_nn vq0_number vq0_bad vq0_low vq0_dd vq0_r vq0_big) (fun r => (w_M_solve T q0 q0_a q0_b q0_c q0_rowScale q0_columnScale q0_sa q0_sb q0_sc q0_x q0_s q0_y q0_p q0_d q0_h q0_f q0_mm q0_low q0_dd q0_r q0_big q0_dt q0_dx q0_t q0_cost q0_rowScaleNow q0_columnScaleNow q0_basic q0_text q0_turned q0_na q0_nb q0_nc vq0_m vq0_n vq0_length vq0_where vq0_effort vq0_thrown vq0_at vq0_scaled vq0_solved vq0_second vq0_nm vq0_nn vq0_number vq0_bad vq0_low vq0_dd vq0_r r)) rm := by
  refine cf_entry (y := y_M_solve) (cc := prog_10_method_26_code) (nL := 3) (ret := none) (fr := 0) (lo := 0) (T := T) (av := [.ref q0]) (w := (w_M_solve T q0 q0_a q0_b q0_c q0_rowScale q0_columnScale q0_sa q0_sb q0_sc q0_x q0_s q0_y q0_p q0_d q0_h q0_f q0_mm q0_low q0_dd q0_r q0_big q0_dt q0_dx q0_t q0_cost q0_rowScaleNow q0_columnScaleNow q0_basic q0_text q0_turned q0_na q0_nb q0_nc vq0_m vq0_n vq0_length vq0_where vq0_effort vq0_thrown vq0_at vq0_scaled vq0_solved vq0_second vq0_nm vq0_nn vq0_number vq0_bad vq0_low vq0_dd vq0_r vq0_big)) (Qc := cfQv D (fun r => (w_M_solve T q0 q0_a q0_b q0_c q0_rowScale q0_columnScale q0_sa q0_sb q0_sc q0_x q0_s q0_y q0_p q0_d q0_h q0_f q0_mm q0_low q0_dd q0_r q0_big q0_dt q0_dx q0_t q0_cost q0_rowScaleNow q0_columnScaleNow q0_basic q0_text q0_turned q0_na q0_nb q0_nc vq0_m vq0_n vq0_length vq0_where vq0_effort vq0_thrown vq0_at vq0_scaled vq0_solved vq0_second vq0_nm vq0_nn vq0_number vq0_bad vq0_low vq0_dd vq0_r r)) rm) (by decide) rfl (Nat.le_of_ble_eq_true rfl) ?_
  intro p e s m args below meth c A Q H locs ls hx hb hr hlocks hml hown hts hNW hK hA hQ hP hD hS hl
  have hown : s.vm.findClass "ConeForgeModel" = some m.cls := hown
  have hl : lv_has ls 3 [(0, .ref q0)] := hl
  have L113 : ∀ (vq0_big : Nat → UInt64) (x1 : Int32), ∀ (H : Heap) (locs : List Loc) (ls : Array Slot), va_P D CL (w_M_solve T q0 q0_a q0_b q0_c q0_rowScale q0_columnScale q0_sa q0_sb q0_sc q0_x q0_s q0_y q0_p q0_d q0_h q0_f q0_mm q0_low q0_dd q0_r q0_big q0_dt q0_dx q0_t q0_cost q0_rowScaleNow q0_columnScaleNow q0_basic q0_text q0_turned q0_na q0_nb q0_nc vq0_m vq0_n vq0_length vq0_where vq0_effort vq0_thrown vq0_at vq0_scaled vq0_solved vq0_second vq0_nm vq0_nn vq0_number vq0_bad vq0_low vq0_dd vq0_r vq0_big) H → va_D A (w_M_solve T q0 q0_a q0_b q0_c q0_rowScale q0_columnScale q0_sa q0_sb q0_sc q0_x q0_s q0_y q0_p q0_d q0_h q0_f q0_mm q0_low q0_dd q0_r q0_big q0_dt q0_dx q0_t q0_cost q0_rowScaleNow q0_columnScaleNow q0_basic q0_text q0_turned q0_na q0_nb q0_nc vq0_m vq0_n vq0_length vq0_where vq0_effort vq0_thrown vq0_at vq0_scaled vq0_solved vq0_second vq0_nm vq0_nn vq0_number vq0_bad vq0_low vq0_dd vq0_r vq0_big) → va_S A s.heap H locs → lv_has ls 3 [(0, .ref q0), (1, .int x1)] → s_M_solve_L113 vq0_m vq0_n vq0_length vq0_where vq0_effort vq0_thrown vq0_at vq0_scaled vq0_solved vq0_second vq0_nm vq0_nn vq0_number vq0_bad vq0_low vq0_dd vq0_r vq0_big x1 = some rm → W p l e (rmk 0 0) s m args below meth c H locs 0 0 Q (F0 m 113 ls []) := by
    intro vq0_big x1 H locs ls hP hD hS hl h
    unfold s_M_solve_L113 at h
    obtain ⟨ul113, hul113, h⟩ := bi_some h
    refine loopO_W (Wh := fun (st : (Nat → UInt64) × Int32) => ∀ (H : Heap) (locs : List Loc) (ls : Array Slot), va_P D CL (w_M_solve T q0 q0_a q0_b q0_c q0_rowScale q0_columnScale q0_sa q0_sb q0_sc q0_x q0_s q0_y q0_p q0_d q0_h q0_f q0_mm q0_low q0_dd q0_r q0_big q0_dt q0_dx q0_t q0_cost q0_rowScaleNow q0_columnScaleNow q0_basic q0_text q0_turned q0_na q0_nb q0_nc vq0_m vq0_n vq0_length vq0_where vq0_effort vq0_thrown vq0_at vq0_scaled vq0_solved vq0_second vq0_nm vq0_nn vq0_number vq0_bad vq0_low vq0_dd vq0_r st.1) H → va_D A (w_M_solve T q0 q0_a q0_b q0_c q0_rowScale q0_columnScale q0_sa q0_sb q0_sc q0_x q0_s q0_y q0_p q0_d q0_h q0_f q0_mm q0_low q0_dd q0_r q0_big q0_dt q0_dx q0_t q0_cost q0_rowScaleNow q0_columnScaleNow q0_basic q0_text q0_turned q0_na q0_nb q0_nc vq0_m vq0_n vq0_length vq0_where vq0_effort vq0_thrown vq0_at vq0_scaled vq0_solved vq0_second vq0_nm vq0_nn vq0_number vq0_bad vq0_low vq0_dd vq0_r st.1) → va_S A s.heap H locs → lv_has ls 3 [(0, .ref q0), (1, .int st.2)] → W p l e (rmk 0 0) s m args below meth c H locs 0 0 Q (F0 m 113 ls [])) (Wx := fun (e1 : (Nat → UInt64)) => ∀ (H : Heap) (locs : List Loc) (ls : Array Slot), va_P D CL (w_M_solve T q0 q0_a q0_b q0_c q0_rowScale q0_columnScale q0_sa q0_sb q0_sc q0_x q0_s q0_y q0_p q0_d q0_h q0_f q0_mm q0_low q0_dd q0_r q0_big q0_dt q0_dx q0_t q0_cost q0_rowScaleNow q0_columnScaleNow q0_basic q0_text q0_turned q0_na q0_nb q0_nc vq0_m vq0_n vq0_length vq0_where vq0_effort vq0_thrown vq0_at vq0_scaled vq0_solved vq0_second vq0_nm vq0_nn vq0_number vq0_bad vq0_low vq0_dd vq0_r e1) H → va_D A (w_M_solve T q0 q0_a q0_b q0_c q0_rowScale q0_columnScale q0_sa q0_sb q0_sc q0_x q0_s q0_y q0_p q0_d q0_h q0_f q0_mm q0_low q0_dd q0_r q0_big q0_dt q0_dx q0_t q0_cost q0_rowScaleNow q0_columnScaleNow q0_basic q0_text q0_turned q0_na q0_nb q0_nc vq0_m vq0_n vq0_length vq0_where vq0_effort vq0_thrown vq0_at vq0_scaled vq0_solved vq0_second vq0_nm vq0_nn vq0_number vq0_bad vq0_low vq0_dd vq0_r e1) → va_S A s.heap H locs → lv_has ls 3 [] → W p l e (rmk 0 0) s m args below meth c H locs 0 0 Q (F0 m 171 ls [])) ?_ 2000 _ ul113 hul113 ?_ H locs ls hP hD hS hl
    · intro st rb113 h kc113 kx113 H locs ls hP hD hS hl
      obtain ⟨vq0_big, x1⟩ := st
      have h : s_M_solve_B113 vq0_m vq0_n vq0_length vq0_where vq0_effort vq0_thrown vq0_at vq0_scaled vq0_solved vq0_second vq0_nm vq0_nn vq0_number vq0_bad vq0_low vq0_dd vq0_r vq0_big x1 = some rb113 := h
      have L121 : ∀ (vq0_big : Nat → UInt64) (x1 : Int32) (x2 : Int32), ∀ (H : Heap) (locs : List Loc) (ls : Array Slot), va_P D CL (w_M_solve T q0 q0_a q0_b q0_c q0_rowScale q0_columnScale q0_sa q0_sb q0_sc q0_x q0_s q0_y q0_p q0_d q0_h q0_f q0_mm q0_low q0_dd q0_r q0_big q0_dt q0_dx q0_t q0_cost q0_rowScaleNow q0_columnScaleNow q0_basic q0_text q0_turned q0_na q0_nb q0_nc vq0_m vq0_n vq0_length vq0_where vq0_effort vq0_thrown vq0_at vq0_scaled vq0_solved vq0_second vq0_nm vq0_nn vq0_number vq0_bad vq0_low vq0_dd vq0_r vq0_big) H → va_D A (w_M_solve T q0 q0_a q0_b q0_c q0_rowScale q0_columnScale q0_sa q0_sb q0_sc q0_x q0_s q0_y q0_p q0_d q0_h q0_f q0_mm q0_low q0_dd q0_r q0_big q0_dt q0_dx q0_t q0_cost q0_rowScaleNow q0_columnScaleNow q0_basic q0_text q0_turned q0_na q0_nb q0_nc vq0_m vq0_n vq0_length vq0_where vq0_effort vq0_thrown vq0_at vq0_scaled vq0_solved vq0_second vq0_nm vq0_nn vq0_number vq0_bad vq0_low vq0_dd vq0_r vq0_big) → va_S A s.heap H locs → lv_has ls 3 [(0, .ref q0), (1, .int x1), (2, .int x2)] → s_M_solve_L121 vq0_m vq0_n vq0_length vq0_where vq0_effort vq0_thrown vq0_at vq0_scaled vq0_solved vq0_second vq0_nm vq0_nn vq0_number vq0_bad vq0_low vq0_dd vq0_r vq0_big x1 x2 = some rb113 → W p l e (rmk 0 0) s m args below meth c H locs 0 0 Q (F0 m 121 ls []) := by
        intro vq0_big x1 x2 H locs ls hP hD hS hl h
        unfold s_M_solve_L121 at h
        obtain ⟨ul121, hul121, h⟩ := bi_some h
        refine loopO_W (Wh := fun (st : (Nat → UInt64) × Int32) => ∀ (H : Heap) (locs : List Loc) (ls : Array Slot), va_P D CL (w_M_solve T q0 q0_a q0_b q0_c q0_rowScale q0_columnScale q0_sa q0_sb q0_sc q0_x q0_s q0_y q0_p q0_d q0_h q0_f q0_mm q0_low q0_dd q0_r q0_big q0_dt q0_dx q0_t q0_cost q0_rowScaleNow q0_columnScaleNow q0_basic q0_text q0_turned q0_na q0_nb q0_nc vq0_m vq0_n vq0_length vq0_where vq0_effort vq0_thrown vq0_at vq0_scaled vq0_solved vq0_second vq0_nm vq0_nn vq0_number vq0_bad vq0_low vq0_dd vq0_r st.1) H → va_D A (w_M_solve T q0 q0_a q0_b q0_c q0_rowScale q0_columnScale q0_sa q0_sb q0_sc q0_x q0_s q0_y q0_p q0_d q0_h q0_f q0_mm q0_low q0_dd q0_r q0_big q0_dt q0_dx q0_t q0_cost q0_rowScaleNow q0_columnScaleNow q0_basic q0_text q0_turned q0_na q0_nb q0_nc vq0_m vq0_n vq0_length vq0_where vq0_effort vq0_thrown vq0_at vq0_scaled vq0_solved vq0_second vq0_nm vq0_nn vq0_number vq0_bad vq0_low vq0_dd vq0_r st.1) → va_S A s.heap H locs → lv_has ls 3 [(0, .ref q0), (1, .int x1), (2, .int st.2)] → W p l e (rmk 0 0) s m args below meth c H locs 0 0 Q (F0 m 121 ls [])) (Wx := fun (e1 : (Nat → UInt64)) => ∀ (H : Heap) (locs : List Loc) (ls : Array Slot), va_P D CL (w_M_solve T q0 q0_a q0_b q0_c q0_rowScale q0_columnScale q0_sa q0_sb q0_sc q0_x q0_s q0_y q0_p q0_d q0_h q0_f q0_mm q0_low q0_dd q0_r q0_big q0_dt q0_dx q0_t q0_cost q0_rowScaleNow q0_columnScaleNow q0_basic q0_text q0_turned q0_na q0_nb q0_nc vq0_m vq0_n vq0_length vq0_where vq0_effort vq0_thrown vq0_at vq0_scaled vq0_solved vq0_second vq0_nm vq0_nn vq0_number vq0_bad vq0_low vq0_dd vq0_r e1) H → va_D A (w_M_solve T q0 q0_a q0_b q0_c q0_rowScale q0_columnScale q0_sa q0_sb q0_sc q0_x q0_s q0_y q0_p q0_d q0_h q0_f q0_mm q0_low q0_dd q0_r q0_big q0_dt q0_dx q0_t q0_cost q0_rowScaleNow q0_columnScaleNow q0_basic q0_text q0_turned q0_na q0_nb q0_nc vq0_m vq0_n vq0_length vq0_where vq0_effort vq0_thrown vq0_at vq0_scaled vq0_solved vq0_second vq0_nm vq0_nn vq0_number vq0_bad vq0_low vq0_dd vq0_r e1) → va_S A s.heap H locs → lv_has ls 3 [(0, .ref q0), (1, .int x1)] → W p l e (rmk 0 0) s m args below meth c H locs 0 0 Q (F0 m 165 ls [])) ?_ 2000 _ ul121 hul121 ?_ H locs ls hP hD hS hl
        · intro st rb121 h kc121 kx121 H locs ls hP hD hS hl
          obtain ⟨vq0_big, x2⟩ := st
          have h : s_M_solve_B121 vq0_m vq0_n vq0_length vq0_where vq0_effort vq0_thrown vq0_at vq0_scaled vq0_solved vq0_second vq0_nm vq0_nn vq0_number vq0_bad vq0_low vq0_dd vq0_r x1 vq0_big x2 = some rb121 := h
          unfold s_M_solve_B121 at h
          refine lv_iload_n hx hb d_M_solve_121 rfl (lv_at hl 2 rfl) ?_
          refine lv_aload_n hx hb d_M_solve_122 rfl (lv_at hl 0 rfl) ?_
          refine va_get (D := D) (ci := 8) (v := .int vq0_m) (C := "ConeForgeModel") (T := FM) (N := 46) hx hb hts iM hown hK hP 0 rfl rfl 29 (by decide) (hts _ (bgc bw713)) (fun _ h9 => h9) rfl d_M_solve_123 ?_
          refine lv_icmp_ge (tgt := 165) hx hb d_M_solve_126 (by decide) (fun c1 => ?_) (fun c1 => ?_)
          · have h := it_t c1 h
            exact kx121 _ (Option.some.inj h).symm H locs ls hP hD hS (lv_sub hl [0, 1] rfl)
          · have h := it_f c1 h
            refine lv_aload_n hx hb d_M_solve_129 rfl (lv_at hl 0 rfl) ?_
            refine va_get (D := D) (ci := 8) (v := .ref q0_big) (C := "ConeForgeModel") (T := FM) (N := 46) hx hb hts iM hown hK hP 0 rfl rfl 19 (by decide) (hts _ (bgc bw703)) (fun _ h9 => h9) rfl d_M_solve_130 ?_
            refine lv_iload_n hx hb d_M_solve_133 rfl (lv_at hl 1 rfl) ?_
            refine lv_aload_n hx hb d_M_solve_134 rfl (lv_at hl 0 rfl) ?_
            refine va_get (D := D) (ci := 8) (v := .ref q0_big) (C := "ConeForgeModel") (T := FM) (N := 46) hx hb hts iM hown hK hP 0 rfl rfl 19 (by decide) (hts _ (bgc bw703)) (fun _ h9 => h9) rfl d_M_solve_135 ?_
            refine lv_iload_n hx hb d_M_solve_138 rfl (lv_at hl 1 rfl) ?_
            obtain ⟨g2, h⟩ := gd_some h
            refine va_dald hx hb hK hP 4 0 rfl rfl (inb_in g2) d_M_solve_139 ?_
            refine lv_aload_n hx hb d_M_solve_140 rfl (lv_at hl 0 rfl) ?_
            refine va_get (D := D) (ci := 8) (v := .ref q0_low) (C := "ConeForgeModel") (T := FM) (N := 46) hx hb hts iM hown hK hP 0 rfl rfl 16 (by decide) (hts _ (bgc bw700)) (fun _ h9 => h9) rfl d_M_solve_141 ?_
            refine lv_iconst (v := 5) hx hb d_M_solve_144 (by decide) ?_
            refine lv_iload_n hx hb d_M_solve_145 rfl (lv_at hl 2 rfl) ?_
            refine lv_imul hx hb d_M_solve_146 ?_
            refine lv_iload_n hx hb d_M_solve_147 rfl (lv_at hl 1 rfl) ?_
            refine lv_iadd hx hb d_M_solve_148 ?_
            obtain ⟨g3, h⟩ := gd_some h
            refine va_dald hx hb hK hP 1 0 rfl rfl (inb_in g3) d_M_solve_149 ?_
            refine lv_aload_n hx hb d_M_solve_150 rfl (lv_at hl 0 rfl) ?_
            refine va_get (D := D) (ci := 8) (v := .ref q0_big) (C := "ConeForgeModel") (T := FM) (N := 46) hx hb hts iM hown hK hP 0 rfl rfl 19 (by decide) (hts _ (bgc bw703)) (fun _ h9 => h9) rfl d_M_solve_151 ?_
            refine lv_iload_n hx hb d_M_solve_154 rfl (lv_at hl 2 rfl) ?_
            obtain ⟨g4, h⟩ := gd_some h
            refine va_dald hx hb hK hP 4 0 rfl rfl (inb_in g4) d_M_solve_155 ?_
            obtain ⟨g5, h⟩ := gd_some h
            refine lv_dmul hx hb d_M_solve_156 (isn_n g5) ?_
            obtain ⟨g6, h⟩ := gd_some h
            refine lv_dsub hx hb d_M_solve_157 (isn_n g6) ?_
            obtain ⟨g7, h⟩ := gd_some h
            refine va_dast hx hb hK hP hD hS 4 0 rfl rfl (inb_in g7) d_M_solve_158 (fun H locs hP hD hS => ?_)
            have hP : va_P D CL (w_M_solve T q0 q0_a q0_b q0_c q0_rowScale q0_columnScale q0_sa q0_sb q0_sc q0_x q0_s q0_y q0_p q0_d q0_h q0_f q0_mm q0_low q0_dd q0_r q0_big q0_dt q0_dx q0_t q0_cost q0_rowScaleNow q0_columnScaleNow q0_basic q0_text q0_turned q0_na q0_nb q0_nc vq0_m vq0_n vq0_length vq0_where vq0_effort vq0_thrown vq0_at vq0_scaled vq0_solved vq0_second vq0_nm vq0_nn vq0_number vq0_bad vq0_low vq0_dd vq0_r (vf_upd vq0_big x1.toNatClampNeg (FP.dsub (vq0_big x1.toNatClampNeg) (FP.dmul (vq0_low ((5 * x2) + x1).toNatClampNeg) (vq0_big x2.toNatClampNeg))))) H := hP
            have hD : va_D A (w_M_solve T q0 q0_a q0_b q0_c q0_rowScale q0_columnScale q0_sa q0_sb q0_sc q0_x q0_s q0_y q0_p q0_d q0_h q0_f q0_mm q0_low q0_dd q0_r q0_big q0_dt q0_dx q0_t q0_cost q0_rowScaleNow q0_columnScaleNow q0_basic q0_text q0_turned q0_na q0_nb q0_nc vq0_m vq0_n vq0_length vq0_where vq0_effort vq0_thrown vq0_at vq0_scaled vq0_solved vq0_second vq0_nm vq0_nn vq0_number vq0_bad vq0_low vq0_dd vq0_r (vf_upd vq0_big x1.toNatClampNeg (FP.dsub (vq0_big x1.toNatClampNeg) (FP.dmul (vq0_low ((5 * x2) + x1).toNatClampNeg) (vq0_big x2.toNatClampNeg))))) := hD
            refine lv_iinc (v := x2 + 1) (lv' := [(2, .int (x2 + 1)), (0, .ref q0), (1, .int x1)]) hx hb d_M_solve_159 hl (k := 2) rfl rfl (by decide) rfl (fun ls hl => ?_)
            refine lv_goto (tgt := 121) hx hb d_M_solve_162 (by decide) ?_
            exact kc121 _ (Option.some.inj h).symm H locs ls hP hD hS (lv_sub hl [1, 2, 0] rfl)
        · intro H locs ls hP hD hS hl
          refine lv_iinc (v := x1 + (-1)) (lv' := [(1, .int (x1 + (-1))), (0, .ref q0)]) hx hb d_M_solve_165 hl (k := 1) rfl rfl (by decide) rfl (fun ls hl => ?_)
          refine lv_goto (tgt := 113) hx hb d_M_solve_168 (by decide) ?_
          exact kc113 _ (Option.some.inj h).symm H locs ls hP hD hS (lv_sub hl [1, 0] rfl)
      unfold s_M_solve_B113 at h
      refine lv_iload_n hx hb d_M_solve_113 rfl (lv_at hl 1 rfl) ?_
      refine lv_if_lt (tgt := 171) hx hb d_M_solve_114 (by decide) (fun c8 => ?_) (fun c8 => ?_)
      · have h := it_t c8 h
        exact kx113 _ (Option.some.inj h).symm H locs ls hP hD hS (lv_sub hl [] rfl)
      · have h := it_f c8 h
        refine lv_iload_n hx hb d_M_solve_117 rfl (lv_at hl 1 rfl) ?_
        refine lv_iconst (v := 1) hx hb d_M_solve_118 (by decide) ?_
        refine lv_iadd hx hb d_M_solve_119 ?_
        refine lv_istore_n (lv' := [(2, .int (x1 + 1)), (0, .ref q0), (1, .int x1)]) hx hb d_M_solve_120 rfl hl (by decide) rfl (fun ls hl => ?_)
        exact L121 vq0_big x1 (x1 + 1) H locs ls hP hD hS (lv_sub hl [1, 2, 0] rfl) h
    · intro H locs ls hP hD hS hl
      exact rtV hx hb hr hlocks hQ (Option.some.inj h) hP hS d_M_solve_171 rfl
  have L73 : ∀ (vq0_big : Nat → UInt64) (x1 : Int32), ∀ (H : Heap) (locs : List Loc) (ls : Array Slot), va_P D CL (w_M_solve T q0 q0_a q0_b q0_c q0_rowScale q0_columnScale q0_sa q0_sb q0_sc q0_x q0_s q0_y q0_p q0_d q0_h q0_f q0_mm q0_low q0_dd q0_r q0_big q0_dt q0_dx q0_t q0_cost q0_rowScaleNow q0_columnScaleNow q0_basic q0_text q0_turned q0_na q0_nb q0_nc vq0_m vq0_n vq0_length vq0_where vq0_effort vq0_thrown vq0_at vq0_scaled vq0_solved vq0_second vq0_nm vq0_nn vq0_number vq0_bad vq0_low vq0_dd vq0_r vq0_big) H → va_D A (w_M_solve T q0 q0_a q0_b q0_c q0_rowScale q0_columnScale q0_sa q0_sb q0_sc q0_x q0_s q0_y q0_p q0_d q0_h q0_f q0_mm q0_low q0_dd q0_r q0_big q0_dt q0_dx q0_t q0_cost q0_rowScaleNow q0_columnScaleNow q0_basic q0_text q0_turned q0_na q0_nb q0_nc vq0_m vq0_n vq0_length vq0_where vq0_effort vq0_thrown vq0_at vq0_scaled vq0_solved vq0_second vq0_nm vq0_nn vq0_number vq0_bad vq0_low vq0_dd vq0_r vq0_big) → va_S A s.heap H locs → lv_has ls 3 [(0, .ref q0), (1, .int x1)] → s_M_solve_L73 vq0_m vq0_n vq0_length vq0_where vq0_effort vq0_thrown vq0_at vq0_scaled vq0_solved vq0_second vq0_nm vq0_nn vq0_number vq0_bad vq0_low vq0_dd vq0_r vq0_big x1 = some rm → W p l e (rmk 0 0) s m args below meth c H locs 0 0 Q (F0 m 73 ls []) := by
    intro vq0_big x1 H locs ls hP hD hS hl h
    unfold s_M_solve_L73 at h
    obtain ⟨ul73, hul73, h⟩ := bi_some h
    refine loopO_W (Wh := fun (st : (Nat → UInt64) × Int32) => ∀ (H : Heap) (locs : List Loc) (ls : Array Slot), va_P D CL (w_M_solve T q0 q0_a q0_b q0_c q0_rowScale q0_columnScale q0_sa q0_sb q0_sc q0_x q0_s q0_y q0_p q0_d q0_h q0_f q0_mm q0_low q0_dd q0_r q0_big q0_dt q0_dx q0_t q0_cost q0_rowScaleNow q0_columnScaleNow q0_basic q0_text q0_turned q0_na q0_nb q0_nc vq0_m vq0_n vq0_length vq0_where vq0_effort vq0_thrown vq0_at vq0_scaled vq0_solved vq0_second vq0_nm vq0_nn vq0_number vq0_bad vq0_low vq0_dd vq0_r st.1) H → va_D A (w_M_solve T q0 q0_a q0_b q0_c q0_rowScale q0_columnScale q0_sa q0_sb q0_sc q0_x q0_s q0_y q0_p q0_d q0_h q0_f q0_mm q0_low q0_dd q0_r q0_big q0_dt q0_dx q0_t q0_cost q0_rowScaleNow q0_columnScaleNow q0_basic q0_text q0_turned q0_na q0_nb q0_nc vq0_m vq0_n vq0_length vq0_where vq0_effort vq0_thrown vq0_at vq0_scaled vq0_solved vq0_second vq0_nm vq0_nn vq0_number vq0_bad vq0_low vq0_dd vq0_r st.1) → va_S A s.heap H locs → lv_has ls 3 [(0, .ref q0), (1, .int st.2)] → W p l e (rmk 0 0) s m args below meth c H locs 0 0 Q (F0 m 73 ls [])) (Wx := fun (e1 : (Nat → UInt64)) => ∀ (H : Heap) (locs : List Loc) (ls : Array Slot), va_P D CL (w_M_solve T q0 q0_a q0_b q0_c q0_rowScale q0_columnScale q0_sa q0_sb q0_sc q0_x q0_s q0_y q0_p q0_d q0_h q0_f q0_mm q0_low q0_dd q0_r q0_big q0_dt q0_dx q0_t q0_cost q0_rowScaleNow q0_columnScaleNow q0_basic q0_text q0_turned q0_na q0_nb q0_nc vq0_m vq0_n vq0_length vq0_where vq0_effort vq0_thrown vq0_at vq0_scaled vq0_solved vq0_second vq0_nm vq0_nn vq0_number vq0_bad vq0_low vq0_dd vq0_r e1) H → va_D A (w_M_solve T q0 q0_a q0_b q0_c q0_rowScale q0_columnScale q0_sa q0_sb q0_sc q0_x q0_s q0_y q0_p q0_d q0_h q0_f q0_mm q0_low q0_dd q0_r q0_big q0_dt q0_dx q0_t q0_cost q0_rowScaleNow q0_columnScaleNow q0_basic q0_text q0_turned q0_na q0_nb q0_nc vq0_m vq0_n vq0_length vq0_where vq0_effort vq0_thrown vq0_at vq0_scaled vq0_solved vq0_second vq0_nm vq0_nn vq0_number vq0_bad vq0_low vq0_dd vq0_r e1) → va_S A s.heap H locs → lv_has ls 3 [(0, .ref q0)] → W p l e (rmk 0 0) s m args below meth c H locs 0 0 Q (F0 m 106 ls [])) ?_ 2000 _ ul73 hul73 ?_ H locs ls hP hD hS hl
    · intro st rb73 h kc73 kx73 H locs ls hP hD hS hl
      obtain ⟨vq0_big, x1⟩ := st
      have h : s_M_solve_B73 vq0_m vq0_n vq0_length vq0_where vq0_effort vq0_thrown vq0_at vq0_scaled vq0_solved vq0_second vq0_nm vq0_nn vq0_number vq0_bad vq0_low vq0_dd vq0_r vq0_big x1 = some rb73 := h
      unfold s_M_solve_B73 at h
      refine lv_iload_n hx hb d_M_solve_73 rfl (lv_at hl 1 rfl) ?_
      refine lv_aload_n hx hb d_M_solve_74 rfl (lv_at hl 0 rfl) ?_
      refine va_get (D := D) (ci := 8) (v := .int vq0_m) (C := "ConeForgeModel") (T := FM) (N := 46) hx hb hts iM hown hK hP 0 rfl rfl 29 (by decide) (hts _ (bgc bw713)) (fun _ h9 => h9) rfl d_M_solve_75 ?_
      refine lv_icmp_ge (tgt := 106) hx hb d_M_solve_78 (by decide) (fun c9 => ?_) (fun c9 => ?_)
      · have h := it_t c9 h
        exact kx73 _ (Option.some.inj h).symm H locs ls hP hD hS (lv_sub hl [0] rfl)
      · have h := it_f c9 h
        refine lv_aload_n hx hb d_M_solve_81 rfl (lv_at hl 0 rfl) ?_
        refine va_get (D := D) (ci := 8) (v := .ref q0_big) (C := "ConeForgeModel") (T := FM) (N := 46) hx hb hts iM hown hK hP 0 rfl rfl 19 (by decide) (hts _ (bgc bw703)) (fun _ h9 => h9) rfl d_M_solve_82 ?_
        refine lv_iload_n hx hb d_M_solve_85 rfl (lv_at hl 1 rfl) ?_
        refine lv_aload_n hx hb d_M_solve_86 rfl (lv_at hl 0 rfl) ?_
        refine va_get (D := D) (ci := 8) (v := .ref q0_big) (C := "ConeForgeModel") (T := FM) (N := 46) hx hb hts iM hown hK hP 0 rfl rfl 19 (by decide) (hts _ (bgc bw703)) (fun _ h9 => h9) rfl d_M_solve_87 ?_
        refine lv_iload_n hx hb d_M_solve_90 rfl (lv_at hl 1 rfl) ?_
        obtain ⟨g10, h⟩ := gd_some h
        refine va_dald hx hb hK hP 4 0 rfl rfl (inb_in g10) d_M_solve_91 ?_
        refine lv_aload_n hx hb d_M_solve_92 rfl (lv_at hl 0 rfl) ?_
        refine va_get (D := D) (ci := 8) (v := .ref q0_dd) (C := "ConeForgeModel") (T := FM) (N := 46) hx hb hts iM hown hK hP 0 rfl rfl 17 (by decide) (hts _ (bgc bw701)) (fun _ h9 => h9) rfl d_M_solve_93 ?_
        refine lv_iload_n hx hb d_M_solve_96 rfl (lv_at hl 1 rfl) ?_
        obtain ⟨g11, h⟩ := gd_some h
        refine va_dald hx hb hK hP 2 0 rfl rfl (inb_in g11) d_M_solve_97 ?_
        obtain ⟨g12, h⟩ := gd_some h
        refine lv_ddiv hx hb d_M_solve_98 (isn_n g12) ?_
        obtain ⟨g13, h⟩ := gd_some h
        refine va_dast hx hb hK hP hD hS 4 0 rfl rfl (inb_in g13) d_M_solve_99 (fun H locs hP hD hS => ?_)
        have hP : va_P D CL (w_M_solve T q0 q0_a q0_b q0_c q0_rowScale q0_columnScale q0_sa q0_sb q0_sc q0_x q0_s q0_y q0_p q0_d q0_h q0_f q0_mm q0_low q0_dd q0_r q0_big q0_dt q0_dx q0_t q0_cost q0_rowScaleNow q0_columnScaleNow q0_basic q0_text q0_turned q0_na q0_nb q0_nc vq0_m vq0_n vq0_length vq0_where vq0_effort vq0_thrown vq0_at vq0_scaled vq0_solved vq0_second vq0_nm vq0_nn vq0_number vq0_bad vq0_low vq0_dd vq0_r (vf_upd vq0_big x1.toNatClampNeg (FP.ddiv (vq0_big x1.toNatClampNeg) (vq0_dd x1.toNatClampNeg)))) H := hP
        have hD : va_D A (w_M_solve T q0 q0_a q0_b q0_c q0_rowScale q0_columnScale q0_sa q0_sb q0_sc q0_x q0_s q0_y q0_p q0_d q0_h q0_f q0_mm q0_low q0_dd q0_r q0_big q0_dt q0_dx q0_t q0_cost q0_rowScaleNow q0_columnScaleNow q0_basic q0_text q0_turned q0_na q0_nb q0_nc vq0_m vq0_n vq0_length vq0_where vq0_effort vq0_thrown vq0_at vq0_scaled vq0_solved vq0_second vq0_nm vq0_nn vq0_number vq0_bad vq0_low vq0_dd vq0_r (vf_upd vq0_big x1.toNatClampNeg (FP.ddiv (vq0_big x1.toNatClampNeg) (vq0_dd x1.toNatClampNeg)))) := hD
        refine lv_iinc (v := x1 + 1) (lv' := [(1, .int (x1 + 1)), (0, .ref q0)]) hx hb d_M_solve_100 hl (k := 1) rfl rfl (by decide) rfl (fun ls hl => ?_)
        refine lv_goto (tgt := 73) hx hb d_M_solve_103 (by decide) ?_
        exact kc73 _ (Option.some.inj h).symm H locs ls hP hD hS (lv_sub hl [1, 0] rfl)
    · intro H locs ls hP hD hS hl
      refine lv_aload_n hx hb d_M_solve_106 rfl (lv_at hl 0 rfl) ?_
      refine va_get (D := D) (ci := 8) (v := .int vq0_m) (C := "ConeForgeModel") (T := FM) (N := 46) hx hb hts iM hown hK hP 0 rfl rfl 29 (by decide) (hts _ (bgc bw713)) (fun _ h9 => h9) rfl d_M_solve_107 ?_
      refine lv_iconst (v := 1) hx hb d_M_solve_110 (by decide) ?_
      refine lv_isub hx hb d_M_solve_111 ?_
      refine lv_istore_n (lv' := [(1, .int (vq0_m - 1)), (0, .ref q0)]) hx hb d_M_solve_112 rfl hl (by decide) rfl (fun ls hl => ?_)
      exact L113 ul73 (vq0_m - 1) H locs ls hP hD hS (lv_sub hl [1, 0] rfl) h
  have L2 : ∀ (vq0_big : Nat → UInt64) (x1 : Int32), ∀ (H : Heap) (locs : List Loc) (ls : Array Slot), va_P D CL (w_M_solve T q0 q0_a q0_b q0_c q0_rowScale q0_columnScale q0_sa q0_sb q0_sc q0_x q0_s q0_y q0_p q0_d q0_h q0_f q0_mm q0_low q0_dd q0_r q0_big q0_dt q0_dx q0_t q0_cost q0_rowScaleNow q0_columnScaleNow q0_basic q0_text q0_turned q0_na q0_nb q0_nc vq0_m vq0_n vq0_length vq0_where vq0_effort vq0_thrown vq0_at vq0_scaled vq0_solved vq0_second vq0_nm vq0_nn vq0_number vq0_bad vq0_low vq0_dd vq0_r vq0_big) H → va_D A (w_M_solve T q0 q0_a q0_b q0_c q0_rowScale q0_columnScale q0_sa q0_sb q0_sc q0_x q0_s q0_y q0_p q0_d q0_h q0_f q0_mm q0_low q0_dd q0_r q0_big q0_dt q0_dx q0_t q0_cost q0_rowScaleNow q0_columnScaleNow q0_basic q0_text q0_turned q0_na q0_nb q0_nc vq0_m vq0_n vq0_length vq0_where vq0_effort vq0_thrown vq0_at vq0_scaled vq0_solved vq0_second vq0_nm vq0_nn vq0_number vq0_bad vq0_low vq0_dd vq0_r vq0_big) → va_S A s.heap H locs → lv_has ls 3 [(0, .ref q0), (1, .int x1)] → s_M_solve_L2 vq0_m vq0_n vq0_length vq0_where vq0_effort vq0_thrown vq0_at vq0_scaled vq0_solved vq0_second vq0_nm vq0_nn vq0_number vq0_bad vq0_low vq0_dd vq0_r vq0_big x1 = some rm → W p l e (rmk 0 0) s m args below meth c H locs 0 0 Q (F0 m 2 ls []) := by
    intro vq0_big x1 H locs ls hP hD hS hl h
    unfold s_M_solve_L2 at h
    obtain ⟨ul2, hul2, h⟩ := bi_some h
    refine loopO_W (Wh := fun (st : (Nat → UInt64) × Int32) => ∀ (H : Heap) (locs : List Loc) (ls : Array Slot), va_P D CL (w_M_solve T q0 q0_a q0_b q0_c q0_rowScale q0_columnScale q0_sa q0_sb q0_sc q0_x q0_s q0_y q0_p q0_d q0_h q0_f q0_mm q0_low q0_dd q0_r q0_big q0_dt q0_dx q0_t q0_cost q0_rowScaleNow q0_columnScaleNow q0_basic q0_text q0_turned q0_na q0_nb q0_nc vq0_m vq0_n vq0_length vq0_where vq0_effort vq0_thrown vq0_at vq0_scaled vq0_solved vq0_second vq0_nm vq0_nn vq0_number vq0_bad vq0_low vq0_dd vq0_r st.1) H → va_D A (w_M_solve T q0 q0_a q0_b q0_c q0_rowScale q0_columnScale q0_sa q0_sb q0_sc q0_x q0_s q0_y q0_p q0_d q0_h q0_f q0_mm q0_low q0_dd q0_r q0_big q0_dt q0_dx q0_t q0_cost q0_rowScaleNow q0_columnScaleNow q0_basic q0_text q0_turned q0_na q0_nb q0_nc vq0_m vq0_n vq0_length vq0_where vq0_effort vq0_thrown vq0_at vq0_scaled vq0_solved vq0_second vq0_nm vq0_nn vq0_number vq0_bad vq0_low vq0_dd vq0_r st.1) → va_S A s.heap H locs → lv_has ls 3 [(0, .ref q0), (1, .int st.2)] → W p l e (rmk 0 0) s m args below meth c H locs 0 0 Q (F0 m 2 ls [])) (Wx := fun (e1 : (Nat → UInt64)) => ∀ (H : Heap) (locs : List Loc) (ls : Array Slot), va_P D CL (w_M_solve T q0 q0_a q0_b q0_c q0_rowScale q0_columnScale q0_sa q0_sb q0_sc q0_x q0_s q0_y q0_p q0_d q0_h q0_f q0_mm q0_low q0_dd q0_r q0_big q0_dt q0_dx q0_t q0_cost q0_rowScaleNow q0_columnScaleNow q0_basic q0_text q0_turned q0_na q0_nb q0_nc vq0_m vq0_n vq0_length vq0_where vq0_effort vq0_thrown vq0_at vq0_scaled vq0_solved vq0_second vq0_nm vq0_nn vq0_number vq0_bad vq0_low vq0_dd vq0_r e1) H → va_D A (w_M_solve T q0 q0_a q0_b q0_c q0_rowScale q0_columnScale q0_sa q0_sb q0_sc q0_x q0_s q0_y q0_p q0_d q0_h q0_f q0_mm q0_low q0_dd q0_r q0_big q0_dt q0_dx q0_t q0_cost q0_rowScaleNow q0_columnScaleNow q0_basic q0_text q0_turned q0_na q0_nb q0_nc vq0_m vq0_n vq0_length vq0_where vq0_effort vq0_thrown vq0_at vq0_scaled vq0_solved vq0_second vq0_nm vq0_nn vq0_number vq0_bad vq0_low vq0_dd vq0_r e1) → va_S A s.heap H locs → lv_has ls 3 [(0, .ref q0)] → W p l e (rmk 0 0) s m args below meth c H locs 0 0 Q (F0 m 71 ls [])) ?_ 2000 _ ul2 hul2 ?_ H locs ls hP hD hS hl
    · intro st rb2 h kc2 kx2 H locs ls hP hD hS hl
      obtain ⟨vq0_big, x1⟩ := st
      have h : s_M_solve_B2 vq0_m vq0_n vq0_length vq0_where vq0_effort vq0_thrown vq0_at vq0_scaled vq0_solved vq0_second vq0_nm vq0_nn vq0_number vq0_bad vq0_low vq0_dd vq0_r vq0_big x1 = some rb2 := h
      have L24 : ∀ (vq0_big : Nat → UInt64) (x1 : Int32) (x2 : Int32), ∀ (H : Heap) (locs : List Loc) (ls : Array Slot), va_P D CL (w_M_solve T q0 q0_a q0_b q0_c q0_rowScale q0_columnScale q0_sa q0_sb q0_sc q0_x q0_s q0_y q0_p q0_d q0_h q0_f q0_mm q0_low q0_dd q0_r q0_big q0_dt q0_dx q0_t q0_cost q0_rowScaleNow q0_columnScaleNow q0_basic q0_text q0_turned q0_na q0_nb q0_nc vq0_m vq0_n vq0_length vq0_where vq0_effort vq0_thrown vq0_at vq0_scaled vq0_solved vq0_second vq0_nm vq0_nn vq0_number vq0_bad vq0_low vq0_dd vq0_r vq0_big) H → va_D A (w_M_solve T q0 q0_a q0_b q0_c q0_rowScale q0_columnScale q0_sa q0_sb q0_sc q0_x q0_s q0_y q0_p q0_d q0_h q0_f q0_mm q0_low q0_dd q0_r q0_big q0_dt q0_dx q0_t q0_cost q0_rowScaleNow q0_columnScaleNow q0_basic q0_text q0_turned q0_na q0_nb q0_nc vq0_m vq0_n vq0_length vq0_where vq0_effort vq0_thrown vq0_at vq0_scaled vq0_solved vq0_second vq0_nm vq0_nn vq0_number vq0_bad vq0_low vq0_dd vq0_r vq0_big) → va_S A s.heap H locs → lv_has ls 3 [(0, .ref q0), (1, .int x1), (2, .int x2)] → s_M_solve_L24 vq0_m vq0_n vq0_length vq0_where vq0_effort vq0_thrown vq0_at vq0_scaled vq0_solved vq0_second vq0_nm vq0_nn vq0_number vq0_bad vq0_low vq0_dd vq0_r vq0_big x1 x2 = some rb2 → W p l e (rmk 0 0) s m args below meth c H locs 0 0 Q (F0 m 24 ls []) := by
        intro vq0_big x1 x2 H locs ls hP hD hS hl h
        unfold s_M_solve_L24 at h
        obtain ⟨ul24, hul24, h⟩ := bi_some h
        refine loopO_W (Wh := fun (st : (Nat → UInt64) × Int32) => ∀ (H : Heap) (locs : List Loc) (ls : Array Slot), va_P D CL (w_M_solve T q0 q0_a q0_b q0_c q0_rowScale q0_columnScale q0_sa q0_sb q0_sc q0_x q0_s q0_y q0_p q0_d q0_h q0_f q0_mm q0_low q0_dd q0_r q0_big q0_dt q0_dx q0_t q0_cost q0_rowScaleNow q0_columnScaleNow q0_basic q0_text q0_turned q0_na q0_nb q0_nc vq0_m vq0_n vq0_length vq0_where vq0_effort vq0_thrown vq0_at vq0_scaled vq0_solved vq0_second vq0_nm vq0_nn vq0_number vq0_bad vq0_low vq0_dd vq0_r st.1) H → va_D A (w_M_solve T q0 q0_a q0_b q0_c q0_rowScale q0_columnScale q0_sa q0_sb q0_sc q0_x q0_s q0_y q0_p q0_d q0_h q0_f q0_mm q0_low q0_dd q0_r q0_big q0_dt q0_dx q0_t q0_cost q0_rowScaleNow q0_columnScaleNow q0_basic q0_text q0_turned q0_na q0_nb q0_nc vq0_m vq0_n vq0_length vq0_where vq0_effort vq0_thrown vq0_at vq0_scaled vq0_solved vq0_second vq0_nm vq0_nn vq0_number vq0_bad vq0_low vq0_dd vq0_r st.1) → va_S A s.heap H locs → lv_has ls 3 [(0, .ref q0), (1, .int x1), (2, .int st.2)] → W p l e (rmk 0 0) s m args below meth c H locs 0 0 Q (F0 m 24 ls [])) (Wx := fun (e1 : (Nat → UInt64)) => ∀ (H : Heap) (locs : List Loc) (ls : Array Slot), va_P D CL (w_M_solve T q0 q0_a q0_b q0_c q0_rowScale q0_columnScale q0_sa q0_sb q0_sc q0_x q0_s q0_y q0_p q0_d q0_h q0_f q0_mm q0_low q0_dd q0_r q0_big q0_dt q0_dx q0_t q0_cost q0_rowScaleNow q0_columnScaleNow q0_basic q0_text q0_turned q0_na q0_nb q0_nc vq0_m vq0_n vq0_length vq0_where vq0_effort vq0_thrown vq0_at vq0_scaled vq0_solved vq0_second vq0_nm vq0_nn vq0_number vq0_bad vq0_low vq0_dd vq0_r e1) H → va_D A (w_M_solve T q0 q0_a q0_b q0_c q0_rowScale q0_columnScale q0_sa q0_sb q0_sc q0_x q0_s q0_y q0_p q0_d q0_h q0_f q0_mm q0_low q0_dd q0_r q0_big q0_dt q0_dx q0_t q0_cost q0_rowScaleNow q0_columnScaleNow q0_basic q0_text q0_turned q0_na q0_nb q0_nc vq0_m vq0_n vq0_length vq0_where vq0_effort vq0_thrown vq0_at vq0_scaled vq0_solved vq0_second vq0_nm vq0_nn vq0_number vq0_bad vq0_low vq0_dd vq0_r e1) → va_S A s.heap H locs → lv_has ls 3 [(0, .ref q0), (1, .int x1)] → W p l e (rmk 0 0) s m args below meth c H locs 0 0 Q (F0 m 65 ls [])) ?_ 2000 _ ul24 hul24 ?_ H locs ls hP hD hS hl
        · intro st rb24 h kc24 kx24 H locs ls hP hD hS hl
          obtain ⟨vq0_big, x2⟩ := st
          have h : s_M_solve_B24 vq0_m vq0_n vq0_length vq0_where vq0_effort vq0_thrown vq0_at vq0_scaled vq0_solved vq0_second vq0_nm vq0_nn vq0_number vq0_bad vq0_low vq0_dd vq0_r x1 vq0_big x2 = some rb24 := h
          unfold s_M_solve_B24 at h
          refine lv_iload_n hx hb d_M_solve_24 rfl (lv_at hl 2 rfl) ?_
          refine lv_iload_n hx hb d_M_solve_25 rfl (lv_at hl 1 rfl) ?_
          refine lv_icmp_ge (tgt := 65) hx hb d_M_solve_26 (by decide) (fun c14 => ?_) (fun c14 => ?_)
          · have h := it_t c14 h
            exact kx24 _ (Option.some.inj h).symm H locs ls hP hD hS (lv_sub hl [0, 1] rfl)
          · have h := it_f c14 h
            refine lv_aload_n hx hb d_M_solve_29 rfl (lv_at hl 0 rfl) ?_
            refine va_get (D := D) (ci := 8) (v := .ref q0_big) (C := "ConeForgeModel") (T := FM) (N := 46) hx hb hts iM hown hK hP 0 rfl rfl 19 (by decide) (hts _ (bgc bw703)) (fun _ h9 => h9) rfl d_M_solve_30 ?_
            refine lv_iload_n hx hb d_M_solve_33 rfl (lv_at hl 1 rfl) ?_
            refine lv_aload_n hx hb d_M_solve_34 rfl (lv_at hl 0 rfl) ?_
            refine va_get (D := D) (ci := 8) (v := .ref q0_big) (C := "ConeForgeModel") (T := FM) (N := 46) hx hb hts iM hown hK hP 0 rfl rfl 19 (by decide) (hts _ (bgc bw703)) (fun _ h9 => h9) rfl d_M_solve_35 ?_
            refine lv_iload_n hx hb d_M_solve_38 rfl (lv_at hl 1 rfl) ?_
            obtain ⟨g15, h⟩ := gd_some h
            refine va_dald hx hb hK hP 4 0 rfl rfl (inb_in g15) d_M_solve_39 ?_
            refine lv_aload_n hx hb d_M_solve_40 rfl (lv_at hl 0 rfl) ?_
            refine va_get (D := D) (ci := 8) (v := .ref q0_low) (C := "ConeForgeModel") (T := FM) (N := 46) hx hb hts iM hown hK hP 0 rfl rfl 16 (by decide) (hts _ (bgc bw700)) (fun _ h9 => h9) rfl d_M_solve_41 ?_
            refine lv_iconst (v := 5) hx hb d_M_solve_44 (by decide) ?_
            refine lv_iload_n hx hb d_M_solve_45 rfl (lv_at hl 1 rfl) ?_
            refine lv_imul hx hb d_M_solve_46 ?_
            refine lv_iload_n hx hb d_M_solve_47 rfl (lv_at hl 2 rfl) ?_
            refine lv_iadd hx hb d_M_solve_48 ?_
            obtain ⟨g16, h⟩ := gd_some h
            refine va_dald hx hb hK hP 1 0 rfl rfl (inb_in g16) d_M_solve_49 ?_
            refine lv_aload_n hx hb d_M_solve_50 rfl (lv_at hl 0 rfl) ?_
            refine va_get (D := D) (ci := 8) (v := .ref q0_big) (C := "ConeForgeModel") (T := FM) (N := 46) hx hb hts iM hown hK hP 0 rfl rfl 19 (by decide) (hts _ (bgc bw703)) (fun _ h9 => h9) rfl d_M_solve_51 ?_
            refine lv_iload_n hx hb d_M_solve_54 rfl (lv_at hl 2 rfl) ?_
            obtain ⟨g17, h⟩ := gd_some h
            refine va_dald hx hb hK hP 4 0 rfl rfl (inb_in g17) d_M_solve_55 ?_
            obtain ⟨g18, h⟩ := gd_some h
            refine lv_dmul hx hb d_M_solve_56 (isn_n g18) ?_
            obtain ⟨g19, h⟩ := gd_some h
            refine lv_dsub hx hb d_M_solve_57 (isn_n g19) ?_
            obtain ⟨g20, h⟩ := gd_some h
            refine va_dast hx hb hK hP hD hS 4 0 rfl rfl (inb_in g20) d_M_solve_58 (fun H locs hP hD hS => ?_)
            have hP : va_P D CL (w_M_solve T q0 q0_a q0_b q0_c q0_rowScale q0_columnScale q0_sa q0_sb q0_sc q0_x q0_s q0_y q0_p q0_d q0_h q0_f q0_mm q0_low q0_dd q0_r q0_big q0_dt q0_dx q0_t q0_cost q0_rowScaleNow q0_columnScaleNow q0_basic q0_text q0_turned q0_na q0_nb q0_nc vq0_m vq0_n vq0_length vq0_where vq0_effort vq0_thrown vq0_at vq0_scaled vq0_solved vq0_second vq0_nm vq0_nn vq0_number vq0_bad vq0_low vq0_dd vq0_r (vf_upd vq0_big x1.toNatClampNeg (FP.dsub (vq0_big x1.toNatClampNeg) (FP.dmul (vq0_low ((5 * x1) + x2).toNatClampNeg) (vq0_big x2.toNatClampNeg))))) H := hP
            have hD : va_D A (w_M_solve T q0 q0_a q0_b q0_c q0_rowScale q0_columnScale q0_sa q0_sb q0_sc q0_x q0_s q0_y q0_p q0_d q0_h q0_f q0_mm q0_low q0_dd q0_r q0_big q0_dt q0_dx q0_t q0_cost q0_rowScaleNow q0_columnScaleNow q0_basic q0_text q0_turned q0_na q0_nb q0_nc vq0_m vq0_n vq0_length vq0_where vq0_effort vq0_thrown vq0_at vq0_scaled vq0_solved vq0_second vq0_nm vq0_nn vq0_number vq0_bad vq0_low vq0_dd vq0_r (vf_upd vq0_big x1.toNatClampNeg (FP.dsub (vq0_big x1.toNatClampNeg) (FP.dmul (vq0_low ((5 * x1) + x2).toNatClampNeg) (vq0_big x2.toNatClampNeg))))) := hD
            refine lv_iinc (v := x2 + 1) (lv' := [(2, .int (x2 + 1)), (0, .ref q0), (1, .int x1)]) hx hb d_M_solve_59 hl (k := 2) rfl rfl (by decide) rfl (fun ls hl => ?_)
            refine lv_goto (tgt := 24) hx hb d_M_solve_62 (by decide) ?_
            exact kc24 _ (Option.some.inj h).symm H locs ls hP hD hS (lv_sub hl [1, 2, 0] rfl)
        · intro H locs ls hP hD hS hl
          refine lv_iinc (v := x1 + 1) (lv' := [(1, .int (x1 + 1)), (0, .ref q0)]) hx hb d_M_solve_65 hl (k := 1) rfl rfl (by decide) rfl (fun ls hl => ?_)
          refine lv_goto (tgt := 2) hx hb d_M_solve_68 (by decide) ?_
          exact kc2 _ (Option.some.inj h).symm H locs ls hP hD hS (lv_sub hl [1, 0] rfl)
      unfold s_M_solve_B2 at h
      refine lv_iload_n hx hb d_M_solve_2 rfl (lv_at hl 1 rfl) ?_
      refine lv_aload_n hx hb d_M_solve_3 rfl (lv_at hl 0 rfl) ?_
      refine va_get (D := D) (ci := 8) (v := .int vq0_m) (C := "ConeForgeModel") (T := FM) (N := 46) hx hb hts iM hown hK hP 0 rfl rfl 29 (by decide) (hts _ (bgc bw713)) (fun _ h9 => h9) rfl d_M_solve_4 ?_
      refine lv_icmp_ge (tgt := 71) hx hb d_M_solve_7 (by decide) (fun c21 => ?_) (fun c21 => ?_)
      · have h := it_t c21 h
        exact kx2 _ (Option.some.inj h).symm H locs ls hP hD hS (lv_sub hl [0] rfl)
      · have h := it_f c21 h
        refine lv_aload_n hx hb d_M_solve_10 rfl (lv_at hl 0 rfl) ?_
        refine va_get (D := D) (ci := 8) (v := .ref q0_big) (C := "ConeForgeModel") (T := FM) (N := 46) hx hb hts iM hown hK hP 0 rfl rfl 19 (by decide) (hts _ (bgc bw703)) (fun _ h9 => h9) rfl d_M_solve_11 ?_
        refine lv_iload_n hx hb d_M_solve_14 rfl (lv_at hl 1 rfl) ?_
        refine lv_aload_n hx hb d_M_solve_15 rfl (lv_at hl 0 rfl) ?_
        refine va_get (D := D) (ci := 8) (v := .ref q0_r) (C := "ConeForgeModel") (T := FM) (N := 46) hx hb hts iM hown hK hP 0 rfl rfl 18 (by decide) (hts _ (bgc bw702)) (fun _ h9 => h9) rfl d_M_solve_16 ?_
        refine lv_iload_n hx hb d_M_solve_19 rfl (lv_at hl 1 rfl) ?_
        obtain ⟨g22, h⟩ := gd_some h
        refine va_dald hx hb hK hP 3 0 rfl rfl (inb_in g22) d_M_solve_20 ?_
        obtain ⟨g23, h⟩ := gd_some h
        refine va_dast hx hb hK hP hD hS 4 0 rfl rfl (inb_in g23) d_M_solve_21 (fun H locs hP hD hS => ?_)
        have hP : va_P D CL (w_M_solve T q0 q0_a q0_b q0_c q0_rowScale q0_columnScale q0_sa q0_sb q0_sc q0_x q0_s q0_y q0_p q0_d q0_h q0_f q0_mm q0_low q0_dd q0_r q0_big q0_dt q0_dx q0_t q0_cost q0_rowScaleNow q0_columnScaleNow q0_basic q0_text q0_turned q0_na q0_nb q0_nc vq0_m vq0_n vq0_length vq0_where vq0_effort vq0_thrown vq0_at vq0_scaled vq0_solved vq0_second vq0_nm vq0_nn vq0_number vq0_bad vq0_low vq0_dd vq0_r (vf_upd vq0_big x1.toNatClampNeg (vq0_r x1.toNatClampNeg))) H := hP
        have hD : va_D A (w_M_solve T q0 q0_a q0_b q0_c q0_rowScale q0_columnScale q0_sa q0_sb q0_sc q0_x q0_s q0_y q0_p q0_d q0_h q0_f q0_mm q0_low q0_dd q0_r q0_big q0_dt q0_dx q0_t q0_cost q0_rowScaleNow q0_columnScaleNow q0_basic q0_text q0_turned q0_na q0_nb q0_nc vq0_m vq0_n vq0_length vq0_where vq0_effort vq0_thrown vq0_at vq0_scaled vq0_solved vq0_second vq0_nm vq0_nn vq0_number vq0_bad vq0_low vq0_dd vq0_r (vf_upd vq0_big x1.toNatClampNeg (vq0_r x1.toNatClampNeg))) := hD
        refine lv_iconst (v := 0) hx hb d_M_solve_22 (by decide) ?_
        refine lv_istore_n (lv' := [(2, .int 0), (0, .ref q0), (1, .int x1)]) hx hb d_M_solve_23 rfl hl (by decide) rfl (fun ls hl => ?_)
        exact L24 (vf_upd vq0_big x1.toNatClampNeg (vq0_r x1.toNatClampNeg)) x1 0 H locs ls hP hD hS (lv_sub hl [1, 2, 0] rfl) h
    · intro H locs ls hP hD hS hl
      refine lv_iconst (v := 0) hx hb d_M_solve_71 (by decide) ?_
      refine lv_istore_n (lv' := [(1, .int 0), (0, .ref q0)]) hx hb d_M_solve_72 rfl hl (by decide) rfl (fun ls hl => ?_)
      exact L73 ul2 0 H locs ls hP hD hS (lv_sub hl [1, 0] rfl) h
  unfold s_M_solve at h
  refine lv_iconst (v := 0) hx hb d_M_solve_0 (by decide) ?_
  refine lv_istore_n (lv' := [(1, .int 0), (0, .ref q0)]) hx hb d_M_solve_1 rfl hl (by decide) rfl (fun ls hl => ?_)
  exact L2 vq0_big 0 H locs ls hP hD hS (lv_sub hl [1, 0] rfl) h
theorem d_M_prepare_0 : decode prog_10_method_27_code 0 = .ok (.iconst 0, 1) := by decide +kernel
theorem d_M_prepare_1 : decode prog_10_method_27_code 1 = .ok (.istore_n 3, 1) := by decide +kernel
theorem d_M_prepare_2 : decode prog_10_method_27_code 2 = .ok (.iload_n 3, 1) := by decide +kernel
theorem d_M_prepare_3 : decode prog_10_method_27_code 3 = .ok (.aload_n 0, 1) := by decide +kernel
theorem d_M_prepare_4 : decode prog_10_method_27_code 4 = .ok (.getfield 103, 3) := by decide +kernel
theorem d_M_prepare_7 : decode prog_10_method_27_code 7 = .ok (.if_icmp .ge 63, 3) := by decide +kernel
theorem d_M_prepare_10 : decode prog_10_method_27_code 10 = .ok (.aload_n 0, 1) := by decide +kernel
theorem d_M_prepare_11 : decode prog_10_method_27_code 11 = .ok (.getfield 49, 3) := by decide +kernel
theorem d_M_prepare_14 : decode prog_10_method_27_code 14 = .ok (.iload_n 3, 1) := by decide +kernel
theorem d_M_prepare_15 : decode prog_10_method_27_code 15 = .ok (.aload_n 0, 1) := by decide +kernel
theorem d_M_prepare_16 : decode prog_10_method_27_code 16 = .ok (.getfield 34, 3) := by decide +kernel
theorem d_M_prepare_19 : decode prog_10_method_27_code 19 = .ok (.iload_n 3, 1) := by decide +kernel
theorem d_M_prepare_20 : decode prog_10_method_27_code 20 = .ok (.daload, 1) := by decide +kernel
theorem d_M_prepare_21 : decode prog_10_method_27_code 21 = .ok (.aload_n 0, 1) := by decide +kernel
theorem d_M_prepare_22 : decode prog_10_method_27_code 22 = .ok (.getfield 37, 3) := by decide +kernel
theorem d_M_prepare_25 : decode prog_10_method_27_code 25 = .ok (.iload_n 3, 1) := by decide +kernel
theorem d_M_prepare_26 : decode prog_10_method_27_code 26 = .ok (.daload, 1) := by decide +kernel
theorem d_M_prepare_27 : decode prog_10_method_27_code 27 = .ok (.ddiv, 1) := by decide +kernel
theorem d_M_prepare_28 : decode prog_10_method_27_code 28 = .ok (.dastore, 1) := by decide +kernel
theorem d_M_prepare_29 : decode prog_10_method_27_code 29 = .ok (.aload_n 0, 1) := by decide +kernel
theorem d_M_prepare_30 : decode prog_10_method_27_code 30 = .ok (.getfield 52, 3) := by decide +kernel
theorem d_M_prepare_33 : decode prog_10_method_27_code 33 = .ok (.iload_n 3, 1) := by decide +kernel
theorem d_M_prepare_34 : decode prog_10_method_27_code 34 = .ok (.aload_n 0, 1) := by decide +kernel
theorem d_M_prepare_35 : decode prog_10_method_27_code 35 = .ok (.getfield 34, 3) := by decide +kernel
theorem d_M_prepare_38 : decode prog_10_method_27_code 38 = .ok (.iload_n 3, 1) := by decide +kernel
theorem d_M_prepare_39 : decode prog_10_method_27_code 39 = .ok (.daload, 1) := by decide +kernel
theorem d_M_prepare_40 : decode prog_10_method_27_code 40 = .ok (.dload_n 1, 1) := by decide +kernel
theorem d_M_prepare_41 : decode prog_10_method_27_code 41 = .ok (.aload_n 0, 1) := by decide +kernel
theorem d_M_prepare_42 : decode prog_10_method_27_code 42 = .ok (.getfield 37, 3) := by decide +kernel
theorem d_M_prepare_45 : decode prog_10_method_27_code 45 = .ok (.iload_n 3, 1) := by decide +kernel
theorem d_M_prepare_46 : decode prog_10_method_27_code 46 = .ok (.daload, 1) := by decide +kernel
theorem d_M_prepare_47 : decode prog_10_method_27_code 47 = .ok (.ddiv, 1) := by decide +kernel
theorem d_M_prepare_48 : decode prog_10_method_27_code 48 = .ok (.dsub, 1) := by decide +kernel
theorem d_M_prepare_49 : decode prog_10_method_27_code 49 = .ok (.aload_n 0, 1) := by decide +kernel
theorem d_M_prepare_50 : decode prog_10_method_27_code 50 = .ok (.getfield 49, 3) := by decide +kernel
theorem d_M_prepare_53 : decode prog_10_method_27_code 53 = .ok (.iload_n 3, 1) := by decide +kernel
theorem d_M_prepare_54 : decode prog_10_method_27_code 54 = .ok (.daload, 1) := by decide +kernel
theorem d_M_prepare_55 : decode prog_10_method_27_code 55 = .ok (.aload_n 0, 1) := by decide +kernel
theorem d_M_prepare_56 : decode prog_10_method_27_code 56 = .ok (.getfield 46, 3) := by decide +kernel
theorem d_M_prepare_59 : decode prog_10_method_27_code 59 = .ok (.iload_n 3, 1) := by decide +kernel
theorem d_M_prepare_60 : decode prog_10_method_27_code 60 = .ok (.daload, 1) := by decide +kernel
theorem d_M_prepare_61 : decode prog_10_method_27_code 61 = .ok (.dmul, 1) := by decide +kernel
theorem d_M_prepare_62 : decode prog_10_method_27_code 62 = .ok (.dadd, 1) := by decide +kernel
theorem d_M_prepare_63 : decode prog_10_method_27_code 63 = .ok (.dastore, 1) := by decide +kernel
theorem d_M_prepare_64 : decode prog_10_method_27_code 64 = .ok (.iinc 3 1, 3) := by decide +kernel
theorem d_M_prepare_67 : decode prog_10_method_27_code 67 = .ok (.goto (-65), 3) := by decide +kernel
theorem d_M_prepare_70 : decode prog_10_method_27_code 70 = .ok (.iconst 0, 1) := by decide +kernel
theorem d_M_prepare_71 : decode prog_10_method_27_code 71 = .ok (.istore_n 3, 1) := by decide +kernel
theorem d_M_prepare_72 : decode prog_10_method_27_code 72 = .ok (.iload_n 3, 1) := by decide +kernel
theorem d_M_prepare_73 : decode prog_10_method_27_code 73 = .ok (.aload_n 0, 1) := by decide +kernel
theorem d_M_prepare_74 : decode prog_10_method_27_code 74 = .ok (.getfield 99, 3) := by decide +kernel
theorem d_M_prepare_77 : decode prog_10_method_27_code 77 = .ok (.if_icmp .ge 160, 3) := by decide +kernel
theorem d_M_prepare_80 : decode prog_10_method_27_code 80 = .ok (.iconst 0, 1) := by decide +kernel
theorem d_M_prepare_81 : decode prog_10_method_27_code 81 = .ok (.istore 4, 2) := by decide +kernel
theorem d_M_prepare_83 : decode prog_10_method_27_code 83 = .ok (.iload 4, 2) := by decide +kernel
theorem d_M_prepare_85 : decode prog_10_method_27_code 85 = .ok (.iload_n 3, 1) := by decide +kernel
theorem d_M_prepare_86 : decode prog_10_method_27_code 86 = .ok (.if_icmp .gt 82, 3) := by decide +kernel
theorem d_M_prepare_89 : decode prog_10_method_27_code 89 = .ok (.dconst 0, 1) := by decide +kernel
theorem d_M_prepare_90 : decode prog_10_method_27_code 90 = .ok (.dstore 5, 2) := by decide +kernel
theorem d_M_prepare_92 : decode prog_10_method_27_code 92 = .ok (.iconst 0, 1) := by decide +kernel
theorem d_M_prepare_93 : decode prog_10_method_27_code 93 = .ok (.istore 7, 2) := by decide +kernel
theorem d_M_prepare_95 : decode prog_10_method_27_code 95 = .ok (.iload 7, 2) := by decide +kernel
theorem d_M_prepare_97 : decode prog_10_method_27_code 97 = .ok (.aload_n 0, 1) := by decide +kernel
theorem d_M_prepare_98 : decode prog_10_method_27_code 98 = .ok (.getfield 103, 3) := by decide +kernel
theorem d_M_prepare_101 : decode prog_10_method_27_code 101 = .ok (.if_icmp .ge 48, 3) := by decide +kernel
theorem d_M_prepare_104 : decode prog_10_method_27_code 104 = .ok (.dload 5, 2) := by decide +kernel
theorem d_M_prepare_106 : decode prog_10_method_27_code 106 = .ok (.aload_n 0, 1) := by decide +kernel
theorem d_M_prepare_107 : decode prog_10_method_27_code 107 = .ok (.getfield 25, 3) := by decide +kernel
theorem d_M_prepare_110 : decode prog_10_method_27_code 110 = .ok (.bipush 8, 2) := by decide +kernel
theorem d_M_prepare_112 : decode prog_10_method_27_code 112 = .ok (.iload_n 3, 1) := by decide +kernel
theorem d_M_prepare_113 : decode prog_10_method_27_code 113 = .ok (.imul, 1) := by decide +kernel
theorem d_M_prepare_114 : decode prog_10_method_27_code 114 = .ok (.iload 7, 2) := by decide +kernel
theorem d_M_prepare_116 : decode prog_10_method_27_code 116 = .ok (.iadd, 1) := by decide +kernel
theorem d_M_prepare_117 : decode prog_10_method_27_code 117 = .ok (.daload, 1) := by decide +kernel
theorem d_M_prepare_118 : decode prog_10_method_27_code 118 = .ok (.aload_n 0, 1) := by decide +kernel
theorem d_M_prepare_119 : decode prog_10_method_27_code 119 = .ok (.getfield 49, 3) := by decide +kernel
theorem d_M_prepare_122 : decode prog_10_method_27_code 122 = .ok (.iload 7, 2) := by decide +kernel
theorem d_M_prepare_124 : decode prog_10_method_27_code 124 = .ok (.daload, 1) := by decide +kernel
theorem d_M_prepare_125 : decode prog_10_method_27_code 125 = .ok (.dmul, 1) := by decide +kernel
theorem d_M_prepare_126 : decode prog_10_method_27_code 126 = .ok (.aload_n 0, 1) := by decide +kernel
theorem d_M_prepare_127 : decode prog_10_method_27_code 127 = .ok (.getfield 25, 3) := by decide +kernel
theorem d_M_prepare_130 : decode prog_10_method_27_code 130 = .ok (.bipush 8, 2) := by decide +kernel
theorem d_M_prepare_132 : decode prog_10_method_27_code 132 = .ok (.iload 4, 2) := by decide +kernel
theorem d_M_prepare_134 : decode prog_10_method_27_code 134 = .ok (.imul, 1) := by decide +kernel
theorem d_M_prepare_135 : decode prog_10_method_27_code 135 = .ok (.iload 7, 2) := by decide +kernel
theorem d_M_prepare_137 : decode prog_10_method_27_code 137 = .ok (.iadd, 1) := by decide +kernel
theorem d_M_prepare_138 : decode prog_10_method_27_code 138 = .ok (.daload, 1) := by decide +kernel
theorem d_M_prepare_139 : decode prog_10_method_27_code 139 = .ok (.dmul, 1) := by decide +kernel
theorem d_M_prepare_140 : decode prog_10_method_27_code 140 = .ok (.dadd, 1) := by decide +kernel
theorem d_M_prepare_141 : decode prog_10_method_27_code 141 = .ok (.dstore 5, 2) := by decide +kernel
theorem d_M_prepare_143 : decode prog_10_method_27_code 143 = .ok (.iinc 7 1, 3) := by decide +kernel
theorem d_M_prepare_146 : decode prog_10_method_27_code 146 = .ok (.goto (-51), 3) := by decide +kernel
theorem d_M_prepare_149 : decode prog_10_method_27_code 149 = .ok (.aload_n 0, 1) := by decide +kernel
theorem d_M_prepare_150 : decode prog_10_method_27_code 150 = .ok (.getfield 55, 3) := by decide +kernel
theorem d_M_prepare_153 : decode prog_10_method_27_code 153 = .ok (.iconst 5, 1) := by decide +kernel
theorem d_M_prepare_154 : decode prog_10_method_27_code 154 = .ok (.iload_n 3, 1) := by decide +kernel
theorem d_M_prepare_155 : decode prog_10_method_27_code 155 = .ok (.imul, 1) := by decide +kernel
theorem d_M_prepare_156 : decode prog_10_method_27_code 156 = .ok (.iload 4, 2) := by decide +kernel
theorem d_M_prepare_158 : decode prog_10_method_27_code 158 = .ok (.iadd, 1) := by decide +kernel
theorem d_M_prepare_159 : decode prog_10_method_27_code 159 = .ok (.dload 5, 2) := by decide +kernel
theorem d_M_prepare_161 : decode prog_10_method_27_code 161 = .ok (.dastore, 1) := by decide +kernel
theorem d_M_prepare_162 : decode prog_10_method_27_code 162 = .ok (.iinc 4 1, 3) := by decide +kernel
theorem d_M_prepare_165 : decode prog_10_method_27_code 165 = .ok (.goto (-82), 3) := by decide +kernel
theorem d_M_prepare_168 : decode prog_10_method_27_code 168 = .ok (.aload_n 0, 1) := by decide +kernel
theorem d_M_prepare_169 : decode prog_10_method_27_code 169 = .ok (.getfield 64, 3) := by decide +kernel
theorem d_M_prepare_172 : decode prog_10_method_27_code 172 = .ok (.iload_n 3, 1) := by decide +kernel
theorem d_M_prepare_173 : decode prog_10_method_27_code 173 = .ok (.aload_n 0, 1) := by decide +kernel
theorem d_M_prepare_174 : decode prog_10_method_27_code 174 = .ok (.getfield 43, 3) := by decide +kernel
theorem d_M_prepare_177 : decode prog_10_method_27_code 177 = .ok (.iload_n 3, 1) := by decide +kernel
theorem d_M_prepare_178 : decode prog_10_method_27_code 178 = .ok (.daload, 1) := by decide +kernel
theorem d_M_prepare_179 : decode prog_10_method_27_code 179 = .ok (.dastore, 1) := by decide +kernel
theorem d_M_prepare_180 : decode prog_10_method_27_code 180 = .ok (.iconst 0, 1) := by decide +kernel
theorem d_M_prepare_181 : decode prog_10_method_27_code 181 = .ok (.istore 4, 2) := by decide +kernel
theorem d_M_prepare_183 : decode prog_10_method_27_code 183 = .ok (.iload 4, 2) := by decide +kernel
theorem d_M_prepare_185 : decode prog_10_method_27_code 185 = .ok (.aload_n 0, 1) := by decide +kernel
theorem d_M_prepare_186 : decode prog_10_method_27_code 186 = .ok (.getfield 103, 3) := by decide +kernel
theorem d_M_prepare_189 : decode prog_10_method_27_code 189 = .ok (.if_icmp .ge 42, 3) := by decide +kernel
theorem d_M_prepare_192 : decode prog_10_method_27_code 192 = .ok (.aload_n 0, 1) := by decide +kernel
theorem d_M_prepare_193 : decode prog_10_method_27_code 193 = .ok (.getfield 64, 3) := by decide +kernel
theorem d_M_prepare_196 : decode prog_10_method_27_code 196 = .ok (.iload_n 3, 1) := by decide +kernel
theorem d_M_prepare_197 : decode prog_10_method_27_code 197 = .ok (.aload_n 0, 1) := by decide +kernel
theorem d_M_prepare_198 : decode prog_10_method_27_code 198 = .ok (.getfield 64, 3) := by decide +kernel
theorem d_M_prepare_201 : decode prog_10_method_27_code 201 = .ok (.iload_n 3, 1) := by decide +kernel
theorem d_M_prepare_202 : decode prog_10_method_27_code 202 = .ok (.daload, 1) := by decide +kernel
theorem d_M_prepare_203 : decode prog_10_method_27_code 203 = .ok (.aload_n 0, 1) := by decide +kernel
theorem d_M_prepare_204 : decode prog_10_method_27_code 204 = .ok (.getfield 25, 3) := by decide +kernel
theorem d_M_prepare_207 : decode prog_10_method_27_code 207 = .ok (.bipush 8, 2) := by decide +kernel
theorem d_M_prepare_209 : decode prog_10_method_27_code 209 = .ok (.iload_n 3, 1) := by decide +kernel
theorem d_M_prepare_210 : decode prog_10_method_27_code 210 = .ok (.imul, 1) := by decide +kernel
theorem d_M_prepare_211 : decode prog_10_method_27_code 211 = .ok (.iload 4, 2) := by decide +kernel
theorem d_M_prepare_213 : decode prog_10_method_27_code 213 = .ok (.iadd, 1) := by decide +kernel
theorem d_M_prepare_214 : decode prog_10_method_27_code 214 = .ok (.daload, 1) := by decide +kernel
theorem d_M_prepare_215 : decode prog_10_method_27_code 215 = .ok (.aload_n 0, 1) := by decide +kernel
theorem d_M_prepare_216 : decode prog_10_method_27_code 216 = .ok (.getfield 52, 3) := by decide +kernel
theorem d_M_prepare_219 : decode prog_10_method_27_code 219 = .ok (.iload 4, 2) := by decide +kernel
theorem d_M_prepare_221 : decode prog_10_method_27_code 221 = .ok (.daload, 1) := by decide +kernel
theorem d_M_prepare_222 : decode prog_10_method_27_code 222 = .ok (.dmul, 1) := by decide +kernel
theorem d_M_prepare_223 : decode prog_10_method_27_code 223 = .ok (.dadd, 1) := by decide +kernel
theorem d_M_prepare_224 : decode prog_10_method_27_code 224 = .ok (.dastore, 1) := by decide +kernel
theorem d_M_prepare_225 : decode prog_10_method_27_code 225 = .ok (.iinc 4 1, 3) := by decide +kernel
theorem d_M_prepare_228 : decode prog_10_method_27_code 228 = .ok (.goto (-45), 3) := by decide +kernel
theorem d_M_prepare_231 : decode prog_10_method_27_code 231 = .ok (.iinc 3 1, 3) := by decide +kernel
theorem d_M_prepare_234 : decode prog_10_method_27_code 234 = .ok (.goto (-162), 3) := by decide +kernel
theorem d_M_prepare_237 : decode prog_10_method_27_code 237 = .ok (.return_, 1) := by decide +kernel
abbrev w_M_prepare (T : Nat → ClassId) (q0 : Nat) (q0_a : Nat) (q0_b : Nat) (q0_c : Nat) (q0_rowScale : Nat) (q0_columnScale : Nat) (q0_sa : Nat) (q0_sb : Nat) (q0_sc : Nat) (q0_x : Nat) (q0_s : Nat) (q0_y : Nat) (q0_p : Nat) (q0_d : Nat) (q0_h : Nat) (q0_f : Nat) (q0_mm : Nat) (q0_low : Nat) (q0_dd : Nat) (q0_r : Nat) (q0_big : Nat) (q0_dt : Nat) (q0_dx : Nat) (q0_t : Nat) (q0_cost : Nat) (q0_rowScaleNow : Nat) (q0_columnScaleNow : Nat) (q0_basic : Nat) (q0_text : Nat) (q0_turned : Nat) (q0_na : Nat) (q0_nb : Nat) (q0_nc : Nat) (vq0_m : Int32) (vq0_n : Int32) (vq0_length : Int32) (vq0_where : Int32) (vq0_effort : Int32) (vq0_thrown : Int32) (vq0_at : Int32) (vq0_scaled : Int32) (vq0_solved : Int32) (vq0_second : Int32) (vq0_nm : Int32) (vq0_nn : Int32) (vq0_number : UInt64) (vq0_bad : Int32) (vq0_sa : Nat → UInt64) (vq0_x : Nat → UInt64) (vq0_s : Nat → UInt64) (vq0_p : Nat → UInt64) (vq0_d : Nat → UInt64) (vq0_h : Nat → UInt64) (vq0_f : Nat → UInt64) (vq0_mm : Nat → UInt64) (vq0_r : Nat → UInt64) : va_W := [(q0, .inr (8, [.ref q0_a, .ref q0_b, .ref q0_c, .ref q0_rowScale, .ref q0_columnScale, .ref q0_sa, .ref q0_sb, .ref q0_sc, .ref q0_x, .ref q0_s, .ref q0_y, .ref q0_p, .ref q0_d, .ref q0_h, .ref q0_f, .ref q0_mm, .ref q0_low, .ref q0_dd, .ref q0_r, .ref q0_big, .ref q0_dt, .ref q0_dx, .ref q0_t, .ref q0_cost, .ref q0_rowScaleNow, .ref q0_columnScaleNow, .ref q0_basic, .ref q0_text, .ref q0_turned, .int vq0_m, .int vq0_n, .int vq0_length, .int vq0_where, .int vq0_effort, .int vq0_thrown, .int vq0_at, .int vq0_scaled, .int vq0_solved, .int vq0_second, .ref q0_na, .ref q0_nb, .ref q0_nc, .int vq0_nm, .int vq0_nn, .double vq0_number, .int vq0_bad])), (q0_sa, .inl (T 0, 40, .inr (.inr (.inr (.inl vq0_sa))))), (q0_x, .inl (T 0, 8, .inr (.inr (.inr (.inl vq0_x))))), (q0_s, .inl (T 0, 8, .inr (.inr (.inr (.inl vq0_s))))), (q0_p, .inl (T 0, 5, .inr (.inr (.inr (.inl vq0_p))))), (q0_d, .inl (T 0, 8, .inr (.inr (.inr (.inl vq0_d))))), (q0_h, .inl (T 0, 8, .inr (.inr (.inr (.inl vq0_h))))), (q0_f, .inl (T 0, 8, .inr (.inr (.inr (.inl vq0_f))))), (q0_mm, .inl (T 0, 25, .inr (.inr (.inr (.inl vq0_mm))))), (q0_r, .inl (T 0, 5, .inr (.inr (.inr (.inl vq0_r)))))]
def s_M_prepare_B183 (vq0_m : Int32) (vq0_n : Int32) (vq0_length : Int32) (vq0_where : Int32) (vq0_effort : Int32) (vq0_thrown : Int32) (vq0_at : Int32) (vq0_scaled : Int32) (vq0_solved : Int32) (vq0_second : Int32) (vq0_nm : Int32) (vq0_nn : Int32) (vq0_number : UInt64) (vq0_bad : Int32) (vq0_sa : Nat → UInt64) (vq0_x : Nat → UInt64) (vq0_s : Nat → UInt64) (vq0_p : Nat → UInt64) (vq0_d : Nat → UInt64) (vq0_h : Nat → UInt64) (vq0_f : Nat → UInt64) (vq0_mm : Nat → UInt64) (x3 : Int32) (vq0_r : Nat → UInt64) (x4 : Int32) : Option (((Nat → UInt64) × Int32) ⊕ ((Nat → UInt64))) :=
  if vq0_n ≤ x4 then (some (.inr vq0_r)) else (gd (inb x3 5) <| gd (inb ((8 * x3) + x4) 40) <| gd (inb x4 8) <| gd (isn (FP.dmul (vq0_sa ((8 * x3) + x4).toNatClampNeg) (vq0_f x4.toNatClampNeg))) <| gd (isn (FP.dadd (vq0_r x3.toNatClampNeg) (FP.dmul (vq0_sa ((8 * x3) + x4).toNatClampNeg) (vq0_f x4.toNatClampNeg)))) <| gd (inb x3 5) <| some (.inl (vf_upd vq0_r x3.toNatClampNeg (FP.dadd (vq0_r x3.toNatClampNeg) (FP.dmul (vq0_sa ((8 * x3) + x4).toNatClampNeg) (vq0_f x4.toNatClampNeg))), x4 + 1)))
def s_M_prepare_L183 (vq0_m : Int32) (vq0_n : Int32) (vq0_length : Int32) (vq0_where : Int32) (vq0_effort : Int32) (vq0_thrown : Int32) (vq0_at : Int32) (vq0_scaled : Int32) (vq0_solved : Int32) (vq0_second : Int32) (vq0_nm : Int32) (vq0_nn : Int32) (vq0_number : UInt64) (vq0_bad : Int32) (vq0_sa : Nat → UInt64) (vq0_x : Nat → UInt64) (vq0_s : Nat → UInt64) (vq0_p : Nat → UInt64) (vq0_d : Nat → UInt64) (vq0_h : Nat → UInt64) (vq0_f : Nat → UInt64) (vq0_mm : Nat → UInt64) (vq0_r : Nat → UInt64) (x3 : Int32) (x4 : Int32) : Option (((Nat → UInt64) × (Nat → UInt64) × Int32) ⊕ ((Nat → UInt64) × (Nat → UInt64))) :=
  (loopO (fun (st : (Nat → UInt64) × Int32) => s_M_prepare_B183 vq0_m vq0_n vq0_length vq0_where vq0_effort vq0_thrown vq0_at vq0_scaled vq0_solved vq0_second vq0_nm vq0_nn vq0_number vq0_bad vq0_sa vq0_x vq0_s vq0_p vq0_d vq0_h vq0_f vq0_mm x3 st.1 st.2) 2000 (vq0_r, x4)).bind fun ul183 => some (.inl (vq0_mm, ul183, x3 + 1))
def s_M_prepare_B95 (vq0_m : Int32) (vq0_n : Int32) (vq0_length : Int32) (vq0_where : Int32) (vq0_effort : Int32) (vq0_thrown : Int32) (vq0_at : Int32) (vq0_scaled : Int32) (vq0_solved : Int32) (vq0_second : Int32) (vq0_nm : Int32) (vq0_nn : Int32) (vq0_number : UInt64) (vq0_bad : Int32) (vq0_sa : Nat → UInt64) (vq0_x : Nat → UInt64) (vq0_s : Nat → UInt64) (vq0_p : Nat → UInt64) (vq0_d : Nat → UInt64) (vq0_h : Nat → UInt64) (vq0_f : Nat → UInt64) (vq0_mm : Nat → UInt64) (vq0_r : Nat → UInt64) (x3 : Int32) (x4 : Int32) (x5 : UInt64) (x7 : Int32) : Option ((UInt64 × Int32) ⊕ (UInt64)) :=
  if vq0_n ≤ x7 then (some (.inr x5)) else (gd (inb ((8 * x3) + x7) 40) <| gd (inb x7 8) <| gd (isn (FP.dmul (vq0_sa ((8 * x3) + x7).toNatClampNeg) (vq0_h x7.toNatClampNeg))) <| gd (inb ((8 * x4) + x7) 40) <| gd (isn (FP.dmul (FP.dmul (vq0_sa ((8 * x3) + x7).toNatClampNeg) (vq0_h x7.toNatClampNeg)) (vq0_sa ((8 * x4) + x7).toNatClampNeg))) <| gd (isn (FP.dadd x5 (FP.dmul (FP.dmul (vq0_sa ((8 * x3) + x7).toNatClampNeg) (vq0_h x7.toNatClampNeg)) (vq0_sa ((8 * x4) + x7).toNatClampNeg)))) <| some (.inl (FP.dadd x5 (FP.dmul (FP.dmul (vq0_sa ((8 * x3) + x7).toNatClampNeg) (vq0_h x7.toNatClampNeg)) (vq0_sa ((8 * x4) + x7).toNatClampNeg)), x7 + 1)))
def s_M_prepare_L95 (vq0_m : Int32) (vq0_n : Int32) (vq0_length : Int32) (vq0_where : Int32) (vq0_effort : Int32) (vq0_thrown : Int32) (vq0_at : Int32) (vq0_scaled : Int32) (vq0_solved : Int32) (vq0_second : Int32) (vq0_nm : Int32) (vq0_nn : Int32) (vq0_number : UInt64) (vq0_bad : Int32) (vq0_sa : Nat → UInt64) (vq0_x : Nat → UInt64) (vq0_s : Nat → UInt64) (vq0_p : Nat → UInt64) (vq0_d : Nat → UInt64) (vq0_h : Nat → UInt64) (vq0_f : Nat → UInt64) (vq0_mm : Nat → UInt64) (vq0_r : Nat → UInt64) (x3 : Int32) (x4 : Int32) (x5 : UInt64) (x7 : Int32) : Option (((Nat → UInt64) × Int32) ⊕ ((Nat → UInt64))) :=
  (loopO (fun (st : UInt64 × Int32) => s_M_prepare_B95 vq0_m vq0_n vq0_length vq0_where vq0_effort vq0_thrown vq0_at vq0_scaled vq0_solved vq0_second vq0_nm vq0_nn vq0_number vq0_bad vq0_sa vq0_x vq0_s vq0_p vq0_d vq0_h vq0_f vq0_mm vq0_r x3 x4 st.1 st.2) 2000 (x5, x7)).bind fun ul95 => gd (inb ((5 * x3) + x4) 25) <| some (.inl (vf_upd vq0_mm ((5 * x3) + x4).toNatClampNeg ul95, x4 + 1))
def s_M_prepare_B83 (vq0_m : Int32) (vq0_n : Int32) (vq0_length : Int32) (vq0_where : Int32) (vq0_effort : Int32) (vq0_thrown : Int32) (vq0_at : Int32) (vq0_scaled : Int32) (vq0_solved : Int32) (vq0_second : Int32) (vq0_nm : Int32) (vq0_nn : Int32) (vq0_number : UInt64) (vq0_bad : Int32) (vq0_sa : Nat → UInt64) (vq0_x : Nat → UInt64) (vq0_s : Nat → UInt64) (vq0_p : Nat → UInt64) (vq0_d : Nat → UInt64) (vq0_h : Nat → UInt64) (vq0_f : Nat → UInt64) (vq0_r : Nat → UInt64) (x3 : Int32) (vq0_mm : Nat → UInt64) (x4 : Int32) : Option (((Nat → UInt64) × Int32) ⊕ ((Nat → UInt64))) :=
  if x3 < x4 then (some (.inr vq0_mm)) else (s_M_prepare_L95 vq0_m vq0_n vq0_length vq0_where vq0_effort vq0_thrown vq0_at vq0_scaled vq0_solved vq0_second vq0_nm vq0_nn vq0_number vq0_bad vq0_sa vq0_x vq0_s vq0_p vq0_d vq0_h vq0_f vq0_mm vq0_r x3 x4 FP.dconst0 0)
def s_M_prepare_L83 (vq0_m : Int32) (vq0_n : Int32) (vq0_length : Int32) (vq0_where : Int32) (vq0_effort : Int32) (vq0_thrown : Int32) (vq0_at : Int32) (vq0_scaled : Int32) (vq0_solved : Int32) (vq0_second : Int32) (vq0_nm : Int32) (vq0_nn : Int32) (vq0_number : UInt64) (vq0_bad : Int32) (vq0_sa : Nat → UInt64) (vq0_x : Nat → UInt64) (vq0_s : Nat → UInt64) (vq0_p : Nat → UInt64) (vq0_d : Nat → UInt64) (vq0_h : Nat → UInt64) (vq0_f : Nat → UInt64) (vq0_mm : Nat → UInt64) (vq0_r : Nat → UInt64) (x3 : Int32) (x4 : Int32) : Option (((Nat → UInt64) × (Nat → UInt64) × Int32) ⊕ ((Nat → UInt64) × (Nat → UInt64))) :=
  (loopO (fun (st : (Nat → UInt64) × Int32) => s_M_prepare_B83 vq0_m vq0_n vq0_length vq0_where vq0_effort vq0_thrown vq0_at vq0_scaled vq0_solved vq0_second vq0_nm vq0_nn vq0_number vq0_bad vq0_sa vq0_x vq0_s vq0_p vq0_d vq0_h vq0_f vq0_r x3 st.1 st.2) 2000 (vq0_mm, x4)).bind fun ul83 => gd (inb x3 5) <| gd (inb x3 5) <| s_M_prepare_L183 vq0_m vq0_n vq0_length vq0_where vq0_effort vq0_thrown vq0_at vq0_scaled vq0_solved vq0_second vq0_nm vq0_nn vq0_number vq0_bad vq0_sa vq0_x vq0_s vq0_p vq0_d vq0_h vq0_f ul83 (vf_upd vq0_r x3.toNatClampNeg (vq0_p x3.toNatClampNeg)) x3 0
def s_M_prepare_B72 (vq0_m : Int32) (vq0_n : Int32) (vq0_length : Int32) (vq0_where : Int32) (vq0_effort : Int32) (vq0_thrown : Int32) (vq0_at : Int32) (vq0_scaled : Int32) (vq0_solved : Int32) (vq0_second : Int32) (vq0_nm : Int32) (vq0_nn : Int32) (vq0_number : UInt64) (vq0_bad : Int32) (vq0_sa : Nat → UInt64) (vq0_x : Nat → UInt64) (vq0_s : Nat → UInt64) (vq0_p : Nat → UInt64) (vq0_d : Nat → UInt64) (vq0_h : Nat → UInt64) (vq0_f : Nat → UInt64) (vq0_mm : Nat → UInt64) (vq0_r : Nat → UInt64) (x3 : Int32) : Option (((Nat → UInt64) × (Nat → UInt64) × Int32) ⊕ ((Nat → UInt64) × (Nat → UInt64))) :=
  if vq0_m ≤ x3 then (some (.inr (vq0_mm, vq0_r))) else (s_M_prepare_L83 vq0_m vq0_n vq0_length vq0_where vq0_effort vq0_thrown vq0_at vq0_scaled vq0_solved vq0_second vq0_nm vq0_nn vq0_number vq0_bad vq0_sa vq0_x vq0_s vq0_p vq0_d vq0_h vq0_f vq0_mm vq0_r x3 0)
def s_M_prepare_L72 (vq0_m : Int32) (vq0_n : Int32) (vq0_length : Int32) (vq0_where : Int32) (vq0_effort : Int32) (vq0_thrown : Int32) (vq0_at : Int32) (vq0_scaled : Int32) (vq0_solved : Int32) (vq0_second : Int32) (vq0_nm : Int32) (vq0_nn : Int32) (vq0_number : UInt64) (vq0_bad : Int32) (vq0_sa : Nat → UInt64) (vq0_x : Nat → UInt64) (vq0_s : Nat → UInt64) (vq0_p : Nat → UInt64) (vq0_d : Nat → UInt64) (vq0_h : Nat → UInt64) (vq0_f : Nat → UInt64) (vq0_mm : Nat → UInt64) (vq0_r : Nat → UInt64) (x3 : Int32) : Option ((Nat → UInt64) × (Nat → UInt64) × (Nat → UInt64) × (Nat → UInt64)) :=
  (loopO (fun (st : (Nat → UInt64) × (Nat → UInt64) × Int32) => s_M_prepare_B72 vq0_m vq0_n vq0_length vq0_where vq0_effort vq0_thrown vq0_at vq0_scaled vq0_solved vq0_second vq0_nm vq0_nn vq0_number vq0_bad vq0_sa vq0_x vq0_s vq0_p vq0_d vq0_h vq0_f st.1 st.2.1 st.2.2) 2000 (vq0_mm, vq0_r, x3)).bind fun ul72 => some (vq0_h, vq0_f, ul72.1, ul72.2)
def s_M_prepare_B2 (vq0_m : Int32) (vq0_n : Int32) (vq0_length : Int32) (vq0_where : Int32) (vq0_effort : Int32) (vq0_thrown : Int32) (vq0_at : Int32) (vq0_scaled : Int32) (vq0_solved : Int32) (vq0_second : Int32) (vq0_nm : Int32) (vq0_nn : Int32) (vq0_number : UInt64) (vq0_bad : Int32) (vq0_sa : Nat → UInt64) (vq0_x : Nat → UInt64) (vq0_s : Nat → UInt64) (vq0_p : Nat → UInt64) (vq0_d : Nat → UInt64) (vq0_mm : Nat → UInt64) (vq0_r : Nat → UInt64) (x1 : UInt64) (vq0_h : Nat → UInt64) (vq0_f : Nat → UInt64) (x3 : Int32) : Option (((Nat → UInt64) × (Nat → UInt64) × Int32) ⊕ ((Nat → UInt64) × (Nat → UInt64))) :=
  if vq0_n ≤ x3 then (some (.inr (vq0_h, vq0_f))) else (gd (inb x3 8) <| gd (inb x3 8) <| gd (isn (FP.ddiv (vq0_x x3.toNatClampNeg) (vq0_s x3.toNatClampNeg))) <| gd (inb x3 8) <| gd (inb x3 8) <| gd (inb x3 8) <| gd (isn (FP.ddiv x1 (vq0_s x3.toNatClampNeg))) <| gd (isn (FP.dsub (vq0_x x3.toNatClampNeg) (FP.ddiv x1 (vq0_s x3.toNatClampNeg)))) <| gd (inb x3 8) <| gd (inb x3 8) <| gd (isn (FP.dmul ((vf_upd vq0_h x3.toNatClampNeg (FP.ddiv (vq0_x x3.toNatClampNeg) (vq0_s x3.toNatClampNeg))) x3.toNatClampNeg) (vq0_d x3.toNatClampNeg))) <| gd (isn (FP.dadd (FP.dsub (vq0_x x3.toNatClampNeg) (FP.ddiv x1 (vq0_s x3.toNatClampNeg))) (FP.dmul ((vf_upd vq0_h x3.toNatClampNeg (FP.ddiv (vq0_x x3.toNatClampNeg) (vq0_s x3.toNatClampNeg))) x3.toNatClampNeg) (vq0_d x3.toNatClampNeg)))) <| gd (inb x3 8) <| some (.inl (vf_upd vq0_h x3.toNatClampNeg (FP.ddiv (vq0_x x3.toNatClampNeg) (vq0_s x3.toNatClampNeg)), vf_upd vq0_f x3.toNatClampNeg (FP.dadd (FP.dsub (vq0_x x3.toNatClampNeg) (FP.ddiv x1 (vq0_s x3.toNatClampNeg))) (FP.dmul ((vf_upd vq0_h x3.toNatClampNeg (FP.ddiv (vq0_x x3.toNatClampNeg) (vq0_s x3.toNatClampNeg))) x3.toNatClampNeg) (vq0_d x3.toNatClampNeg))), x3 + 1)))
def s_M_prepare_L2 (vq0_m : Int32) (vq0_n : Int32) (vq0_length : Int32) (vq0_where : Int32) (vq0_effort : Int32) (vq0_thrown : Int32) (vq0_at : Int32) (vq0_scaled : Int32) (vq0_solved : Int32) (vq0_second : Int32) (vq0_nm : Int32) (vq0_nn : Int32) (vq0_number : UInt64) (vq0_bad : Int32) (vq0_sa : Nat → UInt64) (vq0_x : Nat → UInt64) (vq0_s : Nat → UInt64) (vq0_p : Nat → UInt64) (vq0_d : Nat → UInt64) (vq0_h : Nat → UInt64) (vq0_f : Nat → UInt64) (vq0_mm : Nat → UInt64) (vq0_r : Nat → UInt64) (x1 : UInt64) (x3 : Int32) : Option ((Nat → UInt64) × (Nat → UInt64) × (Nat → UInt64) × (Nat → UInt64)) :=
  (loopO (fun (st : (Nat → UInt64) × (Nat → UInt64) × Int32) => s_M_prepare_B2 vq0_m vq0_n vq0_length vq0_where vq0_effort vq0_thrown vq0_at vq0_scaled vq0_solved vq0_second vq0_nm vq0_nn vq0_number vq0_bad vq0_sa vq0_x vq0_s vq0_p vq0_d vq0_mm vq0_r x1 st.1 st.2.1 st.2.2) 2000 (vq0_h, vq0_f, x3)).bind fun ul2 => s_M_prepare_L72 vq0_m vq0_n vq0_length vq0_where vq0_effort vq0_thrown vq0_at vq0_scaled vq0_solved vq0_second vq0_nm vq0_nn vq0_number vq0_bad vq0_sa vq0_x vq0_s vq0_p vq0_d ul2.1 ul2.2 vq0_mm vq0_r 0
def s_M_prepare (vq0_m : Int32) (vq0_n : Int32) (vq0_length : Int32) (vq0_where : Int32) (vq0_effort : Int32) (vq0_thrown : Int32) (vq0_at : Int32) (vq0_scaled : Int32) (vq0_solved : Int32) (vq0_second : Int32) (vq0_nm : Int32) (vq0_nn : Int32) (vq0_number : UInt64) (vq0_bad : Int32) (vq0_sa : Nat → UInt64) (vq0_x : Nat → UInt64) (vq0_s : Nat → UInt64) (vq0_p : Nat → UInt64) (vq0_d : Nat → UInt64) (vq0_h : Nat → UInt64) (vq0_f : Nat → UInt64) (vq0_mm : Nat → UInt64) (vq0_r : Nat → UInt64) (x1 : UInt64) : Option ((Nat → UInt64) × (Nat → UInt64) × (Nat → UInt64) × (Nat → UInt64)) :=
  s_M_prepare_L2 vq0_m vq0_n vq0_length vq0_where vq0_effort vq0_thrown vq0_at vq0_scaled vq0_solved vq0_second vq0_nm vq0_nn vq0_number vq0_bad vq0_sa vq0_x vq0_s vq0_p vq0_d vq0_h vq0_f vq0_mm vq0_r x1 0
set_option maxHeartbeats 40000000 in
set_option maxRecDepth 100000 in
theorem c_M_prepare (l : Launch) (D : va_G) (T : Nat → ClassId) (q0 : Nat) (q0_a : Nat) (q0_b : Nat) (q0_c : Nat) (q0_rowScale : Nat) (q0_columnScale : Nat) (q0_sa : Nat) (q0_sb : Nat) (q0_sc : Nat) (q0_x : Nat) (q0_s : Nat) (q0_y : Nat) (q0_p : Nat) (q0_d : Nat) (q0_h : Nat) (q0_f : Nat) (q0_mm : Nat) (q0_low : Nat) (q0_dd : Nat) (q0_r : Nat) (q0_big : Nat) (q0_dt : Nat) (q0_dx : Nat) (q0_t : Nat) (q0_cost : Nat) (q0_rowScaleNow : Nat) (q0_columnScaleNow : Nat) (q0_basic : Nat) (q0_text : Nat) (q0_turned : Nat) (q0_na : Nat) (q0_nb : Nat) (q0_nc : Nat) (vq0_m : Int32) (vq0_n : Int32) (vq0_length : Int32) (vq0_where : Int32) (vq0_effort : Int32) (vq0_thrown : Int32) (vq0_at : Int32) (vq0_scaled : Int32) (vq0_solved : Int32) (vq0_second : Int32) (vq0_nm : Int32) (vq0_nn : Int32) (vq0_number : UInt64) (vq0_bad : Int32) (vq0_sa : Nat → UInt64) (vq0_x : Nat → UInt64) (vq0_s : Nat → UInt64) (vq0_p : Nat → UInt64) (vq0_d : Nat → UInt64) (vq0_h : Nat → UInt64) (vq0_f : Nat → UInt64) (vq0_mm : Nat → UInt64) (vq0_r : Nat → UInt64) (x1 : UInt64) (rm : (Nat → UInt64) × (Nat → UInt64) × (Nat → UInt64) × (Nat → UInt64)) (h : s_M_prepare vq0_m vq0_n vq0_length vq0_where vq0_effort vq0_thrown vq0_at vq0_scaled vq0_solved vq0_second vq0_nm vq0_nn vq0_number vq0_bad vq0_sa vq0_x vq0_s vq0_p vq0_d vq0_h vq0_f vq0_mm vq0_r x1 = some rm) : CtV l y_M_prepare (Cond.code y_M_prepare prog_10_method_27_code 8 none :: BIG) 0 0 D T [.ref q0, .double x1] (w_M_prepare T q0 q0_a q0_b q0_c q0_rowScale q0_columnScale q0_sa q0_sb q0_sc q0_x q0_s q0_y q0_p q0_d q0_h q0_f q0_mm q0_low q0_dd q0_r q0_big q0_dt q0_dx q0_t q0_cost q0_rowScaleNow q0_columnScaleNow q0_basic q0_text q0_turned q0_na q0_nb q0_nc vq0_m vq0_n vq0_length vq0_where vq0_effort vq0_thrown vq0_at vq0_scaled vq0_solved vq0_second vq0_nm vq0_nn vq0_number vq0_bad vq0_sa vq0_x vq0_s vq0_p vq0_d vq0_h vq0_f vq0_mm vq0_r) (fun r => (w_M_prepare T q0 q0_a q0_b q0_c q0_rowScale q0_columnScale q0_sa q0_sb q0_sc q0_x q0_s q0_y q0_p q0_d q0_h q0_f q0_mm q0_low q0_dd q0_r q0_big q0_dt q0_dx q0_t q0_cost q0_rowScaleNow q0_columnScaleNow q0_basic q0_text q0_turned q0_na q0_nb q0_nc vq0_m vq0_n vq0_length vq0_where vq0_effort vq0_thrown vq0_at vq0_scaled vq0_solved vq0_second vq0_nm vq0_nn vq0_number vq0_bad vq0_sa vq0_x vq0_s vq0_p vq0_d r.1 r.2.1 r.2.2.1 r.2.2.2)) rm := by
  refine cf_entry (y := y_M_prepare) (cc := prog_10_method_27_code) (nL := 8) (ret := none) (fr := 0) (lo := 0) (T := T) (av := [.ref q0, .double x1]) (w := (w_M_prepare T q0 q0_a q0_b q0_c q0_rowScale q0_columnScale q0_sa q0_sb q0_sc q0_x q0_s q0_y q0_p q0_d q0_h q0_f q0_mm q0_low q0_dd q0_r q0_big q0_dt q0_dx q0_t q0_cost q0_rowScaleNow q0_columnScaleNow q0_basic q0_text q0_turned q0_na q0_nb q0_nc vq0_m vq0_n vq0_length vq0_where vq0_effort vq0_thrown vq0_at vq0_scaled vq0_solved vq0_second vq0_nm vq0_nn vq0_number vq0_bad vq0_sa vq0_x vq0_s vq0_p vq0_d vq0_h vq0_f vq0_mm vq0_r)) (Qc := cfQv D (fun r => (w_M_prepare T q0 q0_a q0_b q0_c q0_rowScale q0_columnScale q0_sa q0_sb q0_sc q0_x q0_s q0_y q0_p q0_d q0_h q0_f q0_mm q0_low q0_dd q0_r q0_big q0_dt q0_dx q0_t q0_cost q0_rowScaleNow q0_columnScaleNow q0_basic q0_text q0_turned q0_na q0_nb q0_nc vq0_m vq0_n vq0_length vq0_where vq0_effort vq0_thrown vq0_at vq0_scaled vq0_solved vq0_second vq0_nm vq0_nn vq0_number vq0_bad vq0_sa vq0_x vq0_s vq0_p vq0_d r.1 r.2.1 r.2.2.1 r.2.2.2)) rm) (by decide) rfl (Nat.le_of_ble_eq_true rfl) ?_
  intro p e s m args below meth c A Q H locs ls hx hb hr hlocks hml hown hts hNW hK hA hQ hP hD hS hl
  have hown : s.vm.findClass "ConeForgeModel" = some m.cls := hown
  have hl : lv_has ls 8 [(0, .ref q0), (1, .double x1)] := hl
  have L72 : ∀ (vq0_h : Nat → UInt64) (vq0_f : Nat → UInt64) (vq0_mm : Nat → UInt64) (vq0_r : Nat → UInt64) (x3 : Int32), ∀ (H : Heap) (locs : List Loc) (ls : Array Slot), va_P D CL (w_M_prepare T q0 q0_a q0_b q0_c q0_rowScale q0_columnScale q0_sa q0_sb q0_sc q0_x q0_s q0_y q0_p q0_d q0_h q0_f q0_mm q0_low q0_dd q0_r q0_big q0_dt q0_dx q0_t q0_cost q0_rowScaleNow q0_columnScaleNow q0_basic q0_text q0_turned q0_na q0_nb q0_nc vq0_m vq0_n vq0_length vq0_where vq0_effort vq0_thrown vq0_at vq0_scaled vq0_solved vq0_second vq0_nm vq0_nn vq0_number vq0_bad vq0_sa vq0_x vq0_s vq0_p vq0_d vq0_h vq0_f vq0_mm vq0_r) H → va_D A (w_M_prepare T q0 q0_a q0_b q0_c q0_rowScale q0_columnScale q0_sa q0_sb q0_sc q0_x q0_s q0_y q0_p q0_d q0_h q0_f q0_mm q0_low q0_dd q0_r q0_big q0_dt q0_dx q0_t q0_cost q0_rowScaleNow q0_columnScaleNow q0_basic q0_text q0_turned q0_na q0_nb q0_nc vq0_m vq0_n vq0_length vq0_where vq0_effort vq0_thrown vq0_at vq0_scaled vq0_solved vq0_second vq0_nm vq0_nn vq0_number vq0_bad vq0_sa vq0_x vq0_s vq0_p vq0_d vq0_h vq0_f vq0_mm vq0_r) → va_S A s.heap H locs → lv_has ls 8 [(0, .ref q0), (3, .int x3)] → s_M_prepare_L72 vq0_m vq0_n vq0_length vq0_where vq0_effort vq0_thrown vq0_at vq0_scaled vq0_solved vq0_second vq0_nm vq0_nn vq0_number vq0_bad vq0_sa vq0_x vq0_s vq0_p vq0_d vq0_h vq0_f vq0_mm vq0_r x3 = some rm → W p l e (rmk 0 0) s m args below meth c H locs 0 0 Q (F0 m 72 ls []) := by
    intro vq0_h vq0_f vq0_mm vq0_r x3 H locs ls hP hD hS hl h
    unfold s_M_prepare_L72 at h
    obtain ⟨ul72, hul72, h⟩ := bi_some h
    refine loopO_W (Wh := fun (st : (Nat → UInt64) × (Nat → UInt64) × Int32) => ∀ (H : Heap) (locs : List Loc) (ls : Array Slot), va_P D CL (w_M_prepare T q0 q0_a q0_b q0_c q0_rowScale q0_columnScale q0_sa q0_sb q0_sc q0_x q0_s q0_y q0_p q0_d q0_h q0_f q0_mm q0_low q0_dd q0_r q0_big q0_dt q0_dx q0_t q0_cost q0_rowScaleNow q0_columnScaleNow q0_basic q0_text q0_turned q0_na q0_nb q0_nc vq0_m vq0_n vq0_length vq0_where vq0_effort vq0_thrown vq0_at vq0_scaled vq0_solved vq0_second vq0_nm vq0_nn vq0_number vq0_bad vq0_sa vq0_x vq0_s vq0_p vq0_d vq0_h vq0_f st.1 st.2.1) H → va_D A (w_M_prepare T q0 q0_a q0_b q0_c q0_rowScale q0_columnScale q0_sa q0_sb q0_sc q0_x q0_s q0_y q0_p q0_d q0_h q0_f q0_mm q0_low q0_dd q0_r q0_big q0_dt q0_dx q0_t q0_cost q0_rowScaleNow q0_columnScaleNow q0_basic q0_text q0_turned q0_na q0_nb q0_nc vq0_m vq0_n vq0_length vq0_where vq0_effort vq0_thrown vq0_at vq0_scaled vq0_solved vq0_second vq0_nm vq0_nn vq0_number vq0_bad vq0_sa vq0_x vq0_s vq0_p vq0_d vq0_h vq0_f st.1 st.2.1) → va_S A s.heap H locs → lv_has ls 8 [(0, .ref q0), (3, .int st.2.2)] → W p l e (rmk 0 0) s m args below meth c H locs 0 0 Q (F0 m 72 ls [])) (Wx := fun (e1 : (Nat → UInt64) × (Nat → UInt64)) => ∀ (H : Heap) (locs : List Loc) (ls : Array Slot), va_P D CL (w_M_prepare T q0 q0_a q0_b q0_c q0_rowScale q0_columnScale q0_sa q0_sb q0_sc q0_x q0_s q0_y q0_p q0_d q0_h q0_f q0_mm q0_low q0_dd q0_r q0_big q0_dt q0_dx q0_t q0_cost q0_rowScaleNow q0_columnScaleNow q0_basic q0_text q0_turned q0_na q0_nb q0_nc vq0_m vq0_n vq0_length vq0_where vq0_effort vq0_thrown vq0_at vq0_scaled vq0_solved vq0_second vq0_nm vq0_nn vq0_number vq0_bad vq0_sa vq0_x vq0_s vq0_p vq0_d vq0_h vq0_f e1.1 e1.2) H → va_D A (w_M_prepare T q0 q0_a q0_b q0_c q0_rowScale q0_columnScale q0_sa q0_sb q0_sc q0_x q0_s q0_y q0_p q0_d q0_h q0_f q0_mm q0_low q0_dd q0_r q0_big q0_dt q0_dx q0_t q0_cost q0_rowScaleNow q0_columnScaleNow q0_basic q0_text q0_turned q0_na q0_nb q0_nc vq0_m vq0_n vq0_length vq0_where vq0_effort vq0_thrown vq0_at vq0_scaled vq0_solved vq0_second vq0_nm vq0_nn vq0_number vq0_bad vq0_sa vq0_x vq0_s vq0_p vq0_d vq0_h vq0_f e1.1 e1.2) → va_S A s.heap H locs → lv_has ls 8 [] → W p l e (rmk 0 0) s m args below meth c H locs 0 0 Q (F0 m 237 ls [])) ?_ 2000 _ ul72 hul72 ?_ H locs ls hP hD hS hl
    · intro st rb72 h kc72 kx72 H locs ls hP hD hS hl
      obtain ⟨vq0_mm, vq0_r, x3⟩ := st
      have h : s_M_prepare_B72 vq0_m vq0_n vq0_length vq0_where vq0_effort vq0_thrown vq0_at vq0_scaled vq0_solved vq0_second vq0_nm vq0_nn vq0_number vq0_bad vq0_sa vq0_x vq0_s vq0_p vq0_d vq0_h vq0_f vq0_mm vq0_r x3 = some rb72 := h
      have L183 : ∀ (vq0_mm : Nat → UInt64) (vq0_r : Nat → UInt64) (x3 : Int32) (x4 : Int32), ∀ (H : Heap) (locs : List Loc) (ls : Array Slot), va_P D CL (w_M_prepare T q0 q0_a q0_b q0_c q0_rowScale q0_columnScale q0_sa q0_sb q0_sc q0_x q0_s q0_y q0_p q0_d q0_h q0_f q0_mm q0_low q0_dd q0_r q0_big q0_dt q0_dx q0_t q0_cost q0_rowScaleNow q0_columnScaleNow q0_basic q0_text q0_turned q0_na q0_nb q0_nc vq0_m vq0_n vq0_length vq0_where vq0_effort vq0_thrown vq0_at vq0_scaled vq0_solved vq0_second vq0_nm vq0_nn vq0_number vq0_bad vq0_sa vq0_x vq0_s vq0_p vq0_d vq0_h vq0_f vq0_mm vq0_r) H → va_D A (w_M_prepare T q0 q0_a q0_b q0_c q0_rowScale q0_columnScale q0_sa q0_sb q0_sc q0_x q0_s q0_y q0_p q0_d q0_h q0_f q0_mm q0_low q0_dd q0_r q0_big q0_dt q0_dx q0_t q0_cost q0_rowScaleNow q0_columnScaleNow q0_basic q0_text q0_turned q0_na q0_nb q0_nc vq0_m vq0_n vq0_length vq0_where vq0_effort vq0_thrown vq0_at vq0_scaled vq0_solved vq0_second vq0_nm vq0_nn vq0_number vq0_bad vq0_sa vq0_x vq0_s vq0_p vq0_d vq0_h vq0_f vq0_mm vq0_r) → va_S A s.heap H locs → lv_has ls 8 [(0, .ref q0), (3, .int x3), (4, .int x4)] → s_M_prepare_L183 vq0_m vq0_n vq0_length vq0_where vq0_effort vq0_thrown vq0_at vq0_scaled vq0_solved vq0_second vq0_nm vq0_nn vq0_number vq0_bad vq0_sa vq0_x vq0_s vq0_p vq0_d vq0_h vq0_f vq0_mm vq0_r x3 x4 = some rb72 → W p l e (rmk 0 0) s m args below meth c H locs 0 0 Q (F0 m 183 ls []) := by
        intro vq0_mm vq0_r x3 x4 H locs ls hP hD hS hl h
        unfold s_M_prepare_L183 at h
        obtain ⟨ul183, hul183, h⟩ := bi_some h
        refine loopO_W (Wh := fun (st : (Nat → UInt64) × Int32) => ∀ (H : Heap) (locs : List Loc) (ls : Array Slot), va_P D CL (w_M_prepare T q0 q0_a q0_b q0_c q0_rowScale q0_columnScale q0_sa q0_sb q0_sc q0_x q0_s q0_y q0_p q0_d q0_h q0_f q0_mm q0_low q0_dd q0_r q0_big q0_dt q0_dx q0_t q0_cost q0_rowScaleNow q0_columnScaleNow q0_basic q0_text q0_turned q0_na q0_nb q0_nc vq0_m vq0_n vq0_length vq0_where vq0_effort vq0_thrown vq0_at vq0_scaled vq0_solved vq0_second vq0_nm vq0_nn vq0_number vq0_bad vq0_sa vq0_x vq0_s vq0_p vq0_d vq0_h vq0_f vq0_mm st.1) H → va_D A (w_M_prepare T q0 q0_a q0_b q0_c q0_rowScale q0_columnScale q0_sa q0_sb q0_sc q0_x q0_s q0_y q0_p q0_d q0_h q0_f q0_mm q0_low q0_dd q0_r q0_big q0_dt q0_dx q0_t q0_cost q0_rowScaleNow q0_columnScaleNow q0_basic q0_text q0_turned q0_na q0_nb q0_nc vq0_m vq0_n vq0_length vq0_where vq0_effort vq0_thrown vq0_at vq0_scaled vq0_solved vq0_second vq0_nm vq0_nn vq0_number vq0_bad vq0_sa vq0_x vq0_s vq0_p vq0_d vq0_h vq0_f vq0_mm st.1) → va_S A s.heap H locs → lv_has ls 8 [(0, .ref q0), (3, .int x3), (4, .int st.2)] → W p l e (rmk 0 0) s m args below meth c H locs 0 0 Q (F0 m 183 ls [])) (Wx := fun (e1 : (Nat → UInt64)) => ∀ (H : Heap) (locs : List Loc) (ls : Array Slot), va_P D CL (w_M_prepare T q0 q0_a q0_b q0_c q0_rowScale q0_columnScale q0_sa q0_sb q0_sc q0_x q0_s q0_y q0_p q0_d q0_h q0_f q0_mm q0_low q0_dd q0_r q0_big q0_dt q0_dx q0_t q0_cost q0_rowScaleNow q0_columnScaleNow q0_basic q0_text q0_turned q0_na q0_nb q0_nc vq0_m vq0_n vq0_length vq0_where vq0_effort vq0_thrown vq0_at vq0_scaled vq0_solved vq0_second vq0_nm vq0_nn vq0_number vq0_bad vq0_sa vq0_x vq0_s vq0_p vq0_d vq0_h vq0_f vq0_mm e1) H → va_D A (w_M_prepare T q0 q0_a q0_b q0_c q0_rowScale q0_columnScale q0_sa q0_sb q0_sc q0_x q0_s q0_y q0_p q0_d q0_h q0_f q0_mm q0_low q0_dd q0_r q0_big q0_dt q0_dx q0_t q0_cost q0_rowScaleNow q0_columnScaleNow q0_basic q0_text q0_turned q0_na q0_nb q0_nc vq0_m vq0_n vq0_length vq0_where vq0_effort vq0_thrown vq0_at vq0_scaled vq0_solved vq0_second vq0_nm vq0_nn vq0_number vq0_bad vq0_sa vq0_x vq0_s vq0_p vq0_d vq0_h vq0_f vq0_mm e1) → va_S A s.heap H locs → lv_has ls 8 [(0, .ref q0), (3, .int x3)] → W p l e (rmk 0 0) s m args below meth c H locs 0 0 Q (F0 m 231 ls [])) ?_ 2000 _ ul183 hul183 ?_ H locs ls hP hD hS hl
        · intro st rb183 h kc183 kx183 H locs ls hP hD hS hl
          obtain ⟨vq0_r, x4⟩ := st
          have h : s_M_prepare_B183 vq0_m vq0_n vq0_length vq0_where vq0_effort vq0_thrown vq0_at vq0_scaled vq0_solved vq0_second vq0_nm vq0_nn vq0_number vq0_bad vq0_sa vq0_x vq0_s vq0_p vq0_d vq0_h vq0_f vq0_mm x3 vq0_r x4 = some rb183 := h
          unfold s_M_prepare_B183 at h
          refine lv_iload hx hb d_M_prepare_183 (lv_at hl 2 rfl) ?_
          refine lv_aload_n hx hb d_M_prepare_185 rfl (lv_at hl 0 rfl) ?_
          refine va_get (D := D) (ci := 8) (v := .int vq0_n) (C := "ConeForgeModel") (T := FM) (N := 46) hx hb hts iM hown hK hP 0 rfl rfl 30 (by decide) (hts _ (bgc bw714)) (fun _ h9 => h9) rfl d_M_prepare_186 ?_
          refine lv_icmp_ge (tgt := 231) hx hb d_M_prepare_189 (by decide) (fun c1 => ?_) (fun c1 => ?_)
          · have h := it_t c1 h
            exact kx183 _ (Option.some.inj h).symm H locs ls hP hD hS (lv_sub hl [0, 1] rfl)
          · have h := it_f c1 h
            refine lv_aload_n hx hb d_M_prepare_192 rfl (lv_at hl 0 rfl) ?_
            refine va_get (D := D) (ci := 8) (v := .ref q0_r) (C := "ConeForgeModel") (T := FM) (N := 46) hx hb hts iM hown hK hP 0 rfl rfl 18 (by decide) (hts _ (bgc bw702)) (fun _ h9 => h9) rfl d_M_prepare_193 ?_
            refine lv_iload_n hx hb d_M_prepare_196 rfl (lv_at hl 1 rfl) ?_
            refine lv_aload_n hx hb d_M_prepare_197 rfl (lv_at hl 0 rfl) ?_
            refine va_get (D := D) (ci := 8) (v := .ref q0_r) (C := "ConeForgeModel") (T := FM) (N := 46) hx hb hts iM hown hK hP 0 rfl rfl 18 (by decide) (hts _ (bgc bw702)) (fun _ h9 => h9) rfl d_M_prepare_198 ?_
            refine lv_iload_n hx hb d_M_prepare_201 rfl (lv_at hl 1 rfl) ?_
            obtain ⟨g2, h⟩ := gd_some h
            refine va_dald hx hb hK hP 9 0 rfl rfl (inb_in g2) d_M_prepare_202 ?_
            refine lv_aload_n hx hb d_M_prepare_203 rfl (lv_at hl 0 rfl) ?_
            refine va_get (D := D) (ci := 8) (v := .ref q0_sa) (C := "ConeForgeModel") (T := FM) (N := 46) hx hb hts iM hown hK hP 0 rfl rfl 5 (by decide) (hts _ (bgc bw689)) (fun _ h9 => h9) rfl d_M_prepare_204 ?_
            refine lv_bipush (v := 8) hx hb d_M_prepare_207 (by decide) ?_
            refine lv_iload_n hx hb d_M_prepare_209 rfl (lv_at hl 1 rfl) ?_
            refine lv_imul hx hb d_M_prepare_210 ?_
            refine lv_iload hx hb d_M_prepare_211 (lv_at hl 2 rfl) ?_
            refine lv_iadd hx hb d_M_prepare_213 ?_
            obtain ⟨g3, h⟩ := gd_some h
            refine va_dald hx hb hK hP 1 0 rfl rfl (inb_in g3) d_M_prepare_214 ?_
            refine lv_aload_n hx hb d_M_prepare_215 rfl (lv_at hl 0 rfl) ?_
            refine va_get (D := D) (ci := 8) (v := .ref q0_f) (C := "ConeForgeModel") (T := FM) (N := 46) hx hb hts iM hown hK hP 0 rfl rfl 14 (by decide) (hts _ (bgc bw698)) (fun _ h9 => h9) rfl d_M_prepare_216 ?_
            refine lv_iload hx hb d_M_prepare_219 (lv_at hl 2 rfl) ?_
            obtain ⟨g4, h⟩ := gd_some h
            refine va_dald hx hb hK hP 7 0 rfl rfl (inb_in g4) d_M_prepare_221 ?_
            obtain ⟨g5, h⟩ := gd_some h
            refine lv_dmul hx hb d_M_prepare_222 (isn_n g5) ?_
            obtain ⟨g6, h⟩ := gd_some h
            refine lv_dadd hx hb d_M_prepare_223 (isn_n g6) ?_
            obtain ⟨g7, h⟩ := gd_some h
            refine va_dast hx hb hK hP hD hS 9 0 rfl rfl (inb_in g7) d_M_prepare_224 (fun H locs hP hD hS => ?_)
            have hP : va_P D CL (w_M_prepare T q0 q0_a q0_b q0_c q0_rowScale q0_columnScale q0_sa q0_sb q0_sc q0_x q0_s q0_y q0_p q0_d q0_h q0_f q0_mm q0_low q0_dd q0_r q0_big q0_dt q0_dx q0_t q0_cost q0_rowScaleNow q0_columnScaleNow q0_basic q0_text q0_turned q0_na q0_nb q0_nc vq0_m vq0_n vq0_length vq0_where vq0_effort vq0_thrown vq0_at vq0_scaled vq0_solved vq0_second vq0_nm vq0_nn vq0_number vq0_bad vq0_sa vq0_x vq0_s vq0_p vq0_d vq0_h vq0_f vq0_mm (vf_upd vq0_r x3.toNatClampNeg (FP.dadd (vq0_r x3.toNatClampNeg) (FP.dmul (vq0_sa ((8 * x3) + x4).toNatClampNeg) (vq0_f x4.toNatClampNeg))))) H := hP
            have hD : va_D A (w_M_prepare T q0 q0_a q0_b q0_c q0_rowScale q0_columnScale q0_sa q0_sb q0_sc q0_x q0_s q0_y q0_p q0_d q0_h q0_f q0_mm q0_low q0_dd q0_r q0_big q0_dt q0_dx q0_t q0_cost q0_rowScaleNow q0_columnScaleNow q0_basic q0_text q0_turned q0_na q0_nb q0_nc vq0_m vq0_n vq0_length vq0_where vq0_effort vq0_thrown vq0_at vq0_scaled vq0_solved vq0_second vq0_nm vq0_nn vq0_number vq0_bad vq0_sa vq0_x vq0_s vq0_p vq0_d vq0_h vq0_f vq0_mm (vf_upd vq0_r x3.toNatClampNeg (FP.dadd (vq0_r x3.toNatClampNeg) (FP.dmul (vq0_sa ((8 * x3) + x4).toNatClampNeg) (vq0_f x4.toNatClampNeg))))) := hD
            refine lv_iinc (v := x4 + 1) (lv' := [(4, .int (x4 + 1)), (0, .ref q0), (3, .int x3)]) hx hb d_M_prepare_225 hl (k := 2) rfl rfl (by decide) rfl (fun ls hl => ?_)
            refine lv_goto (tgt := 183) hx hb d_M_prepare_228 (by decide) ?_
            exact kc183 _ (Option.some.inj h).symm H locs ls hP hD hS (lv_sub hl [1, 2, 0] rfl)
        · intro H locs ls hP hD hS hl
          refine lv_iinc (v := x3 + 1) (lv' := [(3, .int (x3 + 1)), (0, .ref q0)]) hx hb d_M_prepare_231 hl (k := 1) rfl rfl (by decide) rfl (fun ls hl => ?_)
          refine lv_goto (tgt := 72) hx hb d_M_prepare_234 (by decide) ?_
          exact kc72 _ (Option.some.inj h).symm H locs ls hP hD hS (lv_sub hl [1, 0] rfl)
      have L83 : ∀ (vq0_mm : Nat → UInt64) (vq0_r : Nat → UInt64) (x3 : Int32) (x4 : Int32), ∀ (H : Heap) (locs : List Loc) (ls : Array Slot), va_P D CL (w_M_prepare T q0 q0_a q0_b q0_c q0_rowScale q0_columnScale q0_sa q0_sb q0_sc q0_x q0_s q0_y q0_p q0_d q0_h q0_f q0_mm q0_low q0_dd q0_r q0_big q0_dt q0_dx q0_t q0_cost q0_rowScaleNow q0_columnScaleNow q0_basic q0_text q0_turned q0_na q0_nb q0_nc vq0_m vq0_n vq0_length vq0_where vq0_effort vq0_thrown vq0_at vq0_scaled vq0_solved vq0_second vq0_nm vq0_nn vq0_number vq0_bad vq0_sa vq0_x vq0_s vq0_p vq0_d vq0_h vq0_f vq0_mm vq0_r) H → va_D A (w_M_prepare T q0 q0_a q0_b q0_c q0_rowScale q0_columnScale q0_sa q0_sb q0_sc q0_x q0_s q0_y q0_p q0_d q0_h q0_f q0_mm q0_low q0_dd q0_r q0_big q0_dt q0_dx q0_t q0_cost q0_rowScaleNow q0_columnScaleNow q0_basic q0_text q0_turned q0_na q0_nb q0_nc vq0_m vq0_n vq0_length vq0_where vq0_effort vq0_thrown vq0_at vq0_scaled vq0_solved vq0_second vq0_nm vq0_nn vq0_number vq0_bad vq0_sa vq0_x vq0_s vq0_p vq0_d vq0_h vq0_f vq0_mm vq0_r) → va_S A s.heap H locs → lv_has ls 8 [(0, .ref q0), (3, .int x3), (4, .int x4)] → s_M_prepare_L83 vq0_m vq0_n vq0_length vq0_where vq0_effort vq0_thrown vq0_at vq0_scaled vq0_solved vq0_second vq0_nm vq0_nn vq0_number vq0_bad vq0_sa vq0_x vq0_s vq0_p vq0_d vq0_h vq0_f vq0_mm vq0_r x3 x4 = some rb72 → W p l e (rmk 0 0) s m args below meth c H locs 0 0 Q (F0 m 83 ls []) := by
        intro vq0_mm vq0_r x3 x4 H locs ls hP hD hS hl h
        unfold s_M_prepare_L83 at h
        obtain ⟨ul83, hul83, h⟩ := bi_some h
        refine loopO_W (Wh := fun (st : (Nat → UInt64) × Int32) => ∀ (H : Heap) (locs : List Loc) (ls : Array Slot), va_P D CL (w_M_prepare T q0 q0_a q0_b q0_c q0_rowScale q0_columnScale q0_sa q0_sb q0_sc q0_x q0_s q0_y q0_p q0_d q0_h q0_f q0_mm q0_low q0_dd q0_r q0_big q0_dt q0_dx q0_t q0_cost q0_rowScaleNow q0_columnScaleNow q0_basic q0_text q0_turned q0_na q0_nb q0_nc vq0_m vq0_n vq0_length vq0_where vq0_effort vq0_thrown vq0_at vq0_scaled vq0_solved vq0_second vq0_nm vq0_nn vq0_number vq0_bad vq0_sa vq0_x vq0_s vq0_p vq0_d vq0_h vq0_f st.1 vq0_r) H → va_D A (w_M_prepare T q0 q0_a q0_b q0_c q0_rowScale q0_columnScale q0_sa q0_sb q0_sc q0_x q0_s q0_y q0_p q0_d q0_h q0_f q0_mm q0_low q0_dd q0_r q0_big q0_dt q0_dx q0_t q0_cost q0_rowScaleNow q0_columnScaleNow q0_basic q0_text q0_turned q0_na q0_nb q0_nc vq0_m vq0_n vq0_length vq0_where vq0_effort vq0_thrown vq0_at vq0_scaled vq0_solved vq0_second vq0_nm vq0_nn vq0_number vq0_bad vq0_sa vq0_x vq0_s vq0_p vq0_d vq0_h vq0_f st.1 vq0_r) → va_S A s.heap H locs → lv_has ls 8 [(0, .ref q0), (3, .int x3), (4, .int st.2)] → W p l e (rmk 0 0) s m args below meth c H locs 0 0 Q (F0 m 83 ls [])) (Wx := fun (e1 : (Nat → UInt64)) => ∀ (H : Heap) (locs : List Loc) (ls : Array Slot), va_P D CL (w_M_prepare T q0 q0_a q0_b q0_c q0_rowScale q0_columnScale q0_sa q0_sb q0_sc q0_x q0_s q0_y q0_p q0_d q0_h q0_f q0_mm q0_low q0_dd q0_r q0_big q0_dt q0_dx q0_t q0_cost q0_rowScaleNow q0_columnScaleNow q0_basic q0_text q0_turned q0_na q0_nb q0_nc vq0_m vq0_n vq0_length vq0_where vq0_effort vq0_thrown vq0_at vq0_scaled vq0_solved vq0_second vq0_nm vq0_nn vq0_number vq0_bad vq0_sa vq0_x vq0_s vq0_p vq0_d vq0_h vq0_f e1 vq0_r) H → va_D A (w_M_prepare T q0 q0_a q0_b q0_c q0_rowScale q0_columnScale q0_sa q0_sb q0_sc q0_x q0_s q0_y q0_p q0_d q0_h q0_f q0_mm q0_low q0_dd q0_r q0_big q0_dt q0_dx q0_t q0_cost q0_rowScaleNow q0_columnScaleNow q0_basic q0_text q0_turned q0_na q0_nb q0_nc vq0_m vq0_n vq0_length vq0_where vq0_effort vq0_thrown vq0_at vq0_scaled vq0_solved vq0_second vq0_nm vq0_nn vq0_number vq0_bad vq0_sa vq0_x vq0_s vq0_p vq0_d vq0_h vq0_f e1 vq0_r) → va_S A s.heap H locs → lv_has ls 8 [(0, .ref q0), (3, .int x3)] → W p l e (rmk 0 0) s m args below meth c H locs 0 0 Q (F0 m 168 ls [])) ?_ 2000 _ ul83 hul83 ?_ H locs ls hP hD hS hl
        · intro st rb83 h kc83 kx83 H locs ls hP hD hS hl
          obtain ⟨vq0_mm, x4⟩ := st
          have h : s_M_prepare_B83 vq0_m vq0_n vq0_length vq0_where vq0_effort vq0_thrown vq0_at vq0_scaled vq0_solved vq0_second vq0_nm vq0_nn vq0_number vq0_bad vq0_sa vq0_x vq0_s vq0_p vq0_d vq0_h vq0_f vq0_r x3 vq0_mm x4 = some rb83 := h
          have L95 : ∀ (vq0_mm : Nat → UInt64) (x4 : Int32) (x5 : UInt64) (x7 : Int32), ∀ (H : Heap) (locs : List Loc) (ls : Array Slot), va_P D CL (w_M_prepare T q0 q0_a q0_b q0_c q0_rowScale q0_columnScale q0_sa q0_sb q0_sc q0_x q0_s q0_y q0_p q0_d q0_h q0_f q0_mm q0_low q0_dd q0_r q0_big q0_dt q0_dx q0_t q0_cost q0_rowScaleNow q0_columnScaleNow q0_basic q0_text q0_turned q0_na q0_nb q0_nc vq0_m vq0_n vq0_length vq0_where vq0_effort vq0_thrown vq0_at vq0_scaled vq0_solved vq0_second vq0_nm vq0_nn vq0_number vq0_bad vq0_sa vq0_x vq0_s vq0_p vq0_d vq0_h vq0_f vq0_mm vq0_r) H → va_D A (w_M_prepare T q0 q0_a q0_b q0_c q0_rowScale q0_columnScale q0_sa q0_sb q0_sc q0_x q0_s q0_y q0_p q0_d q0_h q0_f q0_mm q0_low q0_dd q0_r q0_big q0_dt q0_dx q0_t q0_cost q0_rowScaleNow q0_columnScaleNow q0_basic q0_text q0_turned q0_na q0_nb q0_nc vq0_m vq0_n vq0_length vq0_where vq0_effort vq0_thrown vq0_at vq0_scaled vq0_solved vq0_second vq0_nm vq0_nn vq0_number vq0_bad vq0_sa vq0_x vq0_s vq0_p vq0_d vq0_h vq0_f vq0_mm vq0_r) → va_S A s.heap H locs → lv_has ls 8 [(0, .ref q0), (3, .int x3), (4, .int x4), (5, .double x5), (7, .int x7)] → s_M_prepare_L95 vq0_m vq0_n vq0_length vq0_where vq0_effort vq0_thrown vq0_at vq0_scaled vq0_solved vq0_second vq0_nm vq0_nn vq0_number vq0_bad vq0_sa vq0_x vq0_s vq0_p vq0_d vq0_h vq0_f vq0_mm vq0_r x3 x4 x5 x7 = some rb83 → W p l e (rmk 0 0) s m args below meth c H locs 0 0 Q (F0 m 95 ls []) := by
            intro vq0_mm x4 x5 x7 H locs ls hP hD hS hl h
            unfold s_M_prepare_L95 at h
            obtain ⟨ul95, hul95, h⟩ := bi_some h
            refine loopO_W (Wh := fun (st : UInt64 × Int32) => ∀ (H : Heap) (locs : List Loc) (ls : Array Slot), va_P D CL (w_M_prepare T q0 q0_a q0_b q0_c q0_rowScale q0_columnScale q0_sa q0_sb q0_sc q0_x q0_s q0_y q0_p q0_d q0_h q0_f q0_mm q0_low q0_dd q0_r q0_big q0_dt q0_dx q0_t q0_cost q0_rowScaleNow q0_columnScaleNow q0_basic q0_text q0_turned q0_na q0_nb q0_nc vq0_m vq0_n vq0_length vq0_where vq0_effort vq0_thrown vq0_at vq0_scaled vq0_solved vq0_second vq0_nm vq0_nn vq0_number vq0_bad vq0_sa vq0_x vq0_s vq0_p vq0_d vq0_h vq0_f vq0_mm vq0_r) H → va_D A (w_M_prepare T q0 q0_a q0_b q0_c q0_rowScale q0_columnScale q0_sa q0_sb q0_sc q0_x q0_s q0_y q0_p q0_d q0_h q0_f q0_mm q0_low q0_dd q0_r q0_big q0_dt q0_dx q0_t q0_cost q0_rowScaleNow q0_columnScaleNow q0_basic q0_text q0_turned q0_na q0_nb q0_nc vq0_m vq0_n vq0_length vq0_where vq0_effort vq0_thrown vq0_at vq0_scaled vq0_solved vq0_second vq0_nm vq0_nn vq0_number vq0_bad vq0_sa vq0_x vq0_s vq0_p vq0_d vq0_h vq0_f vq0_mm vq0_r) → va_S A s.heap H locs → lv_has ls 8 [(0, .ref q0), (3, .int x3), (4, .int x4), (5, .double st.1), (7, .int st.2)] → W p l e (rmk 0 0) s m args below meth c H locs 0 0 Q (F0 m 95 ls [])) (Wx := fun (e1 : UInt64) => ∀ (H : Heap) (locs : List Loc) (ls : Array Slot), va_P D CL (w_M_prepare T q0 q0_a q0_b q0_c q0_rowScale q0_columnScale q0_sa q0_sb q0_sc q0_x q0_s q0_y q0_p q0_d q0_h q0_f q0_mm q0_low q0_dd q0_r q0_big q0_dt q0_dx q0_t q0_cost q0_rowScaleNow q0_columnScaleNow q0_basic q0_text q0_turned q0_na q0_nb q0_nc vq0_m vq0_n vq0_length vq0_where vq0_effort vq0_thrown vq0_at vq0_scaled vq0_solved vq0_second vq0_nm vq0_nn vq0_number vq0_bad vq0_sa vq0_x vq0_s vq0_p vq0_d vq0_h vq0_f vq0_mm vq0_r) H → va_D A (w_M_prepare T q0 q0_a q0_b q0_c q0_rowScale q0_columnScale q0_sa q0_sb q0_sc q0_x q0_s q0_y q0_p q0_d q0_h q0_f q0_mm q0_low q0_dd q0_r q0_big q0_dt q0_dx q0_t q0_cost q0_rowScaleNow q0_columnScaleNow q0_basic q0_text q0_turned q0_na q0_nb q0_nc vq0_m vq0_n vq0_length vq0_where vq0_effort vq0_thrown vq0_at vq0_scaled vq0_solved vq0_second vq0_nm vq0_nn vq0_number vq0_bad vq0_sa vq0_x vq0_s vq0_p vq0_d vq0_h vq0_f vq0_mm vq0_r) → va_S A s.heap H locs → lv_has ls 8 [(0, .ref q0), (3, .int x3), (4, .int x4), (5, .double e1)] → W p l e (rmk 0 0) s m args below meth c H locs 0 0 Q (F0 m 149 ls [])) ?_ 2000 _ ul95 hul95 ?_ H locs ls hP hD hS hl
            · intro st rb95 h kc95 kx95 H locs ls hP hD hS hl
              obtain ⟨x5, x7⟩ := st
              have h : s_M_prepare_B95 vq0_m vq0_n vq0_length vq0_where vq0_effort vq0_thrown vq0_at vq0_scaled vq0_solved vq0_second vq0_nm vq0_nn vq0_number vq0_bad vq0_sa vq0_x vq0_s vq0_p vq0_d vq0_h vq0_f vq0_mm vq0_r x3 x4 x5 x7 = some rb95 := h
              unfold s_M_prepare_B95 at h
              refine lv_iload hx hb d_M_prepare_95 (lv_at hl 4 rfl) ?_
              refine lv_aload_n hx hb d_M_prepare_97 rfl (lv_at hl 0 rfl) ?_
              refine va_get (D := D) (ci := 8) (v := .int vq0_n) (C := "ConeForgeModel") (T := FM) (N := 46) hx hb hts iM hown hK hP 0 rfl rfl 30 (by decide) (hts _ (bgc bw714)) (fun _ h9 => h9) rfl d_M_prepare_98 ?_
              refine lv_icmp_ge (tgt := 149) hx hb d_M_prepare_101 (by decide) (fun c8 => ?_) (fun c8 => ?_)
              · have h := it_t c8 h
                exact kx95 _ (Option.some.inj h).symm H locs ls hP hD hS (lv_sub hl [0, 1, 2, 3] rfl)
              · have h := it_f c8 h
                refine lv_dload hx hb d_M_prepare_104 (lv_at hl 3 rfl) ?_
                refine lv_aload_n hx hb d_M_prepare_106 rfl (lv_at hl 0 rfl) ?_
                refine va_get (D := D) (ci := 8) (v := .ref q0_sa) (C := "ConeForgeModel") (T := FM) (N := 46) hx hb hts iM hown hK hP 0 rfl rfl 5 (by decide) (hts _ (bgc bw689)) (fun _ h9 => h9) rfl d_M_prepare_107 ?_
                refine lv_bipush (v := 8) hx hb d_M_prepare_110 (by decide) ?_
                refine lv_iload_n hx hb d_M_prepare_112 rfl (lv_at hl 1 rfl) ?_
                refine lv_imul hx hb d_M_prepare_113 ?_
                refine lv_iload hx hb d_M_prepare_114 (lv_at hl 4 rfl) ?_
                refine lv_iadd hx hb d_M_prepare_116 ?_
                obtain ⟨g9, h⟩ := gd_some h
                refine va_dald hx hb hK hP 1 0 rfl rfl (inb_in g9) d_M_prepare_117 ?_
                refine lv_aload_n hx hb d_M_prepare_118 rfl (lv_at hl 0 rfl) ?_
                refine va_get (D := D) (ci := 8) (v := .ref q0_h) (C := "ConeForgeModel") (T := FM) (N := 46) hx hb hts iM hown hK hP 0 rfl rfl 13 (by decide) (hts _ (bgc bw697)) (fun _ h9 => h9) rfl d_M_prepare_119 ?_
                refine lv_iload hx hb d_M_prepare_122 (lv_at hl 4 rfl) ?_
                obtain ⟨g10, h⟩ := gd_some h
                refine va_dald hx hb hK hP 6 0 rfl rfl (inb_in g10) d_M_prepare_124 ?_
                obtain ⟨g11, h⟩ := gd_some h
                refine lv_dmul hx hb d_M_prepare_125 (isn_n g11) ?_
                refine lv_aload_n hx hb d_M_prepare_126 rfl (lv_at hl 0 rfl) ?_
                refine va_get (D := D) (ci := 8) (v := .ref q0_sa) (C := "ConeForgeModel") (T := FM) (N := 46) hx hb hts iM hown hK hP 0 rfl rfl 5 (by decide) (hts _ (bgc bw689)) (fun _ h9 => h9) rfl d_M_prepare_127 ?_
                refine lv_bipush (v := 8) hx hb d_M_prepare_130 (by decide) ?_
                refine lv_iload hx hb d_M_prepare_132 (lv_at hl 2 rfl) ?_
                refine lv_imul hx hb d_M_prepare_134 ?_
                refine lv_iload hx hb d_M_prepare_135 (lv_at hl 4 rfl) ?_
                refine lv_iadd hx hb d_M_prepare_137 ?_
                obtain ⟨g12, h⟩ := gd_some h
                refine va_dald hx hb hK hP 1 0 rfl rfl (inb_in g12) d_M_prepare_138 ?_
                obtain ⟨g13, h⟩ := gd_some h
                refine lv_dmul hx hb d_M_prepare_139 (isn_n g13) ?_
                obtain ⟨g14, h⟩ := gd_some h
                refine lv_dadd hx hb d_M_prepare_140 (isn_n g14) ?_
                refine lv_dstore (lv' := [(5, .double (FP.dadd x5 (FP.dmul (FP.dmul (vq0_sa ((8 * x3) + x7).toNatClampNeg) (vq0_h x7.toNatClampNeg)) (vq0_sa ((8 * x4) + x7).toNatClampNeg)))), (0, .ref q0), (3, .int x3), (4, .int x4), (7, .int x7)]) hx hb d_M_prepare_141 hl (by decide) rfl (fun ls hl => ?_)
                refine lv_iinc (v := x7 + 1) (lv' := [(7, .int (x7 + 1)), (5, .double (FP.dadd x5 (FP.dmul (FP.dmul (vq0_sa ((8 * x3) + x7).toNatClampNeg) (vq0_h x7.toNatClampNeg)) (vq0_sa ((8 * x4) + x7).toNatClampNeg)))), (0, .ref q0), (3, .int x3), (4, .int x4)]) hx hb d_M_prepare_143 hl (k := 4) rfl rfl (by decide) rfl (fun ls hl => ?_)
                refine lv_goto (tgt := 95) hx hb d_M_prepare_146 (by decide) ?_
                exact kc95 _ (Option.some.inj h).symm H locs ls hP hD hS (lv_sub hl [2, 3, 4, 1, 0] rfl)
            · intro H locs ls hP hD hS hl
              refine lv_aload_n hx hb d_M_prepare_149 rfl (lv_at hl 0 rfl) ?_
              refine va_get (D := D) (ci := 8) (v := .ref q0_mm) (C := "ConeForgeModel") (T := FM) (N := 46) hx hb hts iM hown hK hP 0 rfl rfl 15 (by decide) (hts _ (bgc bw699)) (fun _ h9 => h9) rfl d_M_prepare_150 ?_
              refine lv_iconst (v := 5) hx hb d_M_prepare_153 (by decide) ?_
              refine lv_iload_n hx hb d_M_prepare_154 rfl (lv_at hl 1 rfl) ?_
              refine lv_imul hx hb d_M_prepare_155 ?_
              refine lv_iload hx hb d_M_prepare_156 (lv_at hl 2 rfl) ?_
              refine lv_iadd hx hb d_M_prepare_158 ?_
              refine lv_dload hx hb d_M_prepare_159 (lv_at hl 3 rfl) ?_
              obtain ⟨g15, h⟩ := gd_some h
              refine va_dast hx hb hK hP hD hS 8 0 rfl rfl (inb_in g15) d_M_prepare_161 (fun H locs hP hD hS => ?_)
              have hP : va_P D CL (w_M_prepare T q0 q0_a q0_b q0_c q0_rowScale q0_columnScale q0_sa q0_sb q0_sc q0_x q0_s q0_y q0_p q0_d q0_h q0_f q0_mm q0_low q0_dd q0_r q0_big q0_dt q0_dx q0_t q0_cost q0_rowScaleNow q0_columnScaleNow q0_basic q0_text q0_turned q0_na q0_nb q0_nc vq0_m vq0_n vq0_length vq0_where vq0_effort vq0_thrown vq0_at vq0_scaled vq0_solved vq0_second vq0_nm vq0_nn vq0_number vq0_bad vq0_sa vq0_x vq0_s vq0_p vq0_d vq0_h vq0_f (vf_upd vq0_mm ((5 * x3) + x4).toNatClampNeg ul95) vq0_r) H := hP
              have hD : va_D A (w_M_prepare T q0 q0_a q0_b q0_c q0_rowScale q0_columnScale q0_sa q0_sb q0_sc q0_x q0_s q0_y q0_p q0_d q0_h q0_f q0_mm q0_low q0_dd q0_r q0_big q0_dt q0_dx q0_t q0_cost q0_rowScaleNow q0_columnScaleNow q0_basic q0_text q0_turned q0_na q0_nb q0_nc vq0_m vq0_n vq0_length vq0_where vq0_effort vq0_thrown vq0_at vq0_scaled vq0_solved vq0_second vq0_nm vq0_nn vq0_number vq0_bad vq0_sa vq0_x vq0_s vq0_p vq0_d vq0_h vq0_f (vf_upd vq0_mm ((5 * x3) + x4).toNatClampNeg ul95) vq0_r) := hD
              refine lv_iinc (v := x4 + 1) (lv' := [(4, .int (x4 + 1)), (0, .ref q0), (3, .int x3), (5, .double ul95)]) hx hb d_M_prepare_162 hl (k := 2) rfl rfl (by decide) rfl (fun ls hl => ?_)
              refine lv_goto (tgt := 83) hx hb d_M_prepare_165 (by decide) ?_
              exact kc83 _ (Option.some.inj h).symm H locs ls hP hD hS (lv_sub hl [1, 2, 0] rfl)
          unfold s_M_prepare_B83 at h
          refine lv_iload hx hb d_M_prepare_83 (lv_at hl 2 rfl) ?_
          refine lv_iload_n hx hb d_M_prepare_85 rfl (lv_at hl 1 rfl) ?_
          refine lv_icmp_gt (tgt := 168) hx hb d_M_prepare_86 (by decide) (fun c16 => ?_) (fun c16 => ?_)
          · have h := it_t c16 h
            exact kx83 _ (Option.some.inj h).symm H locs ls hP hD hS (lv_sub hl [0, 1] rfl)
          · have h := it_f c16 h
            refine lv_dconst0 hx hb d_M_prepare_89 ?_
            refine lv_dstore (lv' := [(5, .double FP.dconst0), (0, .ref q0), (3, .int x3), (4, .int x4)]) hx hb d_M_prepare_90 hl (by decide) rfl (fun ls hl => ?_)
            refine lv_iconst (v := 0) hx hb d_M_prepare_92 (by decide) ?_
            refine lv_istore (lv' := [(7, .int 0), (5, .double FP.dconst0), (0, .ref q0), (3, .int x3), (4, .int x4)]) hx hb d_M_prepare_93 hl (by decide) rfl (fun ls hl => ?_)
            exact L95 vq0_mm x4 FP.dconst0 0 H locs ls hP hD hS (lv_sub hl [2, 3, 4, 1, 0] rfl) h
        · intro H locs ls hP hD hS hl
          refine lv_aload_n hx hb d_M_prepare_168 rfl (lv_at hl 0 rfl) ?_
          refine va_get (D := D) (ci := 8) (v := .ref q0_r) (C := "ConeForgeModel") (T := FM) (N := 46) hx hb hts iM hown hK hP 0 rfl rfl 18 (by decide) (hts _ (bgc bw702)) (fun _ h9 => h9) rfl d_M_prepare_169 ?_
          refine lv_iload_n hx hb d_M_prepare_172 rfl (lv_at hl 1 rfl) ?_
          refine lv_aload_n hx hb d_M_prepare_173 rfl (lv_at hl 0 rfl) ?_
          refine va_get (D := D) (ci := 8) (v := .ref q0_p) (C := "ConeForgeModel") (T := FM) (N := 46) hx hb hts iM hown hK hP 0 rfl rfl 11 (by decide) (hts _ (bgc bw695)) (fun _ h9 => h9) rfl d_M_prepare_174 ?_
          refine lv_iload_n hx hb d_M_prepare_177 rfl (lv_at hl 1 rfl) ?_
          obtain ⟨g17, h⟩ := gd_some h
          refine va_dald hx hb hK hP 4 0 rfl rfl (inb_in g17) d_M_prepare_178 ?_
          obtain ⟨g18, h⟩ := gd_some h
          refine va_dast hx hb hK hP hD hS 9 0 rfl rfl (inb_in g18) d_M_prepare_179 (fun H locs hP hD hS => ?_)
          have hP : va_P D CL (w_M_prepare T q0 q0_a q0_b q0_c q0_rowScale q0_columnScale q0_sa q0_sb q0_sc q0_x q0_s q0_y q0_p q0_d q0_h q0_f q0_mm q0_low q0_dd q0_r q0_big q0_dt q0_dx q0_t q0_cost q0_rowScaleNow q0_columnScaleNow q0_basic q0_text q0_turned q0_na q0_nb q0_nc vq0_m vq0_n vq0_length vq0_where vq0_effort vq0_thrown vq0_at vq0_scaled vq0_solved vq0_second vq0_nm vq0_nn vq0_number vq0_bad vq0_sa vq0_x vq0_s vq0_p vq0_d vq0_h vq0_f ul83 (vf_upd vq0_r x3.toNatClampNeg (vq0_p x3.toNatClampNeg))) H := hP
          have hD : va_D A (w_M_prepare T q0 q0_a q0_b q0_c q0_rowScale q0_columnScale q0_sa q0_sb q0_sc q0_x q0_s q0_y q0_p q0_d q0_h q0_f q0_mm q0_low q0_dd q0_r q0_big q0_dt q0_dx q0_t q0_cost q0_rowScaleNow q0_columnScaleNow q0_basic q0_text q0_turned q0_na q0_nb q0_nc vq0_m vq0_n vq0_length vq0_where vq0_effort vq0_thrown vq0_at vq0_scaled vq0_solved vq0_second vq0_nm vq0_nn vq0_number vq0_bad vq0_sa vq0_x vq0_s vq0_p vq0_d vq0_h vq0_f ul83 (vf_upd vq0_r x3.toNatClampNeg (vq0_p x3.toNatClampNeg))) := hD
          refine lv_iconst (v := 0) hx hb d_M_prepare_180 (by decide) ?_
          refine lv_istore (lv' := [(4, .int 0), (0, .ref q0), (3, .int x3)]) hx hb d_M_prepare_181 hl (by decide) rfl (fun ls hl => ?_)
          exact L183 ul83 (vf_upd vq0_r x3.toNatClampNeg (vq0_p x3.toNatClampNeg)) x3 0 H locs ls hP hD hS (lv_sub hl [1, 2, 0] rfl) h
      unfold s_M_prepare_B72 at h
      refine lv_iload_n hx hb d_M_prepare_72 rfl (lv_at hl 1 rfl) ?_
      refine lv_aload_n hx hb d_M_prepare_73 rfl (lv_at hl 0 rfl) ?_
      refine va_get (D := D) (ci := 8) (v := .int vq0_m) (C := "ConeForgeModel") (T := FM) (N := 46) hx hb hts iM hown hK hP 0 rfl rfl 29 (by decide) (hts _ (bgc bw713)) (fun _ h9 => h9) rfl d_M_prepare_74 ?_
      refine lv_icmp_ge (tgt := 237) hx hb d_M_prepare_77 (by decide) (fun c19 => ?_) (fun c19 => ?_)
      · have h := it_t c19 h
        exact kx72 _ (Option.some.inj h).symm H locs ls hP hD hS (lv_sub hl [] rfl)
      · have h := it_f c19 h
        refine lv_iconst (v := 0) hx hb d_M_prepare_80 (by decide) ?_
        refine lv_istore (lv' := [(4, .int 0), (0, .ref q0), (3, .int x3)]) hx hb d_M_prepare_81 hl (by decide) rfl (fun ls hl => ?_)
        exact L83 vq0_mm vq0_r x3 0 H locs ls hP hD hS (lv_sub hl [1, 2, 0] rfl) h
    · intro H locs ls hP hD hS hl
      exact rtV hx hb hr hlocks hQ (Option.some.inj h) hP hS d_M_prepare_237 rfl
  have L2 : ∀ (vq0_h : Nat → UInt64) (vq0_f : Nat → UInt64) (vq0_mm : Nat → UInt64) (vq0_r : Nat → UInt64) (x1 : UInt64) (x3 : Int32), ∀ (H : Heap) (locs : List Loc) (ls : Array Slot), va_P D CL (w_M_prepare T q0 q0_a q0_b q0_c q0_rowScale q0_columnScale q0_sa q0_sb q0_sc q0_x q0_s q0_y q0_p q0_d q0_h q0_f q0_mm q0_low q0_dd q0_r q0_big q0_dt q0_dx q0_t q0_cost q0_rowScaleNow q0_columnScaleNow q0_basic q0_text q0_turned q0_na q0_nb q0_nc vq0_m vq0_n vq0_length vq0_where vq0_effort vq0_thrown vq0_at vq0_scaled vq0_solved vq0_second vq0_nm vq0_nn vq0_number vq0_bad vq0_sa vq0_x vq0_s vq0_p vq0_d vq0_h vq0_f vq0_mm vq0_r) H → va_D A (w_M_prepare T q0 q0_a q0_b q0_c q0_rowScale q0_columnScale q0_sa q0_sb q0_sc q0_x q0_s q0_y q0_p q0_d q0_h q0_f q0_mm q0_low q0_dd q0_r q0_big q0_dt q0_dx q0_t q0_cost q0_rowScaleNow q0_columnScaleNow q0_basic q0_text q0_turned q0_na q0_nb q0_nc vq0_m vq0_n vq0_length vq0_where vq0_effort vq0_thrown vq0_at vq0_scaled vq0_solved vq0_second vq0_nm vq0_nn vq0_number vq0_bad vq0_sa vq0_x vq0_s vq0_p vq0_d vq0_h vq0_f vq0_mm vq0_r) → va_S A s.heap H locs → lv_has ls 8 [(0, .ref q0), (1, .double x1), (3, .int x3)] → s_M_prepare_L2 vq0_m vq0_n vq0_length vq0_where vq0_effort vq0_thrown vq0_at vq0_scaled vq0_solved vq0_second vq0_nm vq0_nn vq0_number vq0_bad vq0_sa vq0_x vq0_s vq0_p vq0_d vq0_h vq0_f vq0_mm vq0_r x1 x3 = some rm → W p l e (rmk 0 0) s m args below meth c H locs 0 0 Q (F0 m 2 ls []) := by
    intro vq0_h vq0_f vq0_mm vq0_r x1 x3 H locs ls hP hD hS hl h
    unfold s_M_prepare_L2 at h
    obtain ⟨ul2, hul2, h⟩ := bi_some h
    refine loopO_W (Wh := fun (st : (Nat → UInt64) × (Nat → UInt64) × Int32) => ∀ (H : Heap) (locs : List Loc) (ls : Array Slot), va_P D CL (w_M_prepare T q0 q0_a q0_b q0_c q0_rowScale q0_columnScale q0_sa q0_sb q0_sc q0_x q0_s q0_y q0_p q0_d q0_h q0_f q0_mm q0_low q0_dd q0_r q0_big q0_dt q0_dx q0_t q0_cost q0_rowScaleNow q0_columnScaleNow q0_basic q0_text q0_turned q0_na q0_nb q0_nc vq0_m vq0_n vq0_length vq0_where vq0_effort vq0_thrown vq0_at vq0_scaled vq0_solved vq0_second vq0_nm vq0_nn vq0_number vq0_bad vq0_sa vq0_x vq0_s vq0_p vq0_d st.1 st.2.1 vq0_mm vq0_r) H → va_D A (w_M_prepare T q0 q0_a q0_b q0_c q0_rowScale q0_columnScale q0_sa q0_sb q0_sc q0_x q0_s q0_y q0_p q0_d q0_h q0_f q0_mm q0_low q0_dd q0_r q0_big q0_dt q0_dx q0_t q0_cost q0_rowScaleNow q0_columnScaleNow q0_basic q0_text q0_turned q0_na q0_nb q0_nc vq0_m vq0_n vq0_length vq0_where vq0_effort vq0_thrown vq0_at vq0_scaled vq0_solved vq0_second vq0_nm vq0_nn vq0_number vq0_bad vq0_sa vq0_x vq0_s vq0_p vq0_d st.1 st.2.1 vq0_mm vq0_r) → va_S A s.heap H locs → lv_has ls 8 [(0, .ref q0), (1, .double x1), (3, .int st.2.2)] → W p l e (rmk 0 0) s m args below meth c H locs 0 0 Q (F0 m 2 ls [])) (Wx := fun (e1 : (Nat → UInt64) × (Nat → UInt64)) => ∀ (H : Heap) (locs : List Loc) (ls : Array Slot), va_P D CL (w_M_prepare T q0 q0_a q0_b q0_c q0_rowScale q0_columnScale q0_sa q0_sb q0_sc q0_x q0_s q0_y q0_p q0_d q0_h q0_f q0_mm q0_low q0_dd q0_r q0_big q0_dt q0_dx q0_t q0_cost q0_rowScaleNow q0_columnScaleNow q0_basic q0_text q0_turned q0_na q0_nb q0_nc vq0_m vq0_n vq0_length vq0_where vq0_effort vq0_thrown vq0_at vq0_scaled vq0_solved vq0_second vq0_nm vq0_nn vq0_number vq0_bad vq0_sa vq0_x vq0_s vq0_p vq0_d e1.1 e1.2 vq0_mm vq0_r) H → va_D A (w_M_prepare T q0 q0_a q0_b q0_c q0_rowScale q0_columnScale q0_sa q0_sb q0_sc q0_x q0_s q0_y q0_p q0_d q0_h q0_f q0_mm q0_low q0_dd q0_r q0_big q0_dt q0_dx q0_t q0_cost q0_rowScaleNow q0_columnScaleNow q0_basic q0_text q0_turned q0_na q0_nb q0_nc vq0_m vq0_n vq0_length vq0_where vq0_effort vq0_thrown vq0_at vq0_scaled vq0_solved vq0_second vq0_nm vq0_nn vq0_number vq0_bad vq0_sa vq0_x vq0_s vq0_p vq0_d e1.1 e1.2 vq0_mm vq0_r) → va_S A s.heap H locs → lv_has ls 8 [(0, .ref q0)] → W p l e (rmk 0 0) s m args below meth c H locs 0 0 Q (F0 m 70 ls [])) ?_ 2000 _ ul2 hul2 ?_ H locs ls hP hD hS hl
    · intro st rb2 h kc2 kx2 H locs ls hP hD hS hl
      obtain ⟨vq0_h, vq0_f, x3⟩ := st
      have h : s_M_prepare_B2 vq0_m vq0_n vq0_length vq0_where vq0_effort vq0_thrown vq0_at vq0_scaled vq0_solved vq0_second vq0_nm vq0_nn vq0_number vq0_bad vq0_sa vq0_x vq0_s vq0_p vq0_d vq0_mm vq0_r x1 vq0_h vq0_f x3 = some rb2 := h
      unfold s_M_prepare_B2 at h
      refine lv_iload_n hx hb d_M_prepare_2 rfl (lv_at hl 2 rfl) ?_
      refine lv_aload_n hx hb d_M_prepare_3 rfl (lv_at hl 0 rfl) ?_
      refine va_get (D := D) (ci := 8) (v := .int vq0_n) (C := "ConeForgeModel") (T := FM) (N := 46) hx hb hts iM hown hK hP 0 rfl rfl 30 (by decide) (hts _ (bgc bw714)) (fun _ h9 => h9) rfl d_M_prepare_4 ?_
      refine lv_icmp_ge (tgt := 70) hx hb d_M_prepare_7 (by decide) (fun c20 => ?_) (fun c20 => ?_)
      · have h := it_t c20 h
        exact kx2 _ (Option.some.inj h).symm H locs ls hP hD hS (lv_sub hl [0] rfl)
      · have h := it_f c20 h
        refine lv_aload_n hx hb d_M_prepare_10 rfl (lv_at hl 0 rfl) ?_
        refine va_get (D := D) (ci := 8) (v := .ref q0_h) (C := "ConeForgeModel") (T := FM) (N := 46) hx hb hts iM hown hK hP 0 rfl rfl 13 (by decide) (hts _ (bgc bw697)) (fun _ h9 => h9) rfl d_M_prepare_11 ?_
        refine lv_iload_n hx hb d_M_prepare_14 rfl (lv_at hl 2 rfl) ?_
        refine lv_aload_n hx hb d_M_prepare_15 rfl (lv_at hl 0 rfl) ?_
        refine va_get (D := D) (ci := 8) (v := .ref q0_x) (C := "ConeForgeModel") (T := FM) (N := 46) hx hb hts iM hown hK hP 0 rfl rfl 8 (by decide) (hts _ (bgc bw692)) (fun _ h9 => h9) rfl d_M_prepare_16 ?_
        refine lv_iload_n hx hb d_M_prepare_19 rfl (lv_at hl 2 rfl) ?_
        obtain ⟨g21, h⟩ := gd_some h
        refine va_dald hx hb hK hP 2 0 rfl rfl (inb_in g21) d_M_prepare_20 ?_
        refine lv_aload_n hx hb d_M_prepare_21 rfl (lv_at hl 0 rfl) ?_
        refine va_get (D := D) (ci := 8) (v := .ref q0_s) (C := "ConeForgeModel") (T := FM) (N := 46) hx hb hts iM hown hK hP 0 rfl rfl 9 (by decide) (hts _ (bgc bw693)) (fun _ h9 => h9) rfl d_M_prepare_22 ?_
        refine lv_iload_n hx hb d_M_prepare_25 rfl (lv_at hl 2 rfl) ?_
        obtain ⟨g22, h⟩ := gd_some h
        refine va_dald hx hb hK hP 3 0 rfl rfl (inb_in g22) d_M_prepare_26 ?_
        obtain ⟨g23, h⟩ := gd_some h
        refine lv_ddiv hx hb d_M_prepare_27 (isn_n g23) ?_
        obtain ⟨g24, h⟩ := gd_some h
        refine va_dast hx hb hK hP hD hS 6 0 rfl rfl (inb_in g24) d_M_prepare_28 (fun H locs hP hD hS => ?_)
        have hP : va_P D CL (w_M_prepare T q0 q0_a q0_b q0_c q0_rowScale q0_columnScale q0_sa q0_sb q0_sc q0_x q0_s q0_y q0_p q0_d q0_h q0_f q0_mm q0_low q0_dd q0_r q0_big q0_dt q0_dx q0_t q0_cost q0_rowScaleNow q0_columnScaleNow q0_basic q0_text q0_turned q0_na q0_nb q0_nc vq0_m vq0_n vq0_length vq0_where vq0_effort vq0_thrown vq0_at vq0_scaled vq0_solved vq0_second vq0_nm vq0_nn vq0_number vq0_bad vq0_sa vq0_x vq0_s vq0_p vq0_d (vf_upd vq0_h x3.toNatClampNeg (FP.ddiv (vq0_x x3.toNatClampNeg) (vq0_s x3.toNatClampNeg))) vq0_f vq0_mm vq0_r) H := hP
        have hD : va_D A (w_M_prepare T q0 q0_a q0_b q0_c q0_rowScale q0_columnScale q0_sa q0_sb q0_sc q0_x q0_s q0_y q0_p q0_d q0_h q0_f q0_mm q0_low q0_dd q0_r q0_big q0_dt q0_dx q0_t q0_cost q0_rowScaleNow q0_columnScaleNow q0_basic q0_text q0_turned q0_na q0_nb q0_nc vq0_m vq0_n vq0_length vq0_where vq0_effort vq0_thrown vq0_at vq0_scaled vq0_solved vq0_second vq0_nm vq0_nn vq0_number vq0_bad vq0_sa vq0_x vq0_s vq0_p vq0_d (vf_upd vq0_h x3.toNatClampNeg (FP.ddiv (vq0_x x3.toNatClampNeg) (vq0_s x3.toNatClampNeg))) vq0_f vq0_mm vq0_r) := hD
        refine lv_aload_n hx hb d_M_prepare_29 rfl (lv_at hl 0 rfl) ?_
        refine va_get (D := D) (ci := 8) (v := .ref q0_f) (C := "ConeForgeModel") (T := FM) (N := 46) hx hb hts iM hown hK hP 0 rfl rfl 14 (by decide) (hts _ (bgc bw698)) (fun _ h9 => h9) rfl d_M_prepare_30 ?_
        refine lv_iload_n hx hb d_M_prepare_33 rfl (lv_at hl 2 rfl) ?_
        refine lv_aload_n hx hb d_M_prepare_34 rfl (lv_at hl 0 rfl) ?_
        refine va_get (D := D) (ci := 8) (v := .ref q0_x) (C := "ConeForgeModel") (T := FM) (N := 46) hx hb hts iM hown hK hP 0 rfl rfl 8 (by decide) (hts _ (bgc bw692)) (fun _ h9 => h9) rfl d_M_prepare_35 ?_
        refine lv_iload_n hx hb d_M_prepare_38 rfl (lv_at hl 2 rfl) ?_
        obtain ⟨g25, h⟩ := gd_some h
        refine va_dald hx hb hK hP 2 0 rfl rfl (inb_in g25) d_M_prepare_39 ?_
        refine lv_dload_n hx hb d_M_prepare_40 rfl (lv_at hl 1 rfl) ?_
        refine lv_aload_n hx hb d_M_prepare_41 rfl (lv_at hl 0 rfl) ?_
        refine va_get (D := D) (ci := 8) (v := .ref q0_s) (C := "ConeForgeModel") (T := FM) (N := 46) hx hb hts iM hown hK hP 0 rfl rfl 9 (by decide) (hts _ (bgc bw693)) (fun _ h9 => h9) rfl d_M_prepare_42 ?_
        refine lv_iload_n hx hb d_M_prepare_45 rfl (lv_at hl 2 rfl) ?_
        obtain ⟨g26, h⟩ := gd_some h
        refine va_dald hx hb hK hP 3 0 rfl rfl (inb_in g26) d_M_prepare_46 ?_
        obtain ⟨g27, h⟩ := gd_some h
        refine lv_ddiv hx hb d_M_prepare_47 (isn_n g27) ?_
        obtain ⟨g28, h⟩ := gd_some h
        refine lv_dsub hx hb d_M_prepare_48 (isn_n g28) ?_
        refine lv_aload_n hx hb d_M_prepare_49 rfl (lv_at hl 0 rfl) ?_
        refine va_get (D := D) (ci := 8) (v := .ref q0_h) (C := "ConeForgeModel") (T := FM) (N := 46) hx hb hts iM hown hK hP 0 rfl rfl 13 (by decide) (hts _ (bgc bw697)) (fun _ h9 => h9) rfl d_M_prepare_50 ?_
        refine lv_iload_n hx hb d_M_prepare_53 rfl (lv_at hl 2 rfl) ?_
        obtain ⟨g29, h⟩ := gd_some h
        refine va_dald hx hb hK hP 6 0 rfl rfl (inb_in g29) d_M_prepare_54 ?_
        refine lv_aload_n hx hb d_M_prepare_55 rfl (lv_at hl 0 rfl) ?_
        refine va_get (D := D) (ci := 8) (v := .ref q0_d) (C := "ConeForgeModel") (T := FM) (N := 46) hx hb hts iM hown hK hP 0 rfl rfl 12 (by decide) (hts _ (bgc bw696)) (fun _ h9 => h9) rfl d_M_prepare_56 ?_
        refine lv_iload_n hx hb d_M_prepare_59 rfl (lv_at hl 2 rfl) ?_
        obtain ⟨g30, h⟩ := gd_some h
        refine va_dald hx hb hK hP 5 0 rfl rfl (inb_in g30) d_M_prepare_60 ?_
        obtain ⟨g31, h⟩ := gd_some h
        refine lv_dmul hx hb d_M_prepare_61 (isn_n g31) ?_
        obtain ⟨g32, h⟩ := gd_some h
        refine lv_dadd hx hb d_M_prepare_62 (isn_n g32) ?_
        obtain ⟨g33, h⟩ := gd_some h
        refine va_dast hx hb hK hP hD hS 7 0 rfl rfl (inb_in g33) d_M_prepare_63 (fun H locs hP hD hS => ?_)
        have hP : va_P D CL (w_M_prepare T q0 q0_a q0_b q0_c q0_rowScale q0_columnScale q0_sa q0_sb q0_sc q0_x q0_s q0_y q0_p q0_d q0_h q0_f q0_mm q0_low q0_dd q0_r q0_big q0_dt q0_dx q0_t q0_cost q0_rowScaleNow q0_columnScaleNow q0_basic q0_text q0_turned q0_na q0_nb q0_nc vq0_m vq0_n vq0_length vq0_where vq0_effort vq0_thrown vq0_at vq0_scaled vq0_solved vq0_second vq0_nm vq0_nn vq0_number vq0_bad vq0_sa vq0_x vq0_s vq0_p vq0_d (vf_upd vq0_h x3.toNatClampNeg (FP.ddiv (vq0_x x3.toNatClampNeg) (vq0_s x3.toNatClampNeg))) (vf_upd vq0_f x3.toNatClampNeg (FP.dadd (FP.dsub (vq0_x x3.toNatClampNeg) (FP.ddiv x1 (vq0_s x3.toNatClampNeg))) (FP.dmul ((vf_upd vq0_h x3.toNatClampNeg (FP.ddiv (vq0_x x3.toNatClampNeg) (vq0_s x3.toNatClampNeg))) x3.toNatClampNeg) (vq0_d x3.toNatClampNeg)))) vq0_mm vq0_r) H := hP
        have hD : va_D A (w_M_prepare T q0 q0_a q0_b q0_c q0_rowScale q0_columnScale q0_sa q0_sb q0_sc q0_x q0_s q0_y q0_p q0_d q0_h q0_f q0_mm q0_low q0_dd q0_r q0_big q0_dt q0_dx q0_t q0_cost q0_rowScaleNow q0_columnScaleNow q0_basic q0_text q0_turned q0_na q0_nb q0_nc vq0_m vq0_n vq0_length vq0_where vq0_effort vq0_thrown vq0_at vq0_scaled vq0_solved vq0_second vq0_nm vq0_nn vq0_number vq0_bad vq0_sa vq0_x vq0_s vq0_p vq0_d (vf_upd vq0_h x3.toNatClampNeg (FP.ddiv (vq0_x x3.toNatClampNeg) (vq0_s x3.toNatClampNeg))) (vf_upd vq0_f x3.toNatClampNeg (FP.dadd (FP.dsub (vq0_x x3.toNatClampNeg) (FP.ddiv x1 (vq0_s x3.toNatClampNeg))) (FP.dmul ((vf_upd vq0_h x3.toNatClampNeg (FP.ddiv (vq0_x x3.toNatClampNeg) (vq0_s x3.toNatClampNeg))) x3.toNatClampNeg) (vq0_d x3.toNatClampNeg)))) vq0_mm vq0_r) := hD
        refine lv_iinc (v := x3 + 1) (lv' := [(3, .int (x3 + 1)), (0, .ref q0), (1, .double x1)]) hx hb d_M_prepare_64 hl (k := 2) rfl rfl (by decide) rfl (fun ls hl => ?_)
        refine lv_goto (tgt := 2) hx hb d_M_prepare_67 (by decide) ?_
        exact kc2 _ (Option.some.inj h).symm H locs ls hP hD hS (lv_sub hl [1, 2, 0] rfl)
    · intro H locs ls hP hD hS hl
      refine lv_iconst (v := 0) hx hb d_M_prepare_70 (by decide) ?_
      refine lv_istore_n (lv' := [(3, .int 0), (0, .ref q0)]) hx hb d_M_prepare_71 rfl hl (by decide) rfl (fun ls hl => ?_)
      exact L72 ul2.1 ul2.2 vq0_mm vq0_r 0 H locs ls hP hD hS (lv_sub hl [1, 0] rfl) h
  unfold s_M_prepare at h
  refine lv_iconst (v := 0) hx hb d_M_prepare_0 (by decide) ?_
  refine lv_istore_n (lv' := [(3, .int 0), (0, .ref q0), (1, .double x1)]) hx hb d_M_prepare_1 rfl hl (by decide) rfl (fun ls hl => ?_)
  exact L2 vq0_h vq0_f vq0_mm vq0_r x1 0 H locs ls hP hD hS (lv_sub hl [1, 2, 0] rfl) h
