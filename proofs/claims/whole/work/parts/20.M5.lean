theorem d_M_read_0 : decode prog_10_method_17_code 0 = .ok (.aload_n 0, 1) := by decide +kernel
theorem d_M_read_1 : decode prog_10_method_17_code 1 = .ok (.iconst 0, 1) := by decide +kernel
theorem d_M_read_2 : decode prog_10_method_17_code 2 = .ok (.putfield 143, 3) := by decide +kernel
theorem d_M_read_5 : decode prog_10_method_17_code 5 = .ok (.aload_n 0, 1) := by decide +kernel
theorem d_M_read_6 : decode prog_10_method_17_code 6 = .ok (.iconst 0, 1) := by decide +kernel
theorem d_M_read_7 : decode prog_10_method_17_code 7 = .ok (.putfield 150, 3) := by decide +kernel
theorem d_M_read_10 : decode prog_10_method_17_code 10 = .ok (.aload_n 0, 1) := by decide +kernel
theorem d_M_read_11 : decode prog_10_method_17_code 11 = .ok (.bipush (-2), 2) := by decide +kernel
theorem d_M_read_13 : decode prog_10_method_17_code 13 = .ok (.putfield 106, 3) := by decide +kernel
theorem d_M_read_16 : decode prog_10_method_17_code 16 = .ok (.iconst 0, 1) := by decide +kernel
theorem d_M_read_17 : decode prog_10_method_17_code 17 = .ok (.istore_n 1, 1) := by decide +kernel
theorem d_M_read_18 : decode prog_10_method_17_code 18 = .ok (.iload_n 1, 1) := by decide +kernel
theorem d_M_read_19 : decode prog_10_method_17_code 19 = .ok (.bipush 40, 2) := by decide +kernel
theorem d_M_read_21 : decode prog_10_method_17_code 21 = .ok (.if_icmp .ge 16, 3) := by decide +kernel
theorem d_M_read_24 : decode prog_10_method_17_code 24 = .ok (.aload_n 0, 1) := by decide +kernel
theorem d_M_read_25 : decode prog_10_method_17_code 25 = .ok (.getfield 113, 3) := by decide +kernel
theorem d_M_read_28 : decode prog_10_method_17_code 28 = .ok (.iload_n 1, 1) := by decide +kernel
theorem d_M_read_29 : decode prog_10_method_17_code 29 = .ok (.dconst 0, 1) := by decide +kernel
theorem d_M_read_30 : decode prog_10_method_17_code 30 = .ok (.dastore, 1) := by decide +kernel
theorem d_M_read_31 : decode prog_10_method_17_code 31 = .ok (.iinc 1 1, 3) := by decide +kernel
theorem d_M_read_34 : decode prog_10_method_17_code 34 = .ok (.goto (-16), 3) := by decide +kernel
theorem d_M_read_37 : decode prog_10_method_17_code 37 = .ok (.aload_n 0, 1) := by decide +kernel
theorem d_M_read_38 : decode prog_10_method_17_code 38 = .ok (.invokevirtual 188, 3) := by decide +kernel
theorem d_M_read_41 : decode prog_10_method_17_code 41 = .ok (.istore_n 1, 1) := by decide +kernel
theorem d_M_read_42 : decode prog_10_method_17_code 42 = .ok (.aload_n 0, 1) := by decide +kernel
theorem d_M_read_43 : decode prog_10_method_17_code 43 = .ok (.aload_n 0, 1) := by decide +kernel
theorem d_M_read_44 : decode prog_10_method_17_code 44 = .ok (.getfield 150, 3) := by decide +kernel
theorem d_M_read_47 : decode prog_10_method_17_code 47 = .ok (.ifCond .eq 7, 3) := by decide +kernel
theorem d_M_read_50 : decode prog_10_method_17_code 50 = .ok (.iconst 1, 1) := by decide +kernel
theorem d_M_read_51 : decode prog_10_method_17_code 51 = .ok (.goto 4, 3) := by decide +kernel
theorem d_M_read_54 : decode prog_10_method_17_code 54 = .ok (.iconst 0, 1) := by decide +kernel
theorem d_M_read_55 : decode prog_10_method_17_code 55 = .ok (.putfield 122, 3) := by decide +kernel
theorem d_M_read_58 : decode prog_10_method_17_code 58 = .ok (.aload_n 0, 1) := by decide +kernel
theorem d_M_read_59 : decode prog_10_method_17_code 59 = .ok (.getfield 150, 3) := by decide +kernel
theorem d_M_read_62 : decode prog_10_method_17_code 62 = .ok (.ifCond .eq 5, 3) := by decide +kernel
theorem d_M_read_65 : decode prog_10_method_17_code 65 = .ok (.iconst 0, 1) := by decide +kernel
theorem d_M_read_66 : decode prog_10_method_17_code 66 = .ok (.ireturn, 1) := by decide +kernel
theorem d_M_read_67 : decode prog_10_method_17_code 67 = .ok (.aload_n 0, 1) := by decide +kernel
theorem d_M_read_68 : decode prog_10_method_17_code 68 = .ok (.aload_n 0, 1) := by decide +kernel
theorem d_M_read_69 : decode prog_10_method_17_code 69 = .ok (.getfield 180, 3) := by decide +kernel
theorem d_M_read_72 : decode prog_10_method_17_code 72 = .ok (.aload_n 0, 1) := by decide +kernel
theorem d_M_read_73 : decode prog_10_method_17_code 73 = .ok (.getfield 185, 3) := by decide +kernel
theorem d_M_read_76 : decode prog_10_method_17_code 76 = .ok (.invokevirtual 191, 3) := by decide +kernel
theorem d_M_read_79 : decode prog_10_method_17_code 79 = .ok (.pop, 1) := by decide +kernel
theorem d_M_read_80 : decode prog_10_method_17_code 80 = .ok (.iconst 0, 1) := by decide +kernel
theorem d_M_read_81 : decode prog_10_method_17_code 81 = .ok (.istore_n 2, 1) := by decide +kernel
theorem d_M_read_82 : decode prog_10_method_17_code 82 = .ok (.iload_n 2, 1) := by decide +kernel
theorem d_M_read_83 : decode prog_10_method_17_code 83 = .ok (.bipush 40, 2) := by decide +kernel
theorem d_M_read_85 : decode prog_10_method_17_code 85 = .ok (.if_icmp .ge 21, 3) := by decide +kernel
theorem d_M_read_88 : decode prog_10_method_17_code 88 = .ok (.aload_n 0, 1) := by decide +kernel
theorem d_M_read_89 : decode prog_10_method_17_code 89 = .ok (.getfield 7, 3) := by decide +kernel
theorem d_M_read_92 : decode prog_10_method_17_code 92 = .ok (.iload_n 2, 1) := by decide +kernel
theorem d_M_read_93 : decode prog_10_method_17_code 93 = .ok (.aload_n 0, 1) := by decide +kernel
theorem d_M_read_94 : decode prog_10_method_17_code 94 = .ok (.getfield 113, 3) := by decide +kernel
theorem d_M_read_97 : decode prog_10_method_17_code 97 = .ok (.iload_n 2, 1) := by decide +kernel
theorem d_M_read_98 : decode prog_10_method_17_code 98 = .ok (.daload, 1) := by decide +kernel
theorem d_M_read_99 : decode prog_10_method_17_code 99 = .ok (.dastore, 1) := by decide +kernel
theorem d_M_read_100 : decode prog_10_method_17_code 100 = .ok (.iinc 2 1, 3) := by decide +kernel
theorem d_M_read_103 : decode prog_10_method_17_code 103 = .ok (.goto (-21), 3) := by decide +kernel
theorem d_M_read_106 : decode prog_10_method_17_code 106 = .ok (.iconst 0, 1) := by decide +kernel
theorem d_M_read_107 : decode prog_10_method_17_code 107 = .ok (.istore_n 2, 1) := by decide +kernel
theorem d_M_read_108 : decode prog_10_method_17_code 108 = .ok (.iload_n 2, 1) := by decide +kernel
theorem d_M_read_109 : decode prog_10_method_17_code 109 = .ok (.aload_n 0, 1) := by decide +kernel
theorem d_M_read_110 : decode prog_10_method_17_code 110 = .ok (.getfield 99, 3) := by decide +kernel
theorem d_M_read_113 : decode prog_10_method_17_code 113 = .ok (.if_icmp .ge 21, 3) := by decide +kernel
theorem d_M_read_116 : decode prog_10_method_17_code 116 = .ok (.aload_n 0, 1) := by decide +kernel
theorem d_M_read_117 : decode prog_10_method_17_code 117 = .ok (.getfield 13, 3) := by decide +kernel
theorem d_M_read_120 : decode prog_10_method_17_code 120 = .ok (.iload_n 2, 1) := by decide +kernel
theorem d_M_read_121 : decode prog_10_method_17_code 121 = .ok (.aload_n 0, 1) := by decide +kernel
theorem d_M_read_122 : decode prog_10_method_17_code 122 = .ok (.getfield 116, 3) := by decide +kernel
theorem d_M_read_125 : decode prog_10_method_17_code 125 = .ok (.iload_n 2, 1) := by decide +kernel
theorem d_M_read_126 : decode prog_10_method_17_code 126 = .ok (.daload, 1) := by decide +kernel
theorem d_M_read_127 : decode prog_10_method_17_code 127 = .ok (.dastore, 1) := by decide +kernel
theorem d_M_read_128 : decode prog_10_method_17_code 128 = .ok (.iinc 2 1, 3) := by decide +kernel
theorem d_M_read_131 : decode prog_10_method_17_code 131 = .ok (.goto (-23), 3) := by decide +kernel
theorem d_M_read_134 : decode prog_10_method_17_code 134 = .ok (.iconst 0, 1) := by decide +kernel
theorem d_M_read_135 : decode prog_10_method_17_code 135 = .ok (.istore_n 2, 1) := by decide +kernel
theorem d_M_read_136 : decode prog_10_method_17_code 136 = .ok (.iload_n 2, 1) := by decide +kernel
theorem d_M_read_137 : decode prog_10_method_17_code 137 = .ok (.aload_n 0, 1) := by decide +kernel
theorem d_M_read_138 : decode prog_10_method_17_code 138 = .ok (.getfield 103, 3) := by decide +kernel
theorem d_M_read_141 : decode prog_10_method_17_code 141 = .ok (.if_icmp .ge 21, 3) := by decide +kernel
theorem d_M_read_144 : decode prog_10_method_17_code 144 = .ok (.aload_n 0, 1) := by decide +kernel
theorem d_M_read_145 : decode prog_10_method_17_code 145 = .ok (.getfield 16, 3) := by decide +kernel
theorem d_M_read_148 : decode prog_10_method_17_code 148 = .ok (.iload_n 2, 1) := by decide +kernel
theorem d_M_read_149 : decode prog_10_method_17_code 149 = .ok (.aload_n 0, 1) := by decide +kernel
theorem d_M_read_150 : decode prog_10_method_17_code 150 = .ok (.getfield 119, 3) := by decide +kernel
theorem d_M_read_153 : decode prog_10_method_17_code 153 = .ok (.iload_n 2, 1) := by decide +kernel
theorem d_M_read_154 : decode prog_10_method_17_code 154 = .ok (.daload, 1) := by decide +kernel
theorem d_M_read_155 : decode prog_10_method_17_code 155 = .ok (.dastore, 1) := by decide +kernel
theorem d_M_read_156 : decode prog_10_method_17_code 156 = .ok (.iinc 2 1, 3) := by decide +kernel
theorem d_M_read_159 : decode prog_10_method_17_code 159 = .ok (.goto (-23), 3) := by decide +kernel
theorem d_M_read_162 : decode prog_10_method_17_code 162 = .ok (.aload_n 0, 1) := by decide +kernel
theorem d_M_read_163 : decode prog_10_method_17_code 163 = .ok (.iconst 0, 1) := by decide +kernel
theorem d_M_read_164 : decode prog_10_method_17_code 164 = .ok (.putfield 140, 3) := by decide +kernel
theorem d_M_read_167 : decode prog_10_method_17_code 167 = .ok (.iload_n 1, 1) := by decide +kernel
theorem d_M_read_168 : decode prog_10_method_17_code 168 = .ok (.ireturn, 1) := by decide +kernel
abbrev w_M_read (T : Nat → ClassId) (q0 : Nat) (q0_a : Nat) (q0_b : Nat) (q0_c : Nat) (q0_rowScale : Nat) (q0_columnScale : Nat) (q0_sa : Nat) (q0_sb : Nat) (q0_sc : Nat) (q0_x : Nat) (q0_s : Nat) (q0_y : Nat) (q0_p : Nat) (q0_d : Nat) (q0_h : Nat) (q0_f : Nat) (q0_mm : Nat) (q0_low : Nat) (q0_dd : Nat) (q0_r : Nat) (q0_big : Nat) (q0_dt : Nat) (q0_dx : Nat) (q0_t : Nat) (q0_cost : Nat) (q0_rowScaleNow : Nat) (q0_columnScaleNow : Nat) (q0_basic : Nat) (q0_text : Nat) (q0_turned : Nat) (q0_na : Nat) (q0_nb : Nat) (q0_nc : Nat) (vq0_m : Int32) (vq0_n : Int32) (vq0_length : Int32) (vq0_where : Int32) (vq0_effort : Int32) (vq0_thrown : Int32) (vq0_at : Int32) (vq0_scaled : Int32) (vq0_solved : Int32) (vq0_second : Int32) (vq0_nm : Int32) (vq0_nn : Int32) (vq0_number : UInt64) (vq0_bad : Int32) (vq0_a : Nat → UInt64) (vq0_b : Nat → UInt64) (vq0_c : Nat → UInt64) (vq0_text : Nat → Int32) (vq0_na : Nat → UInt64) (vq0_nb : Nat → UInt64) (vq0_nc : Nat → UInt64) : va_W := [(q0, .inr (8, [.ref q0_a, .ref q0_b, .ref q0_c, .ref q0_rowScale, .ref q0_columnScale, .ref q0_sa, .ref q0_sb, .ref q0_sc, .ref q0_x, .ref q0_s, .ref q0_y, .ref q0_p, .ref q0_d, .ref q0_h, .ref q0_f, .ref q0_mm, .ref q0_low, .ref q0_dd, .ref q0_r, .ref q0_big, .ref q0_dt, .ref q0_dx, .ref q0_t, .ref q0_cost, .ref q0_rowScaleNow, .ref q0_columnScaleNow, .ref q0_basic, .ref q0_text, .ref q0_turned, .int vq0_m, .int vq0_n, .int vq0_length, .int vq0_where, .int vq0_effort, .int vq0_thrown, .int vq0_at, .int vq0_scaled, .int vq0_solved, .int vq0_second, .ref q0_na, .ref q0_nb, .ref q0_nc, .int vq0_nm, .int vq0_nn, .double vq0_number, .int vq0_bad])), (q0_a, .inl (T 0, 40, .inr (.inr (.inr (.inl vq0_a))))), (q0_b, .inl (T 0, 5, .inr (.inr (.inr (.inl vq0_b))))), (q0_c, .inl (T 0, 8, .inr (.inr (.inr (.inl vq0_c))))), (q0_text, .inl (T 1, 300, .inl vq0_text)), (q0_na, .inl (T 0, 40, .inr (.inr (.inr (.inl vq0_na))))), (q0_nb, .inl (T 0, 5, .inr (.inr (.inr (.inl vq0_nb))))), (q0_nc, .inl (T 0, 8, .inr (.inr (.inr (.inl vq0_nc)))))]
def s_M_read_B136 (vq0_m : Int32) (vq0_n : Int32) (vq0_length : Int32) (vq0_where : Int32) (vq0_effort : Int32) (vq0_thrown : Int32) (vq0_at : Int32) (vq0_scaled : Int32) (vq0_solved : Int32) (vq0_second : Int32) (vq0_nm : Int32) (vq0_nn : Int32) (vq0_number : UInt64) (vq0_bad : Int32) (vq0_a : Nat → UInt64) (vq0_b : Nat → UInt64) (vq0_text : Nat → Int32) (vq0_na : Nat → UInt64) (vq0_nb : Nat → UInt64) (vq0_nc : Nat → UInt64) (x1 : Int32) (vq0_c : Nat → UInt64) (x2 : Int32) : Option (((Nat → UInt64) × Int32) ⊕ ((Nat → UInt64))) :=
  if vq0_n ≤ x2 then (some (.inr vq0_c)) else (gd (inb x2 8) <| gd (inb x2 8) <| some (.inl (vf_upd vq0_c x2.toNatClampNeg (vq0_nc x2.toNatClampNeg), x2 + 1)))
def s_M_read_L136 (vq0_m : Int32) (vq0_n : Int32) (vq0_length : Int32) (vq0_where : Int32) (vq0_effort : Int32) (vq0_thrown : Int32) (vq0_at : Int32) (vq0_scaled : Int32) (vq0_solved : Int32) (vq0_second : Int32) (vq0_nm : Int32) (vq0_nn : Int32) (vq0_number : UInt64) (vq0_bad : Int32) (vq0_a : Nat → UInt64) (vq0_b : Nat → UInt64) (vq0_c : Nat → UInt64) (vq0_text : Nat → Int32) (vq0_na : Nat → UInt64) (vq0_nb : Nat → UInt64) (vq0_nc : Nat → UInt64) (x1 : Int32) (x2 : Int32) : Option (Int32 × Int32 × Int32 × Int32 × Int32 × Int32 × Int32 × Int32 × Int32 × Int32 × UInt64 × Int32 × (Nat → UInt64) × (Nat → UInt64) × (Nat → UInt64) × (Nat → UInt64) × (Nat → UInt64) × (Nat → UInt64)) :=
  (loopO (fun (st : (Nat → UInt64) × Int32) => s_M_read_B136 vq0_m vq0_n vq0_length vq0_where vq0_effort vq0_thrown vq0_at vq0_scaled vq0_solved vq0_second vq0_nm vq0_nn vq0_number vq0_bad vq0_a vq0_b vq0_text vq0_na vq0_nb vq0_nc x1 st.1 st.2) 2000 (vq0_c, x2)).bind fun u136 => some (x1, vq0_m, vq0_n, 0, vq0_where, vq0_thrown, vq0_at, vq0_solved, vq0_nm, vq0_nn, vq0_number, vq0_bad, vq0_a, vq0_b, u136, vq0_na, vq0_nb, vq0_nc)
def s_M_read_B108 (vq0_m : Int32) (vq0_n : Int32) (vq0_length : Int32) (vq0_where : Int32) (vq0_effort : Int32) (vq0_thrown : Int32) (vq0_at : Int32) (vq0_scaled : Int32) (vq0_solved : Int32) (vq0_second : Int32) (vq0_nm : Int32) (vq0_nn : Int32) (vq0_number : UInt64) (vq0_bad : Int32) (vq0_a : Nat → UInt64) (vq0_c : Nat → UInt64) (vq0_text : Nat → Int32) (vq0_na : Nat → UInt64) (vq0_nb : Nat → UInt64) (vq0_nc : Nat → UInt64) (x1 : Int32) (vq0_b : Nat → UInt64) (x2 : Int32) : Option (((Nat → UInt64) × Int32) ⊕ ((Nat → UInt64))) :=
  if vq0_m ≤ x2 then (some (.inr vq0_b)) else (gd (inb x2 5) <| gd (inb x2 5) <| some (.inl (vf_upd vq0_b x2.toNatClampNeg (vq0_nb x2.toNatClampNeg), x2 + 1)))
def s_M_read_L108 (vq0_m : Int32) (vq0_n : Int32) (vq0_length : Int32) (vq0_where : Int32) (vq0_effort : Int32) (vq0_thrown : Int32) (vq0_at : Int32) (vq0_scaled : Int32) (vq0_solved : Int32) (vq0_second : Int32) (vq0_nm : Int32) (vq0_nn : Int32) (vq0_number : UInt64) (vq0_bad : Int32) (vq0_a : Nat → UInt64) (vq0_b : Nat → UInt64) (vq0_c : Nat → UInt64) (vq0_text : Nat → Int32) (vq0_na : Nat → UInt64) (vq0_nb : Nat → UInt64) (vq0_nc : Nat → UInt64) (x1 : Int32) (x2 : Int32) : Option (Int32 × Int32 × Int32 × Int32 × Int32 × Int32 × Int32 × Int32 × Int32 × Int32 × UInt64 × Int32 × (Nat → UInt64) × (Nat → UInt64) × (Nat → UInt64) × (Nat → UInt64) × (Nat → UInt64) × (Nat → UInt64)) :=
  (loopO (fun (st : (Nat → UInt64) × Int32) => s_M_read_B108 vq0_m vq0_n vq0_length vq0_where vq0_effort vq0_thrown vq0_at vq0_scaled vq0_solved vq0_second vq0_nm vq0_nn vq0_number vq0_bad vq0_a vq0_c vq0_text vq0_na vq0_nb vq0_nc x1 st.1 st.2) 2000 (vq0_b, x2)).bind fun u108 => s_M_read_L136 vq0_m vq0_n vq0_length vq0_where vq0_effort vq0_thrown vq0_at vq0_scaled vq0_solved vq0_second vq0_nm vq0_nn vq0_number vq0_bad vq0_a u108 vq0_c vq0_text vq0_na vq0_nb vq0_nc x1 0
def s_M_read_B82 (vq0_m : Int32) (vq0_n : Int32) (vq0_length : Int32) (vq0_where : Int32) (vq0_effort : Int32) (vq0_thrown : Int32) (vq0_at : Int32) (vq0_scaled : Int32) (vq0_solved : Int32) (vq0_second : Int32) (vq0_nm : Int32) (vq0_nn : Int32) (vq0_number : UInt64) (vq0_bad : Int32) (vq0_b : Nat → UInt64) (vq0_c : Nat → UInt64) (vq0_text : Nat → Int32) (vq0_na : Nat → UInt64) (vq0_nb : Nat → UInt64) (vq0_nc : Nat → UInt64) (x1 : Int32) (vq0_a : Nat → UInt64) (x2 : Int32) : Option (((Nat → UInt64) × Int32) ⊕ ((Nat → UInt64))) :=
  if 40 ≤ x2 then (some (.inr vq0_a)) else (gd (inb x2 40) <| gd (inb x2 40) <| some (.inl (vf_upd vq0_a x2.toNatClampNeg (vq0_na x2.toNatClampNeg), x2 + 1)))
def s_M_read_L82 (vq0_m : Int32) (vq0_n : Int32) (vq0_length : Int32) (vq0_where : Int32) (vq0_effort : Int32) (vq0_thrown : Int32) (vq0_at : Int32) (vq0_scaled : Int32) (vq0_solved : Int32) (vq0_second : Int32) (vq0_nm : Int32) (vq0_nn : Int32) (vq0_number : UInt64) (vq0_bad : Int32) (vq0_a : Nat → UInt64) (vq0_b : Nat → UInt64) (vq0_c : Nat → UInt64) (vq0_text : Nat → Int32) (vq0_na : Nat → UInt64) (vq0_nb : Nat → UInt64) (vq0_nc : Nat → UInt64) (x1 : Int32) (x2 : Int32) : Option (Int32 × Int32 × Int32 × Int32 × Int32 × Int32 × Int32 × Int32 × Int32 × Int32 × UInt64 × Int32 × (Nat → UInt64) × (Nat → UInt64) × (Nat → UInt64) × (Nat → UInt64) × (Nat → UInt64) × (Nat → UInt64)) :=
  (loopO (fun (st : (Nat → UInt64) × Int32) => s_M_read_B82 vq0_m vq0_n vq0_length vq0_where vq0_effort vq0_thrown vq0_at vq0_scaled vq0_solved vq0_second vq0_nm vq0_nn vq0_number vq0_bad vq0_b vq0_c vq0_text vq0_na vq0_nb vq0_nc x1 st.1 st.2) 2000 (vq0_a, x2)).bind fun u82 => s_M_read_L108 vq0_m vq0_n vq0_length vq0_where vq0_effort vq0_thrown vq0_at vq0_scaled vq0_solved vq0_second vq0_nm vq0_nn vq0_number vq0_bad u82 vq0_b vq0_c vq0_text vq0_na vq0_nb vq0_nc x1 0
def s_M_read_B18 (vq0_m : Int32) (vq0_n : Int32) (vq0_length : Int32) (vq0_where : Int32) (vq0_effort : Int32) (vq0_thrown : Int32) (vq0_at : Int32) (vq0_scaled : Int32) (vq0_solved : Int32) (vq0_second : Int32) (vq0_nm : Int32) (vq0_nn : Int32) (vq0_number : UInt64) (vq0_bad : Int32) (vq0_a : Nat → UInt64) (vq0_b : Nat → UInt64) (vq0_c : Nat → UInt64) (vq0_text : Nat → Int32) (vq0_nb : Nat → UInt64) (vq0_nc : Nat → UInt64) (vq0_na : Nat → UInt64) (x1 : Int32) : Option (((Nat → UInt64) × Int32) ⊕ ((Nat → UInt64))) :=
  if 40 ≤ x1 then (some (.inr vq0_na)) else (gd (inb x1 40) <| some (.inl (vf_upd vq0_na x1.toNatClampNeg FP.dconst0, x1 + 1)))
def s_M_read_L18 (vq0_m : Int32) (vq0_n : Int32) (vq0_length : Int32) (vq0_where : Int32) (vq0_effort : Int32) (vq0_thrown : Int32) (vq0_at : Int32) (vq0_scaled : Int32) (vq0_solved : Int32) (vq0_second : Int32) (vq0_nm : Int32) (vq0_nn : Int32) (vq0_number : UInt64) (vq0_bad : Int32) (vq0_a : Nat → UInt64) (vq0_b : Nat → UInt64) (vq0_c : Nat → UInt64) (vq0_text : Nat → Int32) (vq0_na : Nat → UInt64) (vq0_nb : Nat → UInt64) (vq0_nc : Nat → UInt64) (x1 : Int32) : Option (Int32 × Int32 × Int32 × Int32 × Int32 × Int32 × Int32 × Int32 × Int32 × Int32 × UInt64 × Int32 × (Nat → UInt64) × (Nat → UInt64) × (Nat → UInt64) × (Nat → UInt64) × (Nat → UInt64) × (Nat → UInt64)) :=
  (loopO (fun (st : (Nat → UInt64) × Int32) => s_M_read_B18 vq0_m vq0_n vq0_length vq0_where vq0_effort vq0_thrown vq0_at vq0_scaled vq0_solved vq0_second vq0_nm vq0_nn vq0_number vq0_bad vq0_a vq0_b vq0_c vq0_text vq0_nb vq0_nc st.1 st.2) 2000 (vq0_na, x1)).bind fun u18 => (s_M_readAll vq0_m vq0_n vq0_length vq0_where vq0_effort vq0_thrown vq0_at vq0_scaled vq0_solved vq0_second vq0_nm vq0_nn vq0_number vq0_bad vq0_text u18 vq0_nb vq0_nc).bind fun u12 => if u12.2.2.2.2.2.2.1 = 0 then (if u12.2.2.2.2.2.2.1 = 0 then ((s_M_begin vq0_m vq0_n vq0_length u12.2.1 vq0_effort 0 u12.2.2.1 vq0_scaled vq0_solved vq0_second u12.2.2.2.1 u12.2.2.2.2.1 u12.2.2.2.2.2.1 u12.2.2.2.2.2.2.1 vq0_a vq0_b vq0_c u12.2.2.2.1 u12.2.2.2.2.1).bind fun u15 => s_M_read_L82 u15.2.1 u15.2.2.1 vq0_length u12.2.1 vq0_effort u15.2.2.2.1 u12.2.2.1 vq0_scaled u15.2.2.2.2.1 vq0_second u12.2.2.2.1 u12.2.2.2.2.1 u12.2.2.2.2.2.1 u12.2.2.2.2.2.2.1 u15.2.2.2.2.2.1 u15.2.2.2.2.2.2.1 u15.2.2.2.2.2.2.2 vq0_text u12.2.2.2.2.2.2.2.1 u12.2.2.2.2.2.2.2.2.1 u12.2.2.2.2.2.2.2.2.2 u12.1 0) else (some (0, vq0_m, vq0_n, vq0_length, u12.2.1, 0, u12.2.2.1, vq0_solved, u12.2.2.2.1, u12.2.2.2.2.1, u12.2.2.2.2.2.1, u12.2.2.2.2.2.2.1, vq0_a, vq0_b, vq0_c, u12.2.2.2.2.2.2.2.1, u12.2.2.2.2.2.2.2.2.1, u12.2.2.2.2.2.2.2.2.2))) else (if u12.2.2.2.2.2.2.1 = 0 then ((s_M_begin vq0_m vq0_n vq0_length u12.2.1 vq0_effort 1 u12.2.2.1 vq0_scaled vq0_solved vq0_second u12.2.2.2.1 u12.2.2.2.2.1 u12.2.2.2.2.2.1 u12.2.2.2.2.2.2.1 vq0_a vq0_b vq0_c u12.2.2.2.1 u12.2.2.2.2.1).bind fun u17 => s_M_read_L82 u17.2.1 u17.2.2.1 vq0_length u12.2.1 vq0_effort u17.2.2.2.1 u12.2.2.1 vq0_scaled u17.2.2.2.2.1 vq0_second u12.2.2.2.1 u12.2.2.2.2.1 u12.2.2.2.2.2.1 u12.2.2.2.2.2.2.1 u17.2.2.2.2.2.1 u17.2.2.2.2.2.2.1 u17.2.2.2.2.2.2.2 vq0_text u12.2.2.2.2.2.2.2.1 u12.2.2.2.2.2.2.2.2.1 u12.2.2.2.2.2.2.2.2.2 u12.1 0) else (some (0, vq0_m, vq0_n, vq0_length, u12.2.1, 1, u12.2.2.1, vq0_solved, u12.2.2.2.1, u12.2.2.2.2.1, u12.2.2.2.2.2.1, u12.2.2.2.2.2.2.1, vq0_a, vq0_b, vq0_c, u12.2.2.2.2.2.2.2.1, u12.2.2.2.2.2.2.2.2.1, u12.2.2.2.2.2.2.2.2.2)))
def s_M_read (vq0_m : Int32) (vq0_n : Int32) (vq0_length : Int32) (vq0_where : Int32) (vq0_effort : Int32) (vq0_thrown : Int32) (vq0_at : Int32) (vq0_scaled : Int32) (vq0_solved : Int32) (vq0_second : Int32) (vq0_nm : Int32) (vq0_nn : Int32) (vq0_number : UInt64) (vq0_bad : Int32) (vq0_a : Nat → UInt64) (vq0_b : Nat → UInt64) (vq0_c : Nat → UInt64) (vq0_text : Nat → Int32) (vq0_na : Nat → UInt64) (vq0_nb : Nat → UInt64) (vq0_nc : Nat → UInt64) : Option (Int32 × Int32 × Int32 × Int32 × Int32 × Int32 × Int32 × Int32 × Int32 × Int32 × UInt64 × Int32 × (Nat → UInt64) × (Nat → UInt64) × (Nat → UInt64) × (Nat → UInt64) × (Nat → UInt64) × (Nat → UInt64)) :=
  gd (isb 0) <| s_M_read_L18 vq0_m vq0_n vq0_length (-2) vq0_effort vq0_thrown 0 vq0_scaled vq0_solved vq0_second vq0_nm vq0_nn vq0_number 0 vq0_a vq0_b vq0_c vq0_text vq0_na vq0_nb vq0_nc 0
set_option maxHeartbeats 4000000 in
set_option maxRecDepth 100000 in
theorem c_M_read (l : Launch) (D : va_G) (T : Nat → ClassId) (q0 : Nat) (q0_a : Nat) (q0_b : Nat) (q0_c : Nat) (q0_rowScale : Nat) (q0_columnScale : Nat) (q0_sa : Nat) (q0_sb : Nat) (q0_sc : Nat) (q0_x : Nat) (q0_s : Nat) (q0_y : Nat) (q0_p : Nat) (q0_d : Nat) (q0_h : Nat) (q0_f : Nat) (q0_mm : Nat) (q0_low : Nat) (q0_dd : Nat) (q0_r : Nat) (q0_big : Nat) (q0_dt : Nat) (q0_dx : Nat) (q0_t : Nat) (q0_cost : Nat) (q0_rowScaleNow : Nat) (q0_columnScaleNow : Nat) (q0_basic : Nat) (q0_text : Nat) (q0_turned : Nat) (q0_na : Nat) (q0_nb : Nat) (q0_nc : Nat) (vq0_m : Int32) (vq0_n : Int32) (vq0_length : Int32) (vq0_where : Int32) (vq0_effort : Int32) (vq0_thrown : Int32) (vq0_at : Int32) (vq0_scaled : Int32) (vq0_solved : Int32) (vq0_second : Int32) (vq0_nm : Int32) (vq0_nn : Int32) (vq0_number : UInt64) (vq0_bad : Int32) (vq0_a : Nat → UInt64) (vq0_b : Nat → UInt64) (vq0_c : Nat → UInt64) (vq0_text : Nat → Int32) (vq0_na : Nat → UInt64) (vq0_nb : Nat → UInt64) (vq0_nc : Nat → UInt64) (rm : Int32 × Int32 × Int32 × Int32 × Int32 × Int32 × Int32 × Int32 × Int32 × Int32 × UInt64 × Int32 × (Nat → UInt64) × (Nat → UInt64) × (Nat → UInt64) × (Nat → UInt64) × (Nat → UInt64) × (Nat → UInt64)) (h : s_M_read vq0_m vq0_n vq0_length vq0_where vq0_effort vq0_thrown vq0_at vq0_scaled vq0_solved vq0_second vq0_nm vq0_nn vq0_number vq0_bad vq0_a vq0_b vq0_c vq0_text vq0_na vq0_nb vq0_nc = some rm) : CtI l y_M_read (Cond.code y_M_read prog_10_method_17_code 3 (some .int) :: BIG) 5 115 D T [.ref q0] (w_M_read T q0 q0_a q0_b q0_c q0_rowScale q0_columnScale q0_sa q0_sb q0_sc q0_x q0_s q0_y q0_p q0_d q0_h q0_f q0_mm q0_low q0_dd q0_r q0_big q0_dt q0_dx q0_t q0_cost q0_rowScaleNow q0_columnScaleNow q0_basic q0_text q0_turned q0_na q0_nb q0_nc vq0_m vq0_n vq0_length vq0_where vq0_effort vq0_thrown vq0_at vq0_scaled vq0_solved vq0_second vq0_nm vq0_nn vq0_number vq0_bad vq0_a vq0_b vq0_c vq0_text vq0_na vq0_nb vq0_nc) (fun r => r.1) (fun r => (w_M_read T q0 q0_a q0_b q0_c q0_rowScale q0_columnScale q0_sa q0_sb q0_sc q0_x q0_s q0_y q0_p q0_d q0_h q0_f q0_mm q0_low q0_dd q0_r q0_big q0_dt q0_dx q0_t q0_cost q0_rowScaleNow q0_columnScaleNow q0_basic q0_text q0_turned q0_na q0_nb q0_nc r.2.1 r.2.2.1 r.2.2.2.1 r.2.2.2.2.1 vq0_effort r.2.2.2.2.2.1 r.2.2.2.2.2.2.1 vq0_scaled r.2.2.2.2.2.2.2.1 vq0_second r.2.2.2.2.2.2.2.2.1 r.2.2.2.2.2.2.2.2.2.1 r.2.2.2.2.2.2.2.2.2.2.1 r.2.2.2.2.2.2.2.2.2.2.2.1 r.2.2.2.2.2.2.2.2.2.2.2.2.1 r.2.2.2.2.2.2.2.2.2.2.2.2.2.1 r.2.2.2.2.2.2.2.2.2.2.2.2.2.2.1 vq0_text r.2.2.2.2.2.2.2.2.2.2.2.2.2.2.2.1 r.2.2.2.2.2.2.2.2.2.2.2.2.2.2.2.2.1 r.2.2.2.2.2.2.2.2.2.2.2.2.2.2.2.2.2)) rm := by
  refine cf_entry (y := y_M_read) (cc := prog_10_method_17_code) (nL := 3) (ret := (some .int)) (fr := 5) (lo := 115) (T := T) (av := [.ref q0]) (w := (w_M_read T q0 q0_a q0_b q0_c q0_rowScale q0_columnScale q0_sa q0_sb q0_sc q0_x q0_s q0_y q0_p q0_d q0_h q0_f q0_mm q0_low q0_dd q0_r q0_big q0_dt q0_dx q0_t q0_cost q0_rowScaleNow q0_columnScaleNow q0_basic q0_text q0_turned q0_na q0_nb q0_nc vq0_m vq0_n vq0_length vq0_where vq0_effort vq0_thrown vq0_at vq0_scaled vq0_solved vq0_second vq0_nm vq0_nn vq0_number vq0_bad vq0_a vq0_b vq0_c vq0_text vq0_na vq0_nb vq0_nc)) (Qc := cfQi D (fun r => r.1) (fun r => (w_M_read T q0 q0_a q0_b q0_c q0_rowScale q0_columnScale q0_sa q0_sb q0_sc q0_x q0_s q0_y q0_p q0_d q0_h q0_f q0_mm q0_low q0_dd q0_r q0_big q0_dt q0_dx q0_t q0_cost q0_rowScaleNow q0_columnScaleNow q0_basic q0_text q0_turned q0_na q0_nb q0_nc r.2.1 r.2.2.1 r.2.2.2.1 r.2.2.2.2.1 vq0_effort r.2.2.2.2.2.1 r.2.2.2.2.2.2.1 vq0_scaled r.2.2.2.2.2.2.2.1 vq0_second r.2.2.2.2.2.2.2.2.1 r.2.2.2.2.2.2.2.2.2.1 r.2.2.2.2.2.2.2.2.2.2.1 r.2.2.2.2.2.2.2.2.2.2.2.1 r.2.2.2.2.2.2.2.2.2.2.2.2.1 r.2.2.2.2.2.2.2.2.2.2.2.2.2.1 r.2.2.2.2.2.2.2.2.2.2.2.2.2.2.1 vq0_text r.2.2.2.2.2.2.2.2.2.2.2.2.2.2.2.1 r.2.2.2.2.2.2.2.2.2.2.2.2.2.2.2.2.1 r.2.2.2.2.2.2.2.2.2.2.2.2.2.2.2.2.2)) rm) (by decide) rfl (Nat.le_of_ble_eq_true rfl) ?_
  intro p e s m args below meth c A Q H locs ls hx hb hr hlocks hml hown hts hNW hK hA hQ hP hD hS hl
  have hown : s.vm.findClass "ConeForgeModel" = some m.cls := hown
  have hl : lv_has ls 3 [(0, .ref q0)] := hl
  have L136 : ∀ (vq0_m : Int32) (vq0_n : Int32) (vq0_length : Int32) (vq0_where : Int32) (vq0_thrown : Int32) (vq0_at : Int32) (vq0_solved : Int32) (vq0_nm : Int32) (vq0_nn : Int32) (vq0_number : UInt64) (vq0_bad : Int32) (vq0_a : Nat → UInt64) (vq0_b : Nat → UInt64) (vq0_c : Nat → UInt64) (vq0_na : Nat → UInt64) (vq0_nb : Nat → UInt64) (vq0_nc : Nat → UInt64) (x1 : Int32) (x2 : Int32), ∀ (H : Heap) (locs : List Loc) (ls : Array Slot), va_P D CL (w_M_read T q0 q0_a q0_b q0_c q0_rowScale q0_columnScale q0_sa q0_sb q0_sc q0_x q0_s q0_y q0_p q0_d q0_h q0_f q0_mm q0_low q0_dd q0_r q0_big q0_dt q0_dx q0_t q0_cost q0_rowScaleNow q0_columnScaleNow q0_basic q0_text q0_turned q0_na q0_nb q0_nc vq0_m vq0_n vq0_length vq0_where vq0_effort vq0_thrown vq0_at vq0_scaled vq0_solved vq0_second vq0_nm vq0_nn vq0_number vq0_bad vq0_a vq0_b vq0_c vq0_text vq0_na vq0_nb vq0_nc) H → va_D A (w_M_read T q0 q0_a q0_b q0_c q0_rowScale q0_columnScale q0_sa q0_sb q0_sc q0_x q0_s q0_y q0_p q0_d q0_h q0_f q0_mm q0_low q0_dd q0_r q0_big q0_dt q0_dx q0_t q0_cost q0_rowScaleNow q0_columnScaleNow q0_basic q0_text q0_turned q0_na q0_nb q0_nc vq0_m vq0_n vq0_length vq0_where vq0_effort vq0_thrown vq0_at vq0_scaled vq0_solved vq0_second vq0_nm vq0_nn vq0_number vq0_bad vq0_a vq0_b vq0_c vq0_text vq0_na vq0_nb vq0_nc) → va_S A s.heap H locs → lv_has ls 3 [(0, .ref q0), (1, .int x1), (2, .int x2)] → s_M_read_L136 vq0_m vq0_n vq0_length vq0_where vq0_effort vq0_thrown vq0_at vq0_scaled vq0_solved vq0_second vq0_nm vq0_nn vq0_number vq0_bad vq0_a vq0_b vq0_c vq0_text vq0_na vq0_nb vq0_nc x1 x2 = some rm → W p l e (rmk 5 115) s m args below meth c H locs 0 0 Q (F0 m 136 ls []) := by
    intro vq0_m vq0_n vq0_length vq0_where vq0_thrown vq0_at vq0_solved vq0_nm vq0_nn vq0_number vq0_bad vq0_a vq0_b vq0_c vq0_na vq0_nb vq0_nc x1 x2 H locs ls hP hD hS hl h
    unfold s_M_read_L136 at h
    obtain ⟨u136, hu136, h⟩ := bi_some h
    refine loopO_W (Wh := fun (st : (Nat → UInt64) × Int32) => ∀ (H : Heap) (locs : List Loc) (ls : Array Slot), va_P D CL (w_M_read T q0 q0_a q0_b q0_c q0_rowScale q0_columnScale q0_sa q0_sb q0_sc q0_x q0_s q0_y q0_p q0_d q0_h q0_f q0_mm q0_low q0_dd q0_r q0_big q0_dt q0_dx q0_t q0_cost q0_rowScaleNow q0_columnScaleNow q0_basic q0_text q0_turned q0_na q0_nb q0_nc vq0_m vq0_n vq0_length vq0_where vq0_effort vq0_thrown vq0_at vq0_scaled vq0_solved vq0_second vq0_nm vq0_nn vq0_number vq0_bad vq0_a vq0_b st.1 vq0_text vq0_na vq0_nb vq0_nc) H → va_D A (w_M_read T q0 q0_a q0_b q0_c q0_rowScale q0_columnScale q0_sa q0_sb q0_sc q0_x q0_s q0_y q0_p q0_d q0_h q0_f q0_mm q0_low q0_dd q0_r q0_big q0_dt q0_dx q0_t q0_cost q0_rowScaleNow q0_columnScaleNow q0_basic q0_text q0_turned q0_na q0_nb q0_nc vq0_m vq0_n vq0_length vq0_where vq0_effort vq0_thrown vq0_at vq0_scaled vq0_solved vq0_second vq0_nm vq0_nn vq0_number vq0_bad vq0_a vq0_b st.1 vq0_text vq0_na vq0_nb vq0_nc) → va_S A s.heap H locs → lv_has ls 3 [(0, .ref q0), (1, .int x1), (2, .int st.2)] → W p l e (rmk 5 115) s m args below meth c H locs 0 0 Q (F0 m 136 ls [])) (Wx := fun (e1 : (Nat → UInt64)) => ∀ (H : Heap) (locs : List Loc) (ls : Array Slot), va_P D CL (w_M_read T q0 q0_a q0_b q0_c q0_rowScale q0_columnScale q0_sa q0_sb q0_sc q0_x q0_s q0_y q0_p q0_d q0_h q0_f q0_mm q0_low q0_dd q0_r q0_big q0_dt q0_dx q0_t q0_cost q0_rowScaleNow q0_columnScaleNow q0_basic q0_text q0_turned q0_na q0_nb q0_nc vq0_m vq0_n vq0_length vq0_where vq0_effort vq0_thrown vq0_at vq0_scaled vq0_solved vq0_second vq0_nm vq0_nn vq0_number vq0_bad vq0_a vq0_b e1 vq0_text vq0_na vq0_nb vq0_nc) H → va_D A (w_M_read T q0 q0_a q0_b q0_c q0_rowScale q0_columnScale q0_sa q0_sb q0_sc q0_x q0_s q0_y q0_p q0_d q0_h q0_f q0_mm q0_low q0_dd q0_r q0_big q0_dt q0_dx q0_t q0_cost q0_rowScaleNow q0_columnScaleNow q0_basic q0_text q0_turned q0_na q0_nb q0_nc vq0_m vq0_n vq0_length vq0_where vq0_effort vq0_thrown vq0_at vq0_scaled vq0_solved vq0_second vq0_nm vq0_nn vq0_number vq0_bad vq0_a vq0_b e1 vq0_text vq0_na vq0_nb vq0_nc) → va_S A s.heap H locs → lv_has ls 3 [(0, .ref q0), (1, .int x1)] → W p l e (rmk 5 115) s m args below meth c H locs 0 0 Q (F0 m 162 ls [])) ?_ 2000 _ u136 hu136 ?_ H locs ls hP hD hS hl
    · intro st rb136 h kc136 kx136 H locs ls hP hD hS hl
      obtain ⟨vq0_c, x2⟩ := st
      have h : s_M_read_B136 vq0_m vq0_n vq0_length vq0_where vq0_effort vq0_thrown vq0_at vq0_scaled vq0_solved vq0_second vq0_nm vq0_nn vq0_number vq0_bad vq0_a vq0_b vq0_text vq0_na vq0_nb vq0_nc x1 vq0_c x2 = some rb136 := h
      unfold s_M_read_B136 at h
      refine lv_iload_n hx hb d_M_read_136 rfl (lv_at hl 2 rfl) ?_
      refine lv_aload_n hx hb d_M_read_137 rfl (lv_at hl 0 rfl) ?_
      refine va_get (D := D) (ci := 8) (v := .int vq0_n) (C := "ConeForgeModel") (T := FM) (N := 46) hx hb hts iM hown hK hP 0 rfl rfl 30 (by decide) (hts _ (bgc bw714)) (fun _ h9 => h9) rfl d_M_read_138 ?_
      refine lv_icmp_ge (tgt := 162) hx hb d_M_read_141 (by decide) (fun c1 => ?_) (fun c1 => ?_)
      · have h := it_t c1 h
        exact kx136 _ (Option.some.inj h).symm H locs ls hP hD hS (lv_sub hl [0, 1] rfl)
      · have h := it_f c1 h
        refine lv_aload_n hx hb d_M_read_144 rfl (lv_at hl 0 rfl) ?_
        refine va_get (D := D) (ci := 8) (v := .ref q0_c) (C := "ConeForgeModel") (T := FM) (N := 46) hx hb hts iM hown hK hP 0 rfl rfl 2 (by decide) (hts _ (bgc bw686)) (fun _ h9 => h9) rfl d_M_read_145 ?_
        refine lv_iload_n hx hb d_M_read_148 rfl (lv_at hl 2 rfl) ?_
        refine lv_aload_n hx hb d_M_read_149 rfl (lv_at hl 0 rfl) ?_
        refine va_get (D := D) (ci := 8) (v := .ref q0_nc) (C := "ConeForgeModel") (T := FM) (N := 46) hx hb hts iM hown hK hP 0 rfl rfl 41 (by decide) (hts _ (bgc bw725)) (fun _ h9 => h9) rfl d_M_read_150 ?_
        refine lv_iload_n hx hb d_M_read_153 rfl (lv_at hl 2 rfl) ?_
        obtain ⟨g2, h⟩ := gd_some h
        refine va_dald hx hb hK hP 7 0 rfl rfl (inb_in g2) d_M_read_154 ?_
        obtain ⟨g3, h⟩ := gd_some h
        refine va_dast hx hb hK hP hD hS 3 0 rfl rfl (inb_in g3) d_M_read_155 (fun H locs hP hD hS => ?_)
        have hP : va_P D CL (w_M_read T q0 q0_a q0_b q0_c q0_rowScale q0_columnScale q0_sa q0_sb q0_sc q0_x q0_s q0_y q0_p q0_d q0_h q0_f q0_mm q0_low q0_dd q0_r q0_big q0_dt q0_dx q0_t q0_cost q0_rowScaleNow q0_columnScaleNow q0_basic q0_text q0_turned q0_na q0_nb q0_nc vq0_m vq0_n vq0_length vq0_where vq0_effort vq0_thrown vq0_at vq0_scaled vq0_solved vq0_second vq0_nm vq0_nn vq0_number vq0_bad vq0_a vq0_b (vf_upd vq0_c x2.toNatClampNeg (vq0_nc x2.toNatClampNeg)) vq0_text vq0_na vq0_nb vq0_nc) H := hP
        have hD : va_D A (w_M_read T q0 q0_a q0_b q0_c q0_rowScale q0_columnScale q0_sa q0_sb q0_sc q0_x q0_s q0_y q0_p q0_d q0_h q0_f q0_mm q0_low q0_dd q0_r q0_big q0_dt q0_dx q0_t q0_cost q0_rowScaleNow q0_columnScaleNow q0_basic q0_text q0_turned q0_na q0_nb q0_nc vq0_m vq0_n vq0_length vq0_where vq0_effort vq0_thrown vq0_at vq0_scaled vq0_solved vq0_second vq0_nm vq0_nn vq0_number vq0_bad vq0_a vq0_b (vf_upd vq0_c x2.toNatClampNeg (vq0_nc x2.toNatClampNeg)) vq0_text vq0_na vq0_nb vq0_nc) := hD
        refine lv_iinc (v := x2 + 1) (lv' := [(2, .int (x2 + 1)), (0, .ref q0), (1, .int x1)]) hx hb d_M_read_156 hl (k := 2) rfl rfl (by decide) rfl (fun ls hl => ?_)
        refine lv_goto (tgt := 136) hx hb d_M_read_159 (by decide) ?_
        exact kc136 _ (Option.some.inj h).symm H locs ls hP hD hS (lv_sub hl [1, 2, 0] rfl)
    · intro H locs ls hP hD hS hl
      refine lv_aload_n hx hb d_M_read_162 rfl (lv_at hl 0 rfl) ?_
      refine lv_iconst (v := 0) hx hb d_M_read_163 (by decide) ?_
      refine va_put (D := D) (ci := 8) (v := .int 0) (ty := .int) (C := "ConeForgeModel") (T := FM) (N := 46) hx hb hts iM tM tM_ok nmM hown hK hP hD hS 0 rfl rfl 31 (by decide) (hts _ (bgc bw715)) (fun _ h9 => h9) rfl (by decide +kernel) rfl rfl (Nat.le_of_ble_eq_true rfl) d_M_read_164 (fun H locs hP hD hS => ?_)
      have hP : va_P D CL (w_M_read T q0 q0_a q0_b q0_c q0_rowScale q0_columnScale q0_sa q0_sb q0_sc q0_x q0_s q0_y q0_p q0_d q0_h q0_f q0_mm q0_low q0_dd q0_r q0_big q0_dt q0_dx q0_t q0_cost q0_rowScaleNow q0_columnScaleNow q0_basic q0_text q0_turned q0_na q0_nb q0_nc vq0_m vq0_n 0 vq0_where vq0_effort vq0_thrown vq0_at vq0_scaled vq0_solved vq0_second vq0_nm vq0_nn vq0_number vq0_bad vq0_a vq0_b u136 vq0_text vq0_na vq0_nb vq0_nc) H := hP
      have hD : va_D A (w_M_read T q0 q0_a q0_b q0_c q0_rowScale q0_columnScale q0_sa q0_sb q0_sc q0_x q0_s q0_y q0_p q0_d q0_h q0_f q0_mm q0_low q0_dd q0_r q0_big q0_dt q0_dx q0_t q0_cost q0_rowScaleNow q0_columnScaleNow q0_basic q0_text q0_turned q0_na q0_nb q0_nc vq0_m vq0_n 0 vq0_where vq0_effort vq0_thrown vq0_at vq0_scaled vq0_solved vq0_second vq0_nm vq0_nn vq0_number vq0_bad vq0_a vq0_b u136 vq0_text vq0_na vq0_nb vq0_nc) := hD
      refine lv_iload_n hx hb d_M_read_167 rfl (lv_at hl 1 rfl) ?_
      exact rtI hx hb hr hlocks hQ (Option.some.inj h) hP hS d_M_read_168 rfl rfl
  have L108 : ∀ (vq0_m : Int32) (vq0_n : Int32) (vq0_length : Int32) (vq0_where : Int32) (vq0_thrown : Int32) (vq0_at : Int32) (vq0_solved : Int32) (vq0_nm : Int32) (vq0_nn : Int32) (vq0_number : UInt64) (vq0_bad : Int32) (vq0_a : Nat → UInt64) (vq0_b : Nat → UInt64) (vq0_c : Nat → UInt64) (vq0_na : Nat → UInt64) (vq0_nb : Nat → UInt64) (vq0_nc : Nat → UInt64) (x1 : Int32) (x2 : Int32), ∀ (H : Heap) (locs : List Loc) (ls : Array Slot), va_P D CL (w_M_read T q0 q0_a q0_b q0_c q0_rowScale q0_columnScale q0_sa q0_sb q0_sc q0_x q0_s q0_y q0_p q0_d q0_h q0_f q0_mm q0_low q0_dd q0_r q0_big q0_dt q0_dx q0_t q0_cost q0_rowScaleNow q0_columnScaleNow q0_basic q0_text q0_turned q0_na q0_nb q0_nc vq0_m vq0_n vq0_length vq0_where vq0_effort vq0_thrown vq0_at vq0_scaled vq0_solved vq0_second vq0_nm vq0_nn vq0_number vq0_bad vq0_a vq0_b vq0_c vq0_text vq0_na vq0_nb vq0_nc) H → va_D A (w_M_read T q0 q0_a q0_b q0_c q0_rowScale q0_columnScale q0_sa q0_sb q0_sc q0_x q0_s q0_y q0_p q0_d q0_h q0_f q0_mm q0_low q0_dd q0_r q0_big q0_dt q0_dx q0_t q0_cost q0_rowScaleNow q0_columnScaleNow q0_basic q0_text q0_turned q0_na q0_nb q0_nc vq0_m vq0_n vq0_length vq0_where vq0_effort vq0_thrown vq0_at vq0_scaled vq0_solved vq0_second vq0_nm vq0_nn vq0_number vq0_bad vq0_a vq0_b vq0_c vq0_text vq0_na vq0_nb vq0_nc) → va_S A s.heap H locs → lv_has ls 3 [(0, .ref q0), (1, .int x1), (2, .int x2)] → s_M_read_L108 vq0_m vq0_n vq0_length vq0_where vq0_effort vq0_thrown vq0_at vq0_scaled vq0_solved vq0_second vq0_nm vq0_nn vq0_number vq0_bad vq0_a vq0_b vq0_c vq0_text vq0_na vq0_nb vq0_nc x1 x2 = some rm → W p l e (rmk 5 115) s m args below meth c H locs 0 0 Q (F0 m 108 ls []) := by
    intro vq0_m vq0_n vq0_length vq0_where vq0_thrown vq0_at vq0_solved vq0_nm vq0_nn vq0_number vq0_bad vq0_a vq0_b vq0_c vq0_na vq0_nb vq0_nc x1 x2 H locs ls hP hD hS hl h
    unfold s_M_read_L108 at h
    obtain ⟨u108, hu108, h⟩ := bi_some h
    refine loopO_W (Wh := fun (st : (Nat → UInt64) × Int32) => ∀ (H : Heap) (locs : List Loc) (ls : Array Slot), va_P D CL (w_M_read T q0 q0_a q0_b q0_c q0_rowScale q0_columnScale q0_sa q0_sb q0_sc q0_x q0_s q0_y q0_p q0_d q0_h q0_f q0_mm q0_low q0_dd q0_r q0_big q0_dt q0_dx q0_t q0_cost q0_rowScaleNow q0_columnScaleNow q0_basic q0_text q0_turned q0_na q0_nb q0_nc vq0_m vq0_n vq0_length vq0_where vq0_effort vq0_thrown vq0_at vq0_scaled vq0_solved vq0_second vq0_nm vq0_nn vq0_number vq0_bad vq0_a st.1 vq0_c vq0_text vq0_na vq0_nb vq0_nc) H → va_D A (w_M_read T q0 q0_a q0_b q0_c q0_rowScale q0_columnScale q0_sa q0_sb q0_sc q0_x q0_s q0_y q0_p q0_d q0_h q0_f q0_mm q0_low q0_dd q0_r q0_big q0_dt q0_dx q0_t q0_cost q0_rowScaleNow q0_columnScaleNow q0_basic q0_text q0_turned q0_na q0_nb q0_nc vq0_m vq0_n vq0_length vq0_where vq0_effort vq0_thrown vq0_at vq0_scaled vq0_solved vq0_second vq0_nm vq0_nn vq0_number vq0_bad vq0_a st.1 vq0_c vq0_text vq0_na vq0_nb vq0_nc) → va_S A s.heap H locs → lv_has ls 3 [(0, .ref q0), (1, .int x1), (2, .int st.2)] → W p l e (rmk 5 115) s m args below meth c H locs 0 0 Q (F0 m 108 ls [])) (Wx := fun (e1 : (Nat → UInt64)) => ∀ (H : Heap) (locs : List Loc) (ls : Array Slot), va_P D CL (w_M_read T q0 q0_a q0_b q0_c q0_rowScale q0_columnScale q0_sa q0_sb q0_sc q0_x q0_s q0_y q0_p q0_d q0_h q0_f q0_mm q0_low q0_dd q0_r q0_big q0_dt q0_dx q0_t q0_cost q0_rowScaleNow q0_columnScaleNow q0_basic q0_text q0_turned q0_na q0_nb q0_nc vq0_m vq0_n vq0_length vq0_where vq0_effort vq0_thrown vq0_at vq0_scaled vq0_solved vq0_second vq0_nm vq0_nn vq0_number vq0_bad vq0_a e1 vq0_c vq0_text vq0_na vq0_nb vq0_nc) H → va_D A (w_M_read T q0 q0_a q0_b q0_c q0_rowScale q0_columnScale q0_sa q0_sb q0_sc q0_x q0_s q0_y q0_p q0_d q0_h q0_f q0_mm q0_low q0_dd q0_r q0_big q0_dt q0_dx q0_t q0_cost q0_rowScaleNow q0_columnScaleNow q0_basic q0_text q0_turned q0_na q0_nb q0_nc vq0_m vq0_n vq0_length vq0_where vq0_effort vq0_thrown vq0_at vq0_scaled vq0_solved vq0_second vq0_nm vq0_nn vq0_number vq0_bad vq0_a e1 vq0_c vq0_text vq0_na vq0_nb vq0_nc) → va_S A s.heap H locs → lv_has ls 3 [(0, .ref q0), (1, .int x1)] → W p l e (rmk 5 115) s m args below meth c H locs 0 0 Q (F0 m 134 ls [])) ?_ 2000 _ u108 hu108 ?_ H locs ls hP hD hS hl
    · intro st rb108 h kc108 kx108 H locs ls hP hD hS hl
      obtain ⟨vq0_b, x2⟩ := st
      have h : s_M_read_B108 vq0_m vq0_n vq0_length vq0_where vq0_effort vq0_thrown vq0_at vq0_scaled vq0_solved vq0_second vq0_nm vq0_nn vq0_number vq0_bad vq0_a vq0_c vq0_text vq0_na vq0_nb vq0_nc x1 vq0_b x2 = some rb108 := h
      unfold s_M_read_B108 at h
      refine lv_iload_n hx hb d_M_read_108 rfl (lv_at hl 2 rfl) ?_
      refine lv_aload_n hx hb d_M_read_109 rfl (lv_at hl 0 rfl) ?_
      refine va_get (D := D) (ci := 8) (v := .int vq0_m) (C := "ConeForgeModel") (T := FM) (N := 46) hx hb hts iM hown hK hP 0 rfl rfl 29 (by decide) (hts _ (bgc bw713)) (fun _ h9 => h9) rfl d_M_read_110 ?_
      refine lv_icmp_ge (tgt := 134) hx hb d_M_read_113 (by decide) (fun c4 => ?_) (fun c4 => ?_)
      · have h := it_t c4 h
        exact kx108 _ (Option.some.inj h).symm H locs ls hP hD hS (lv_sub hl [0, 1] rfl)
      · have h := it_f c4 h
        refine lv_aload_n hx hb d_M_read_116 rfl (lv_at hl 0 rfl) ?_
        refine va_get (D := D) (ci := 8) (v := .ref q0_b) (C := "ConeForgeModel") (T := FM) (N := 46) hx hb hts iM hown hK hP 0 rfl rfl 1 (by decide) (hts _ (bgc bw685)) (fun _ h9 => h9) rfl d_M_read_117 ?_
        refine lv_iload_n hx hb d_M_read_120 rfl (lv_at hl 2 rfl) ?_
        refine lv_aload_n hx hb d_M_read_121 rfl (lv_at hl 0 rfl) ?_
        refine va_get (D := D) (ci := 8) (v := .ref q0_nb) (C := "ConeForgeModel") (T := FM) (N := 46) hx hb hts iM hown hK hP 0 rfl rfl 40 (by decide) (hts _ (bgc bw724)) (fun _ h9 => h9) rfl d_M_read_122 ?_
        refine lv_iload_n hx hb d_M_read_125 rfl (lv_at hl 2 rfl) ?_
        obtain ⟨g5, h⟩ := gd_some h
        refine va_dald hx hb hK hP 6 0 rfl rfl (inb_in g5) d_M_read_126 ?_
        obtain ⟨g6, h⟩ := gd_some h
        refine va_dast hx hb hK hP hD hS 2 0 rfl rfl (inb_in g6) d_M_read_127 (fun H locs hP hD hS => ?_)
        have hP : va_P D CL (w_M_read T q0 q0_a q0_b q0_c q0_rowScale q0_columnScale q0_sa q0_sb q0_sc q0_x q0_s q0_y q0_p q0_d q0_h q0_f q0_mm q0_low q0_dd q0_r q0_big q0_dt q0_dx q0_t q0_cost q0_rowScaleNow q0_columnScaleNow q0_basic q0_text q0_turned q0_na q0_nb q0_nc vq0_m vq0_n vq0_length vq0_where vq0_effort vq0_thrown vq0_at vq0_scaled vq0_solved vq0_second vq0_nm vq0_nn vq0_number vq0_bad vq0_a (vf_upd vq0_b x2.toNatClampNeg (vq0_nb x2.toNatClampNeg)) vq0_c vq0_text vq0_na vq0_nb vq0_nc) H := hP
        have hD : va_D A (w_M_read T q0 q0_a q0_b q0_c q0_rowScale q0_columnScale q0_sa q0_sb q0_sc q0_x q0_s q0_y q0_p q0_d q0_h q0_f q0_mm q0_low q0_dd q0_r q0_big q0_dt q0_dx q0_t q0_cost q0_rowScaleNow q0_columnScaleNow q0_basic q0_text q0_turned q0_na q0_nb q0_nc vq0_m vq0_n vq0_length vq0_where vq0_effort vq0_thrown vq0_at vq0_scaled vq0_solved vq0_second vq0_nm vq0_nn vq0_number vq0_bad vq0_a (vf_upd vq0_b x2.toNatClampNeg (vq0_nb x2.toNatClampNeg)) vq0_c vq0_text vq0_na vq0_nb vq0_nc) := hD
        refine lv_iinc (v := x2 + 1) (lv' := [(2, .int (x2 + 1)), (0, .ref q0), (1, .int x1)]) hx hb d_M_read_128 hl (k := 2) rfl rfl (by decide) rfl (fun ls hl => ?_)
        refine lv_goto (tgt := 108) hx hb d_M_read_131 (by decide) ?_
        exact kc108 _ (Option.some.inj h).symm H locs ls hP hD hS (lv_sub hl [1, 2, 0] rfl)
    · intro H locs ls hP hD hS hl
      refine lv_iconst (v := 0) hx hb d_M_read_134 (by decide) ?_
      refine lv_istore_n (lv' := [(2, .int 0), (0, .ref q0), (1, .int x1)]) hx hb d_M_read_135 rfl hl (by decide) rfl (fun ls hl => ?_)
      exact L136 vq0_m vq0_n vq0_length vq0_where vq0_thrown vq0_at vq0_solved vq0_nm vq0_nn vq0_number vq0_bad vq0_a u108 vq0_c vq0_na vq0_nb vq0_nc x1 0 H locs ls hP hD hS (lv_sub hl [1, 2, 0] rfl) h
  have L82 : ∀ (vq0_m : Int32) (vq0_n : Int32) (vq0_length : Int32) (vq0_where : Int32) (vq0_thrown : Int32) (vq0_at : Int32) (vq0_solved : Int32) (vq0_nm : Int32) (vq0_nn : Int32) (vq0_number : UInt64) (vq0_bad : Int32) (vq0_a : Nat → UInt64) (vq0_b : Nat → UInt64) (vq0_c : Nat → UInt64) (vq0_na : Nat → UInt64) (vq0_nb : Nat → UInt64) (vq0_nc : Nat → UInt64) (x1 : Int32) (x2 : Int32), ∀ (H : Heap) (locs : List Loc) (ls : Array Slot), va_P D CL (w_M_read T q0 q0_a q0_b q0_c q0_rowScale q0_columnScale q0_sa q0_sb q0_sc q0_x q0_s q0_y q0_p q0_d q0_h q0_f q0_mm q0_low q0_dd q0_r q0_big q0_dt q0_dx q0_t q0_cost q0_rowScaleNow q0_columnScaleNow q0_basic q0_text q0_turned q0_na q0_nb q0_nc vq0_m vq0_n vq0_length vq0_where vq0_effort vq0_thrown vq0_at vq0_scaled vq0_solved vq0_second vq0_nm vq0_nn vq0_number vq0_bad vq0_a vq0_b vq0_c vq0_text vq0_na vq0_nb vq0_nc) H → va_D A (w_M_read T q0 q0_a q0_b q0_c q0_rowScale q0_columnScale q0_sa q0_sb q0_sc q0_x q0_s q0_y q0_p q0_d q0_h q0_f q0_mm q0_low q0_dd q0_r q0_big q0_dt q0_dx q0_t q0_cost q0_rowScaleNow q0_columnScaleNow q0_basic q0_text q0_turned q0_na q0_nb q0_nc vq0_m vq0_n vq0_length vq0_where vq0_effort vq0_thrown vq0_at vq0_scaled vq0_solved vq0_second vq0_nm vq0_nn vq0_number vq0_bad vq0_a vq0_b vq0_c vq0_text vq0_na vq0_nb vq0_nc) → va_S A s.heap H locs → lv_has ls 3 [(0, .ref q0), (1, .int x1), (2, .int x2)] → s_M_read_L82 vq0_m vq0_n vq0_length vq0_where vq0_effort vq0_thrown vq0_at vq0_scaled vq0_solved vq0_second vq0_nm vq0_nn vq0_number vq0_bad vq0_a vq0_b vq0_c vq0_text vq0_na vq0_nb vq0_nc x1 x2 = some rm → W p l e (rmk 5 115) s m args below meth c H locs 0 0 Q (F0 m 82 ls []) := by
    intro vq0_m vq0_n vq0_length vq0_where vq0_thrown vq0_at vq0_solved vq0_nm vq0_nn vq0_number vq0_bad vq0_a vq0_b vq0_c vq0_na vq0_nb vq0_nc x1 x2 H locs ls hP hD hS hl h
    unfold s_M_read_L82 at h
    obtain ⟨u82, hu82, h⟩ := bi_some h
    refine loopO_W (Wh := fun (st : (Nat → UInt64) × Int32) => ∀ (H : Heap) (locs : List Loc) (ls : Array Slot), va_P D CL (w_M_read T q0 q0_a q0_b q0_c q0_rowScale q0_columnScale q0_sa q0_sb q0_sc q0_x q0_s q0_y q0_p q0_d q0_h q0_f q0_mm q0_low q0_dd q0_r q0_big q0_dt q0_dx q0_t q0_cost q0_rowScaleNow q0_columnScaleNow q0_basic q0_text q0_turned q0_na q0_nb q0_nc vq0_m vq0_n vq0_length vq0_where vq0_effort vq0_thrown vq0_at vq0_scaled vq0_solved vq0_second vq0_nm vq0_nn vq0_number vq0_bad st.1 vq0_b vq0_c vq0_text vq0_na vq0_nb vq0_nc) H → va_D A (w_M_read T q0 q0_a q0_b q0_c q0_rowScale q0_columnScale q0_sa q0_sb q0_sc q0_x q0_s q0_y q0_p q0_d q0_h q0_f q0_mm q0_low q0_dd q0_r q0_big q0_dt q0_dx q0_t q0_cost q0_rowScaleNow q0_columnScaleNow q0_basic q0_text q0_turned q0_na q0_nb q0_nc vq0_m vq0_n vq0_length vq0_where vq0_effort vq0_thrown vq0_at vq0_scaled vq0_solved vq0_second vq0_nm vq0_nn vq0_number vq0_bad st.1 vq0_b vq0_c vq0_text vq0_na vq0_nb vq0_nc) → va_S A s.heap H locs → lv_has ls 3 [(0, .ref q0), (1, .int x1), (2, .int st.2)] → W p l e (rmk 5 115) s m args below meth c H locs 0 0 Q (F0 m 82 ls [])) (Wx := fun (e1 : (Nat → UInt64)) => ∀ (H : Heap) (locs : List Loc) (ls : Array Slot), va_P D CL (w_M_read T q0 q0_a q0_b q0_c q0_rowScale q0_columnScale q0_sa q0_sb q0_sc q0_x q0_s q0_y q0_p q0_d q0_h q0_f q0_mm q0_low q0_dd q0_r q0_big q0_dt q0_dx q0_t q0_cost q0_rowScaleNow q0_columnScaleNow q0_basic q0_text q0_turned q0_na q0_nb q0_nc vq0_m vq0_n vq0_length vq0_where vq0_effort vq0_thrown vq0_at vq0_scaled vq0_solved vq0_second vq0_nm vq0_nn vq0_number vq0_bad e1 vq0_b vq0_c vq0_text vq0_na vq0_nb vq0_nc) H → va_D A (w_M_read T q0 q0_a q0_b q0_c q0_rowScale q0_columnScale q0_sa q0_sb q0_sc q0_x q0_s q0_y q0_p q0_d q0_h q0_f q0_mm q0_low q0_dd q0_r q0_big q0_dt q0_dx q0_t q0_cost q0_rowScaleNow q0_columnScaleNow q0_basic q0_text q0_turned q0_na q0_nb q0_nc vq0_m vq0_n vq0_length vq0_where vq0_effort vq0_thrown vq0_at vq0_scaled vq0_solved vq0_second vq0_nm vq0_nn vq0_number vq0_bad e1 vq0_b vq0_c vq0_text vq0_na vq0_nb vq0_nc) → va_S A s.heap H locs → lv_has ls 3 [(0, .ref q0), (1, .int x1)] → W p l e (rmk 5 115) s m args below meth c H locs 0 0 Q (F0 m 106 ls [])) ?_ 2000 _ u82 hu82 ?_ H locs ls hP hD hS hl
    · intro st rb82 h kc82 kx82 H locs ls hP hD hS hl
      obtain ⟨vq0_a, x2⟩ := st
      have h : s_M_read_B82 vq0_m vq0_n vq0_length vq0_where vq0_effort vq0_thrown vq0_at vq0_scaled vq0_solved vq0_second vq0_nm vq0_nn vq0_number vq0_bad vq0_b vq0_c vq0_text vq0_na vq0_nb vq0_nc x1 vq0_a x2 = some rb82 := h
      unfold s_M_read_B82 at h
      refine lv_iload_n hx hb d_M_read_82 rfl (lv_at hl 2 rfl) ?_
      refine lv_bipush (v := 40) hx hb d_M_read_83 (by decide) ?_
      refine lv_icmp_ge (tgt := 106) hx hb d_M_read_85 (by decide) (fun c7 => ?_) (fun c7 => ?_)
      · have h := it_t c7 h
        exact kx82 _ (Option.some.inj h).symm H locs ls hP hD hS (lv_sub hl [0, 1] rfl)
      · have h := it_f c7 h
        refine lv_aload_n hx hb d_M_read_88 rfl (lv_at hl 0 rfl) ?_
        refine va_get (D := D) (ci := 8) (v := .ref q0_a) (C := "ConeForgeModel") (T := FM) (N := 46) hx hb hts iM hown hK hP 0 rfl rfl 0 (by decide) (hts _ (bgc bw684)) (fun _ h9 => h9) rfl d_M_read_89 ?_
        refine lv_iload_n hx hb d_M_read_92 rfl (lv_at hl 2 rfl) ?_
        refine lv_aload_n hx hb d_M_read_93 rfl (lv_at hl 0 rfl) ?_
        refine va_get (D := D) (ci := 8) (v := .ref q0_na) (C := "ConeForgeModel") (T := FM) (N := 46) hx hb hts iM hown hK hP 0 rfl rfl 39 (by decide) (hts _ (bgc bw723)) (fun _ h9 => h9) rfl d_M_read_94 ?_
        refine lv_iload_n hx hb d_M_read_97 rfl (lv_at hl 2 rfl) ?_
        obtain ⟨g8, h⟩ := gd_some h
        refine va_dald hx hb hK hP 5 0 rfl rfl (inb_in g8) d_M_read_98 ?_
        obtain ⟨g9, h⟩ := gd_some h
        refine va_dast hx hb hK hP hD hS 1 0 rfl rfl (inb_in g9) d_M_read_99 (fun H locs hP hD hS => ?_)
        have hP : va_P D CL (w_M_read T q0 q0_a q0_b q0_c q0_rowScale q0_columnScale q0_sa q0_sb q0_sc q0_x q0_s q0_y q0_p q0_d q0_h q0_f q0_mm q0_low q0_dd q0_r q0_big q0_dt q0_dx q0_t q0_cost q0_rowScaleNow q0_columnScaleNow q0_basic q0_text q0_turned q0_na q0_nb q0_nc vq0_m vq0_n vq0_length vq0_where vq0_effort vq0_thrown vq0_at vq0_scaled vq0_solved vq0_second vq0_nm vq0_nn vq0_number vq0_bad (vf_upd vq0_a x2.toNatClampNeg (vq0_na x2.toNatClampNeg)) vq0_b vq0_c vq0_text vq0_na vq0_nb vq0_nc) H := hP
        have hD : va_D A (w_M_read T q0 q0_a q0_b q0_c q0_rowScale q0_columnScale q0_sa q0_sb q0_sc q0_x q0_s q0_y q0_p q0_d q0_h q0_f q0_mm q0_low q0_dd q0_r q0_big q0_dt q0_dx q0_t q0_cost q0_rowScaleNow q0_columnScaleNow q0_basic q0_text q0_turned q0_na q0_nb q0_nc vq0_m vq0_n vq0_length vq0_where vq0_effort vq0_thrown vq0_at vq0_scaled vq0_solved vq0_second vq0_nm vq0_nn vq0_number vq0_bad (vf_upd vq0_a x2.toNatClampNeg (vq0_na x2.toNatClampNeg)) vq0_b vq0_c vq0_text vq0_na vq0_nb vq0_nc) := hD
        refine lv_iinc (v := x2 + 1) (lv' := [(2, .int (x2 + 1)), (0, .ref q0), (1, .int x1)]) hx hb d_M_read_100 hl (k := 2) rfl rfl (by decide) rfl (fun ls hl => ?_)
        refine lv_goto (tgt := 82) hx hb d_M_read_103 (by decide) ?_
        exact kc82 _ (Option.some.inj h).symm H locs ls hP hD hS (lv_sub hl [1, 2, 0] rfl)
    · intro H locs ls hP hD hS hl
      refine lv_iconst (v := 0) hx hb d_M_read_106 (by decide) ?_
      refine lv_istore_n (lv' := [(2, .int 0), (0, .ref q0), (1, .int x1)]) hx hb d_M_read_107 rfl hl (by decide) rfl (fun ls hl => ?_)
      exact L108 vq0_m vq0_n vq0_length vq0_where vq0_thrown vq0_at vq0_solved vq0_nm vq0_nn vq0_number vq0_bad u82 vq0_b vq0_c vq0_na vq0_nb vq0_nc x1 0 H locs ls hP hD hS (lv_sub hl [1, 2, 0] rfl) h
  have L18 : ∀ (vq0_m : Int32) (vq0_n : Int32) (vq0_length : Int32) (vq0_where : Int32) (vq0_thrown : Int32) (vq0_at : Int32) (vq0_solved : Int32) (vq0_nm : Int32) (vq0_nn : Int32) (vq0_number : UInt64) (vq0_bad : Int32) (vq0_a : Nat → UInt64) (vq0_b : Nat → UInt64) (vq0_c : Nat → UInt64) (vq0_na : Nat → UInt64) (vq0_nb : Nat → UInt64) (vq0_nc : Nat → UInt64) (x1 : Int32), ∀ (H : Heap) (locs : List Loc) (ls : Array Slot), va_P D CL (w_M_read T q0 q0_a q0_b q0_c q0_rowScale q0_columnScale q0_sa q0_sb q0_sc q0_x q0_s q0_y q0_p q0_d q0_h q0_f q0_mm q0_low q0_dd q0_r q0_big q0_dt q0_dx q0_t q0_cost q0_rowScaleNow q0_columnScaleNow q0_basic q0_text q0_turned q0_na q0_nb q0_nc vq0_m vq0_n vq0_length vq0_where vq0_effort vq0_thrown vq0_at vq0_scaled vq0_solved vq0_second vq0_nm vq0_nn vq0_number vq0_bad vq0_a vq0_b vq0_c vq0_text vq0_na vq0_nb vq0_nc) H → va_D A (w_M_read T q0 q0_a q0_b q0_c q0_rowScale q0_columnScale q0_sa q0_sb q0_sc q0_x q0_s q0_y q0_p q0_d q0_h q0_f q0_mm q0_low q0_dd q0_r q0_big q0_dt q0_dx q0_t q0_cost q0_rowScaleNow q0_columnScaleNow q0_basic q0_text q0_turned q0_na q0_nb q0_nc vq0_m vq0_n vq0_length vq0_where vq0_effort vq0_thrown vq0_at vq0_scaled vq0_solved vq0_second vq0_nm vq0_nn vq0_number vq0_bad vq0_a vq0_b vq0_c vq0_text vq0_na vq0_nb vq0_nc) → va_S A s.heap H locs → lv_has ls 3 [(0, .ref q0), (1, .int x1)] → s_M_read_L18 vq0_m vq0_n vq0_length vq0_where vq0_effort vq0_thrown vq0_at vq0_scaled vq0_solved vq0_second vq0_nm vq0_nn vq0_number vq0_bad vq0_a vq0_b vq0_c vq0_text vq0_na vq0_nb vq0_nc x1 = some rm → W p l e (rmk 5 115) s m args below meth c H locs 0 0 Q (F0 m 18 ls []) := by
    intro vq0_m vq0_n vq0_length vq0_where vq0_thrown vq0_at vq0_solved vq0_nm vq0_nn vq0_number vq0_bad vq0_a vq0_b vq0_c vq0_na vq0_nb vq0_nc x1 H locs ls hP hD hS hl h
    unfold s_M_read_L18 at h
    obtain ⟨u18, hu18, h⟩ := bi_some h
    refine loopO_W (Wh := fun (st : (Nat → UInt64) × Int32) => ∀ (H : Heap) (locs : List Loc) (ls : Array Slot), va_P D CL (w_M_read T q0 q0_a q0_b q0_c q0_rowScale q0_columnScale q0_sa q0_sb q0_sc q0_x q0_s q0_y q0_p q0_d q0_h q0_f q0_mm q0_low q0_dd q0_r q0_big q0_dt q0_dx q0_t q0_cost q0_rowScaleNow q0_columnScaleNow q0_basic q0_text q0_turned q0_na q0_nb q0_nc vq0_m vq0_n vq0_length vq0_where vq0_effort vq0_thrown vq0_at vq0_scaled vq0_solved vq0_second vq0_nm vq0_nn vq0_number vq0_bad vq0_a vq0_b vq0_c vq0_text st.1 vq0_nb vq0_nc) H → va_D A (w_M_read T q0 q0_a q0_b q0_c q0_rowScale q0_columnScale q0_sa q0_sb q0_sc q0_x q0_s q0_y q0_p q0_d q0_h q0_f q0_mm q0_low q0_dd q0_r q0_big q0_dt q0_dx q0_t q0_cost q0_rowScaleNow q0_columnScaleNow q0_basic q0_text q0_turned q0_na q0_nb q0_nc vq0_m vq0_n vq0_length vq0_where vq0_effort vq0_thrown vq0_at vq0_scaled vq0_solved vq0_second vq0_nm vq0_nn vq0_number vq0_bad vq0_a vq0_b vq0_c vq0_text st.1 vq0_nb vq0_nc) → va_S A s.heap H locs → lv_has ls 3 [(0, .ref q0), (1, .int st.2)] → W p l e (rmk 5 115) s m args below meth c H locs 0 0 Q (F0 m 18 ls [])) (Wx := fun (e1 : (Nat → UInt64)) => ∀ (H : Heap) (locs : List Loc) (ls : Array Slot), va_P D CL (w_M_read T q0 q0_a q0_b q0_c q0_rowScale q0_columnScale q0_sa q0_sb q0_sc q0_x q0_s q0_y q0_p q0_d q0_h q0_f q0_mm q0_low q0_dd q0_r q0_big q0_dt q0_dx q0_t q0_cost q0_rowScaleNow q0_columnScaleNow q0_basic q0_text q0_turned q0_na q0_nb q0_nc vq0_m vq0_n vq0_length vq0_where vq0_effort vq0_thrown vq0_at vq0_scaled vq0_solved vq0_second vq0_nm vq0_nn vq0_number vq0_bad vq0_a vq0_b vq0_c vq0_text e1 vq0_nb vq0_nc) H → va_D A (w_M_read T q0 q0_a q0_b q0_c q0_rowScale q0_columnScale q0_sa q0_sb q0_sc q0_x q0_s q0_y q0_p q0_d q0_h q0_f q0_mm q0_low q0_dd q0_r q0_big q0_dt q0_dx q0_t q0_cost q0_rowScaleNow q0_columnScaleNow q0_basic q0_text q0_turned q0_na q0_nb q0_nc vq0_m vq0_n vq0_length vq0_where vq0_effort vq0_thrown vq0_at vq0_scaled vq0_solved vq0_second vq0_nm vq0_nn vq0_number vq0_bad vq0_a vq0_b vq0_c vq0_text e1 vq0_nb vq0_nc) → va_S A s.heap H locs → lv_has ls 3 [(0, .ref q0)] → W p l e (rmk 5 115) s m args below meth c H locs 0 0 Q (F0 m 37 ls [])) ?_ 2000 _ u18 hu18 ?_ H locs ls hP hD hS hl
    · intro st rb18 h kc18 kx18 H locs ls hP hD hS hl
      obtain ⟨vq0_na, x1⟩ := st
      have h : s_M_read_B18 vq0_m vq0_n vq0_length vq0_where vq0_effort vq0_thrown vq0_at vq0_scaled vq0_solved vq0_second vq0_nm vq0_nn vq0_number vq0_bad vq0_a vq0_b vq0_c vq0_text vq0_nb vq0_nc vq0_na x1 = some rb18 := h
      unfold s_M_read_B18 at h
      refine lv_iload_n hx hb d_M_read_18 rfl (lv_at hl 1 rfl) ?_
      refine lv_bipush (v := 40) hx hb d_M_read_19 (by decide) ?_
      refine lv_icmp_ge (tgt := 37) hx hb d_M_read_21 (by decide) (fun c10 => ?_) (fun c10 => ?_)
      · have h := it_t c10 h
        exact kx18 _ (Option.some.inj h).symm H locs ls hP hD hS (lv_sub hl [0] rfl)
      · have h := it_f c10 h
        refine lv_aload_n hx hb d_M_read_24 rfl (lv_at hl 0 rfl) ?_
        refine va_get (D := D) (ci := 8) (v := .ref q0_na) (C := "ConeForgeModel") (T := FM) (N := 46) hx hb hts iM hown hK hP 0 rfl rfl 39 (by decide) (hts _ (bgc bw723)) (fun _ h9 => h9) rfl d_M_read_25 ?_
        refine lv_iload_n hx hb d_M_read_28 rfl (lv_at hl 1 rfl) ?_
        refine lv_dconst0 hx hb d_M_read_29 ?_
        obtain ⟨g11, h⟩ := gd_some h
        refine va_dast hx hb hK hP hD hS 5 0 rfl rfl (inb_in g11) d_M_read_30 (fun H locs hP hD hS => ?_)
        have hP : va_P D CL (w_M_read T q0 q0_a q0_b q0_c q0_rowScale q0_columnScale q0_sa q0_sb q0_sc q0_x q0_s q0_y q0_p q0_d q0_h q0_f q0_mm q0_low q0_dd q0_r q0_big q0_dt q0_dx q0_t q0_cost q0_rowScaleNow q0_columnScaleNow q0_basic q0_text q0_turned q0_na q0_nb q0_nc vq0_m vq0_n vq0_length vq0_where vq0_effort vq0_thrown vq0_at vq0_scaled vq0_solved vq0_second vq0_nm vq0_nn vq0_number vq0_bad vq0_a vq0_b vq0_c vq0_text (vf_upd vq0_na x1.toNatClampNeg FP.dconst0) vq0_nb vq0_nc) H := hP
        have hD : va_D A (w_M_read T q0 q0_a q0_b q0_c q0_rowScale q0_columnScale q0_sa q0_sb q0_sc q0_x q0_s q0_y q0_p q0_d q0_h q0_f q0_mm q0_low q0_dd q0_r q0_big q0_dt q0_dx q0_t q0_cost q0_rowScaleNow q0_columnScaleNow q0_basic q0_text q0_turned q0_na q0_nb q0_nc vq0_m vq0_n vq0_length vq0_where vq0_effort vq0_thrown vq0_at vq0_scaled vq0_solved vq0_second vq0_nm vq0_nn vq0_number vq0_bad vq0_a vq0_b vq0_c vq0_text (vf_upd vq0_na x1.toNatClampNeg FP.dconst0) vq0_nb vq0_nc) := hD
        refine lv_iinc (v := x1 + 1) (lv' := [(1, .int (x1 + 1)), (0, .ref q0)]) hx hb d_M_read_31 hl (k := 1) rfl rfl (by decide) rfl (fun ls hl => ?_)
        refine lv_goto (tgt := 18) hx hb d_M_read_34 (by decide) ?_
        exact kc18 _ (Option.some.inj h).symm H locs ls hP hD hS (lv_sub hl [1, 0] rfl)
    · intro H locs ls hP hD hS hl
      refine lv_aload_n hx hb d_M_read_37 rfl (lv_at hl 0 rfl) ?_
      obtain ⟨u12, hu12, h⟩ := bi_some h
      refine kI (v := u12.1) (wc := (w_M_readAll T q0 q0_a q0_b q0_c q0_rowScale q0_columnScale q0_sa q0_sb q0_sc q0_x q0_s q0_y q0_p q0_d q0_h q0_f q0_mm q0_low q0_dd q0_r q0_big q0_dt q0_dx q0_t q0_cost q0_rowScaleNow q0_columnScaleNow q0_basic q0_text q0_turned q0_na q0_nb q0_nc vq0_m vq0_n vq0_length vq0_where vq0_effort vq0_thrown vq0_at vq0_scaled vq0_solved vq0_second vq0_nm vq0_nn vq0_number vq0_bad vq0_text u18 vq0_nb vq0_nc)) (wc' := (w_M_readAll T q0 q0_a q0_b q0_c q0_rowScale q0_columnScale q0_sa q0_sb q0_sc q0_x q0_s q0_y q0_p q0_d q0_h q0_f q0_mm q0_low q0_dd q0_r q0_big q0_dt q0_dx q0_t q0_cost q0_rowScaleNow q0_columnScaleNow q0_basic q0_text q0_turned q0_na q0_nb q0_nc vq0_m vq0_n vq0_length u12.2.1 vq0_effort vq0_thrown u12.2.2.1 vq0_scaled vq0_solved vq0_second u12.2.2.2.1 u12.2.2.2.2.1 u12.2.2.2.2.2.1 u12.2.2.2.2.2.2.1 vq0_text u12.2.2.2.2.2.2.2.1 u12.2.2.2.2.2.2.2.2.1 u12.2.2.2.2.2.2.2.2.2)) (runOV (As := []) (rest := []) ((c_M_readAll l D T q0 q0_a q0_b q0_c q0_rowScale q0_columnScale q0_sa q0_sb q0_sc q0_x q0_s q0_y q0_p q0_d q0_h q0_f q0_mm q0_low q0_dd q0_r q0_big q0_dt q0_dx q0_t q0_cost q0_rowScaleNow q0_columnScaleNow q0_basic q0_text q0_turned q0_na q0_nb q0_nc vq0_m vq0_n vq0_length vq0_where vq0_effort vq0_thrown vq0_at vq0_scaled vq0_solved vq0_second vq0_nm vq0_nn vq0_number vq0_bad vq0_text u18 vq0_nb vq0_nc  u12 hu12) H.size) ⟨hx, hb, hml, hown, hts⟩ (cwOV bw808 bw809 bw65 bw105 bw810 dd_M_readAll hts ⟨Nat.le_of_ble_eq_true rfl, Nat.le_of_ble_eq_true rfl⟩) (va_recv hK hP (ci := 8) (q0 := 0) rfl rfl) hNW hK hP hD [0, 4, 5, 6, 7] rfl (by decide) rfl hl.1 rfl (lv_room (Nat.le_of_ble_eq_true rfl)) d_M_read_38 ⟨Nat.le_of_ble_eq_true rfl, Nat.le_of_ble_eq_true rfl⟩) hP hD hS hA [0, 4, 5, 6, 7] rfl rfl (fun H locs hP hD hS => ?_)
      have hP : va_P D CL (w_M_read T q0 q0_a q0_b q0_c q0_rowScale q0_columnScale q0_sa q0_sb q0_sc q0_x q0_s q0_y q0_p q0_d q0_h q0_f q0_mm q0_low q0_dd q0_r q0_big q0_dt q0_dx q0_t q0_cost q0_rowScaleNow q0_columnScaleNow q0_basic q0_text q0_turned q0_na q0_nb q0_nc vq0_m vq0_n vq0_length u12.2.1 vq0_effort vq0_thrown u12.2.2.1 vq0_scaled vq0_solved vq0_second u12.2.2.2.1 u12.2.2.2.2.1 u12.2.2.2.2.2.1 u12.2.2.2.2.2.2.1 vq0_a vq0_b vq0_c vq0_text u12.2.2.2.2.2.2.2.1 u12.2.2.2.2.2.2.2.2.1 u12.2.2.2.2.2.2.2.2.2) H := hP
      have hD : va_D A (w_M_read T q0 q0_a q0_b q0_c q0_rowScale q0_columnScale q0_sa q0_sb q0_sc q0_x q0_s q0_y q0_p q0_d q0_h q0_f q0_mm q0_low q0_dd q0_r q0_big q0_dt q0_dx q0_t q0_cost q0_rowScaleNow q0_columnScaleNow q0_basic q0_text q0_turned q0_na q0_nb q0_nc vq0_m vq0_n vq0_length u12.2.1 vq0_effort vq0_thrown u12.2.2.1 vq0_scaled vq0_solved vq0_second u12.2.2.2.1 u12.2.2.2.2.1 u12.2.2.2.2.2.1 u12.2.2.2.2.2.2.1 vq0_a vq0_b vq0_c vq0_text u12.2.2.2.2.2.2.2.1 u12.2.2.2.2.2.2.2.2.1 u12.2.2.2.2.2.2.2.2.2) := hD
      refine lv_istore_n (lv' := [(1, .int u12.1), (0, .ref q0)]) hx hb d_M_read_41 rfl hl (by decide) rfl (fun ls hl => ?_)
      refine lv_aload_n hx hb d_M_read_42 rfl (lv_at hl 1 rfl) ?_
      refine lv_aload_n hx hb d_M_read_43 rfl (lv_at hl 1 rfl) ?_
      refine va_get (D := D) (ci := 8) (v := .int u12.2.2.2.2.2.2.1) (C := "ConeForgeModel") (T := FM) (N := 46) hx hb hts iM hown hK hP 0 rfl rfl 45 (by decide) (hts _ (bgc bw729)) (fun _ h9 => h9) rfl d_M_read_44 ?_
      refine lv_if_eq (tgt := 54) hx hb d_M_read_47 (by decide) (fun c13 => ?_) (fun c13 => ?_)
      · have h := it_t c13 h
        refine lv_iconst (v := 0) hx hb d_M_read_54 (by decide) ?_
        refine va_put (D := D) (ci := 8) (v := .int 0) (ty := .int) (C := "ConeForgeModel") (T := FM) (N := 46) hx hb hts iM tM tM_ok nmM hown hK hP hD hS 0 rfl rfl 34 (by decide) (hts _ (bgc bw718)) (fun _ h9 => h9) rfl (by decide +kernel) rfl rfl (Nat.le_of_ble_eq_true rfl) d_M_read_55 (fun H locs hP hD hS => ?_)
        have hP : va_P D CL (w_M_read T q0 q0_a q0_b q0_c q0_rowScale q0_columnScale q0_sa q0_sb q0_sc q0_x q0_s q0_y q0_p q0_d q0_h q0_f q0_mm q0_low q0_dd q0_r q0_big q0_dt q0_dx q0_t q0_cost q0_rowScaleNow q0_columnScaleNow q0_basic q0_text q0_turned q0_na q0_nb q0_nc vq0_m vq0_n vq0_length u12.2.1 vq0_effort 0 u12.2.2.1 vq0_scaled vq0_solved vq0_second u12.2.2.2.1 u12.2.2.2.2.1 u12.2.2.2.2.2.1 u12.2.2.2.2.2.2.1 vq0_a vq0_b vq0_c vq0_text u12.2.2.2.2.2.2.2.1 u12.2.2.2.2.2.2.2.2.1 u12.2.2.2.2.2.2.2.2.2) H := hP
        have hD : va_D A (w_M_read T q0 q0_a q0_b q0_c q0_rowScale q0_columnScale q0_sa q0_sb q0_sc q0_x q0_s q0_y q0_p q0_d q0_h q0_f q0_mm q0_low q0_dd q0_r q0_big q0_dt q0_dx q0_t q0_cost q0_rowScaleNow q0_columnScaleNow q0_basic q0_text q0_turned q0_na q0_nb q0_nc vq0_m vq0_n vq0_length u12.2.1 vq0_effort 0 u12.2.2.1 vq0_scaled vq0_solved vq0_second u12.2.2.2.1 u12.2.2.2.2.1 u12.2.2.2.2.2.1 u12.2.2.2.2.2.2.1 vq0_a vq0_b vq0_c vq0_text u12.2.2.2.2.2.2.2.1 u12.2.2.2.2.2.2.2.2.1 u12.2.2.2.2.2.2.2.2.2) := hD
        refine lv_aload_n hx hb d_M_read_58 rfl (lv_at hl 1 rfl) ?_
        refine va_get (D := D) (ci := 8) (v := .int u12.2.2.2.2.2.2.1) (C := "ConeForgeModel") (T := FM) (N := 46) hx hb hts iM hown hK hP 0 rfl rfl 45 (by decide) (hts _ (bgc bw729)) (fun _ h9 => h9) rfl d_M_read_59 ?_
        refine lv_if_eq (tgt := 67) hx hb d_M_read_62 (by decide) (fun c14 => ?_) (fun c14 => ?_)
        · have h := it_t c14 h
          refine lv_aload_n hx hb d_M_read_67 rfl (lv_at hl 1 rfl) ?_
          refine lv_aload_n hx hb d_M_read_68 rfl (lv_at hl 1 rfl) ?_
          refine va_get (D := D) (ci := 8) (v := .int u12.2.2.2.1) (C := "ConeForgeModel") (T := FM) (N := 46) hx hb hts iM hown hK hP 0 rfl rfl 42 (by decide) (hts _ (bgc bw726)) (fun _ h9 => h9) rfl d_M_read_69 ?_
          refine lv_aload_n hx hb d_M_read_72 rfl (lv_at hl 1 rfl) ?_
          refine va_get (D := D) (ci := 8) (v := .int u12.2.2.2.2.1) (C := "ConeForgeModel") (T := FM) (N := 46) hx hb hts iM hown hK hP 0 rfl rfl 43 (by decide) (hts _ (bgc bw727)) (fun _ h9 => h9) rfl d_M_read_73 ?_
          obtain ⟨u15, hu15, h⟩ := bi_some h
          refine kI (v := u15.1) (wc := (w_M_begin T q0 q0_a q0_b q0_c q0_rowScale q0_columnScale q0_sa q0_sb q0_sc q0_x q0_s q0_y q0_p q0_d q0_h q0_f q0_mm q0_low q0_dd q0_r q0_big q0_dt q0_dx q0_t q0_cost q0_rowScaleNow q0_columnScaleNow q0_basic q0_text q0_turned q0_na q0_nb q0_nc vq0_m vq0_n vq0_length u12.2.1 vq0_effort 0 u12.2.2.1 vq0_scaled vq0_solved vq0_second u12.2.2.2.1 u12.2.2.2.2.1 u12.2.2.2.2.2.1 u12.2.2.2.2.2.2.1 vq0_a vq0_b vq0_c)) (wc' := (w_M_begin T q0 q0_a q0_b q0_c q0_rowScale q0_columnScale q0_sa q0_sb q0_sc q0_x q0_s q0_y q0_p q0_d q0_h q0_f q0_mm q0_low q0_dd q0_r q0_big q0_dt q0_dx q0_t q0_cost q0_rowScaleNow q0_columnScaleNow q0_basic q0_text q0_turned q0_na q0_nb q0_nc u15.2.1 u15.2.2.1 vq0_length u12.2.1 vq0_effort u15.2.2.2.1 u12.2.2.1 vq0_scaled u15.2.2.2.2.1 vq0_second u12.2.2.2.1 u12.2.2.2.2.1 u12.2.2.2.2.2.1 u12.2.2.2.2.2.2.1 u15.2.2.2.2.2.1 u15.2.2.2.2.2.2.1 u15.2.2.2.2.2.2.2)) (runOV (As := [.int u12.2.2.2.1, .int u12.2.2.2.2.1]) (rest := []) ((c_M_begin l D T q0 q0_a q0_b q0_c q0_rowScale q0_columnScale q0_sa q0_sb q0_sc q0_x q0_s q0_y q0_p q0_d q0_h q0_f q0_mm q0_low q0_dd q0_r q0_big q0_dt q0_dx q0_t q0_cost q0_rowScaleNow q0_columnScaleNow q0_basic q0_text q0_turned q0_na q0_nb q0_nc vq0_m vq0_n vq0_length u12.2.1 vq0_effort 0 u12.2.2.1 vq0_scaled vq0_solved vq0_second u12.2.2.2.1 u12.2.2.2.2.1 u12.2.2.2.2.2.1 u12.2.2.2.2.2.2.1 vq0_a vq0_b vq0_c u12.2.2.2.1 u12.2.2.2.2.1 u15 hu15) H.size) ⟨hx, hb, hml, hown, hts⟩ (cwOV bw832 bw782 bw783 bw105 bw784 dd_M_begin hts ⟨Nat.le_of_ble_eq_true rfl, Nat.le_of_ble_eq_true rfl⟩) (va_recv hK hP (ci := 8) (q0 := 0) rfl rfl) hNW hK hP hD [0, 1, 2, 3] rfl (by decide) rfl hl.1 rfl (lv_room (Nat.le_of_ble_eq_true rfl)) d_M_read_76 ⟨Nat.le_of_ble_eq_true rfl, Nat.le_of_ble_eq_true rfl⟩) hP hD hS hA [0, 1, 2, 3] rfl rfl (fun H locs hP hD hS => ?_)
          have hP : va_P D CL (w_M_read T q0 q0_a q0_b q0_c q0_rowScale q0_columnScale q0_sa q0_sb q0_sc q0_x q0_s q0_y q0_p q0_d q0_h q0_f q0_mm q0_low q0_dd q0_r q0_big q0_dt q0_dx q0_t q0_cost q0_rowScaleNow q0_columnScaleNow q0_basic q0_text q0_turned q0_na q0_nb q0_nc u15.2.1 u15.2.2.1 vq0_length u12.2.1 vq0_effort u15.2.2.2.1 u12.2.2.1 vq0_scaled u15.2.2.2.2.1 vq0_second u12.2.2.2.1 u12.2.2.2.2.1 u12.2.2.2.2.2.1 u12.2.2.2.2.2.2.1 u15.2.2.2.2.2.1 u15.2.2.2.2.2.2.1 u15.2.2.2.2.2.2.2 vq0_text u12.2.2.2.2.2.2.2.1 u12.2.2.2.2.2.2.2.2.1 u12.2.2.2.2.2.2.2.2.2) H := hP
          have hD : va_D A (w_M_read T q0 q0_a q0_b q0_c q0_rowScale q0_columnScale q0_sa q0_sb q0_sc q0_x q0_s q0_y q0_p q0_d q0_h q0_f q0_mm q0_low q0_dd q0_r q0_big q0_dt q0_dx q0_t q0_cost q0_rowScaleNow q0_columnScaleNow q0_basic q0_text q0_turned q0_na q0_nb q0_nc u15.2.1 u15.2.2.1 vq0_length u12.2.1 vq0_effort u15.2.2.2.1 u12.2.2.1 vq0_scaled u15.2.2.2.2.1 vq0_second u12.2.2.2.1 u12.2.2.2.2.1 u12.2.2.2.2.2.1 u12.2.2.2.2.2.2.1 u15.2.2.2.2.2.1 u15.2.2.2.2.2.2.1 u15.2.2.2.2.2.2.2 vq0_text u12.2.2.2.2.2.2.2.1 u12.2.2.2.2.2.2.2.2.1 u12.2.2.2.2.2.2.2.2.2) := hD
          refine lv_pop hx hb d_M_read_79 rfl ?_
          refine lv_iconst (v := 0) hx hb d_M_read_80 (by decide) ?_
          refine lv_istore_n (lv' := [(2, .int 0), (1, .int u12.1), (0, .ref q0)]) hx hb d_M_read_81 rfl hl (by decide) rfl (fun ls hl => ?_)
          exact L82 u15.2.1 u15.2.2.1 vq0_length u12.2.1 u15.2.2.2.1 u12.2.2.1 u15.2.2.2.2.1 u12.2.2.2.1 u12.2.2.2.2.1 u12.2.2.2.2.2.1 u12.2.2.2.2.2.2.1 u15.2.2.2.2.2.1 u15.2.2.2.2.2.2.1 u15.2.2.2.2.2.2.2 u12.2.2.2.2.2.2.2.1 u12.2.2.2.2.2.2.2.2.1 u12.2.2.2.2.2.2.2.2.2 u12.1 0 H locs ls hP hD hS (lv_sub hl [2, 1, 0] rfl) h
        · have h := it_f c14 h
          refine lv_iconst (v := 0) hx hb d_M_read_65 (by decide) ?_
          exact rtI hx hb hr hlocks hQ (Option.some.inj h) hP hS d_M_read_66 rfl rfl
      · have h := it_f c13 h
        refine lv_iconst (v := 1) hx hb d_M_read_50 (by decide) ?_
        refine lv_goto (tgt := 55) hx hb d_M_read_51 (by decide) ?_
        refine va_put (D := D) (ci := 8) (v := .int 1) (ty := .int) (C := "ConeForgeModel") (T := FM) (N := 46) hx hb hts iM tM tM_ok nmM hown hK hP hD hS 0 rfl rfl 34 (by decide) (hts _ (bgc bw718)) (fun _ h9 => h9) rfl (by decide +kernel) rfl rfl (Nat.le_of_ble_eq_true rfl) d_M_read_55 (fun H locs hP hD hS => ?_)
        have hP : va_P D CL (w_M_read T q0 q0_a q0_b q0_c q0_rowScale q0_columnScale q0_sa q0_sb q0_sc q0_x q0_s q0_y q0_p q0_d q0_h q0_f q0_mm q0_low q0_dd q0_r q0_big q0_dt q0_dx q0_t q0_cost q0_rowScaleNow q0_columnScaleNow q0_basic q0_text q0_turned q0_na q0_nb q0_nc vq0_m vq0_n vq0_length u12.2.1 vq0_effort 1 u12.2.2.1 vq0_scaled vq0_solved vq0_second u12.2.2.2.1 u12.2.2.2.2.1 u12.2.2.2.2.2.1 u12.2.2.2.2.2.2.1 vq0_a vq0_b vq0_c vq0_text u12.2.2.2.2.2.2.2.1 u12.2.2.2.2.2.2.2.2.1 u12.2.2.2.2.2.2.2.2.2) H := hP
        have hD : va_D A (w_M_read T q0 q0_a q0_b q0_c q0_rowScale q0_columnScale q0_sa q0_sb q0_sc q0_x q0_s q0_y q0_p q0_d q0_h q0_f q0_mm q0_low q0_dd q0_r q0_big q0_dt q0_dx q0_t q0_cost q0_rowScaleNow q0_columnScaleNow q0_basic q0_text q0_turned q0_na q0_nb q0_nc vq0_m vq0_n vq0_length u12.2.1 vq0_effort 1 u12.2.2.1 vq0_scaled vq0_solved vq0_second u12.2.2.2.1 u12.2.2.2.2.1 u12.2.2.2.2.2.1 u12.2.2.2.2.2.2.1 vq0_a vq0_b vq0_c vq0_text u12.2.2.2.2.2.2.2.1 u12.2.2.2.2.2.2.2.2.1 u12.2.2.2.2.2.2.2.2.2) := hD
        refine lv_aload_n hx hb d_M_read_58 rfl (lv_at hl 1 rfl) ?_
        refine va_get (D := D) (ci := 8) (v := .int u12.2.2.2.2.2.2.1) (C := "ConeForgeModel") (T := FM) (N := 46) hx hb hts iM hown hK hP 0 rfl rfl 45 (by decide) (hts _ (bgc bw729)) (fun _ h9 => h9) rfl d_M_read_59 ?_
        refine lv_if_eq (tgt := 67) hx hb d_M_read_62 (by decide) (fun c16 => ?_) (fun c16 => ?_)
        · have h := it_t c16 h
          refine lv_aload_n hx hb d_M_read_67 rfl (lv_at hl 1 rfl) ?_
          refine lv_aload_n hx hb d_M_read_68 rfl (lv_at hl 1 rfl) ?_
          refine va_get (D := D) (ci := 8) (v := .int u12.2.2.2.1) (C := "ConeForgeModel") (T := FM) (N := 46) hx hb hts iM hown hK hP 0 rfl rfl 42 (by decide) (hts _ (bgc bw726)) (fun _ h9 => h9) rfl d_M_read_69 ?_
          refine lv_aload_n hx hb d_M_read_72 rfl (lv_at hl 1 rfl) ?_
          refine va_get (D := D) (ci := 8) (v := .int u12.2.2.2.2.1) (C := "ConeForgeModel") (T := FM) (N := 46) hx hb hts iM hown hK hP 0 rfl rfl 43 (by decide) (hts _ (bgc bw727)) (fun _ h9 => h9) rfl d_M_read_73 ?_
          obtain ⟨u17, hu17, h⟩ := bi_some h
          refine kI (v := u17.1) (wc := (w_M_begin T q0 q0_a q0_b q0_c q0_rowScale q0_columnScale q0_sa q0_sb q0_sc q0_x q0_s q0_y q0_p q0_d q0_h q0_f q0_mm q0_low q0_dd q0_r q0_big q0_dt q0_dx q0_t q0_cost q0_rowScaleNow q0_columnScaleNow q0_basic q0_text q0_turned q0_na q0_nb q0_nc vq0_m vq0_n vq0_length u12.2.1 vq0_effort 1 u12.2.2.1 vq0_scaled vq0_solved vq0_second u12.2.2.2.1 u12.2.2.2.2.1 u12.2.2.2.2.2.1 u12.2.2.2.2.2.2.1 vq0_a vq0_b vq0_c)) (wc' := (w_M_begin T q0 q0_a q0_b q0_c q0_rowScale q0_columnScale q0_sa q0_sb q0_sc q0_x q0_s q0_y q0_p q0_d q0_h q0_f q0_mm q0_low q0_dd q0_r q0_big q0_dt q0_dx q0_t q0_cost q0_rowScaleNow q0_columnScaleNow q0_basic q0_text q0_turned q0_na q0_nb q0_nc u17.2.1 u17.2.2.1 vq0_length u12.2.1 vq0_effort u17.2.2.2.1 u12.2.2.1 vq0_scaled u17.2.2.2.2.1 vq0_second u12.2.2.2.1 u12.2.2.2.2.1 u12.2.2.2.2.2.1 u12.2.2.2.2.2.2.1 u17.2.2.2.2.2.1 u17.2.2.2.2.2.2.1 u17.2.2.2.2.2.2.2)) (runOV (As := [.int u12.2.2.2.1, .int u12.2.2.2.2.1]) (rest := []) ((c_M_begin l D T q0 q0_a q0_b q0_c q0_rowScale q0_columnScale q0_sa q0_sb q0_sc q0_x q0_s q0_y q0_p q0_d q0_h q0_f q0_mm q0_low q0_dd q0_r q0_big q0_dt q0_dx q0_t q0_cost q0_rowScaleNow q0_columnScaleNow q0_basic q0_text q0_turned q0_na q0_nb q0_nc vq0_m vq0_n vq0_length u12.2.1 vq0_effort 1 u12.2.2.1 vq0_scaled vq0_solved vq0_second u12.2.2.2.1 u12.2.2.2.2.1 u12.2.2.2.2.2.1 u12.2.2.2.2.2.2.1 vq0_a vq0_b vq0_c u12.2.2.2.1 u12.2.2.2.2.1 u17 hu17) H.size) ⟨hx, hb, hml, hown, hts⟩ (cwOV bw832 bw782 bw783 bw105 bw784 dd_M_begin hts ⟨Nat.le_of_ble_eq_true rfl, Nat.le_of_ble_eq_true rfl⟩) (va_recv hK hP (ci := 8) (q0 := 0) rfl rfl) hNW hK hP hD [0, 1, 2, 3] rfl (by decide) rfl hl.1 rfl (lv_room (Nat.le_of_ble_eq_true rfl)) d_M_read_76 ⟨Nat.le_of_ble_eq_true rfl, Nat.le_of_ble_eq_true rfl⟩) hP hD hS hA [0, 1, 2, 3] rfl rfl (fun H locs hP hD hS => ?_)
          have hP : va_P D CL (w_M_read T q0 q0_a q0_b q0_c q0_rowScale q0_columnScale q0_sa q0_sb q0_sc q0_x q0_s q0_y q0_p q0_d q0_h q0_f q0_mm q0_low q0_dd q0_r q0_big q0_dt q0_dx q0_t q0_cost q0_rowScaleNow q0_columnScaleNow q0_basic q0_text q0_turned q0_na q0_nb q0_nc u17.2.1 u17.2.2.1 vq0_length u12.2.1 vq0_effort u17.2.2.2.1 u12.2.2.1 vq0_scaled u17.2.2.2.2.1 vq0_second u12.2.2.2.1 u12.2.2.2.2.1 u12.2.2.2.2.2.1 u12.2.2.2.2.2.2.1 u17.2.2.2.2.2.1 u17.2.2.2.2.2.2.1 u17.2.2.2.2.2.2.2 vq0_text u12.2.2.2.2.2.2.2.1 u12.2.2.2.2.2.2.2.2.1 u12.2.2.2.2.2.2.2.2.2) H := hP
          have hD : va_D A (w_M_read T q0 q0_a q0_b q0_c q0_rowScale q0_columnScale q0_sa q0_sb q0_sc q0_x q0_s q0_y q0_p q0_d q0_h q0_f q0_mm q0_low q0_dd q0_r q0_big q0_dt q0_dx q0_t q0_cost q0_rowScaleNow q0_columnScaleNow q0_basic q0_text q0_turned q0_na q0_nb q0_nc u17.2.1 u17.2.2.1 vq0_length u12.2.1 vq0_effort u17.2.2.2.1 u12.2.2.1 vq0_scaled u17.2.2.2.2.1 vq0_second u12.2.2.2.1 u12.2.2.2.2.1 u12.2.2.2.2.2.1 u12.2.2.2.2.2.2.1 u17.2.2.2.2.2.1 u17.2.2.2.2.2.2.1 u17.2.2.2.2.2.2.2 vq0_text u12.2.2.2.2.2.2.2.1 u12.2.2.2.2.2.2.2.2.1 u12.2.2.2.2.2.2.2.2.2) := hD
          refine lv_pop hx hb d_M_read_79 rfl ?_
          refine lv_iconst (v := 0) hx hb d_M_read_80 (by decide) ?_
          refine lv_istore_n (lv' := [(2, .int 0), (1, .int u12.1), (0, .ref q0)]) hx hb d_M_read_81 rfl hl (by decide) rfl (fun ls hl => ?_)
          exact L82 u17.2.1 u17.2.2.1 vq0_length u12.2.1 u17.2.2.2.1 u12.2.2.1 u17.2.2.2.2.1 u12.2.2.2.1 u12.2.2.2.2.1 u12.2.2.2.2.2.1 u12.2.2.2.2.2.2.1 u17.2.2.2.2.2.1 u17.2.2.2.2.2.2.1 u17.2.2.2.2.2.2.2 u12.2.2.2.2.2.2.2.1 u12.2.2.2.2.2.2.2.2.1 u12.2.2.2.2.2.2.2.2.2 u12.1 0 H locs ls hP hD hS (lv_sub hl [2, 1, 0] rfl) h
        · have h := it_f c16 h
          refine lv_iconst (v := 0) hx hb d_M_read_65 (by decide) ?_
          exact rtI hx hb hr hlocks hQ (Option.some.inj h) hP hS d_M_read_66 rfl rfl
  unfold s_M_read at h
  refine lv_aload_n hx hb d_M_read_0 rfl (lv_at hl 0 rfl) ?_
  refine lv_iconst (v := 0) hx hb d_M_read_1 (by decide) ?_
  refine va_put (D := D) (ci := 8) (v := .int 0) (ty := .int) (C := "ConeForgeModel") (T := FM) (N := 46) hx hb hts iM tM tM_ok nmM hown hK hP hD hS 0 rfl rfl 35 (by decide) (hts _ (bgc bw719)) (fun _ h9 => h9) rfl (by decide +kernel) rfl rfl (Nat.le_of_ble_eq_true rfl) d_M_read_2 (fun H locs hP hD hS => ?_)
  have hP : va_P D CL (w_M_read T q0 q0_a q0_b q0_c q0_rowScale q0_columnScale q0_sa q0_sb q0_sc q0_x q0_s q0_y q0_p q0_d q0_h q0_f q0_mm q0_low q0_dd q0_r q0_big q0_dt q0_dx q0_t q0_cost q0_rowScaleNow q0_columnScaleNow q0_basic q0_text q0_turned q0_na q0_nb q0_nc vq0_m vq0_n vq0_length vq0_where vq0_effort vq0_thrown 0 vq0_scaled vq0_solved vq0_second vq0_nm vq0_nn vq0_number vq0_bad vq0_a vq0_b vq0_c vq0_text vq0_na vq0_nb vq0_nc) H := hP
  have hD : va_D A (w_M_read T q0 q0_a q0_b q0_c q0_rowScale q0_columnScale q0_sa q0_sb q0_sc q0_x q0_s q0_y q0_p q0_d q0_h q0_f q0_mm q0_low q0_dd q0_r q0_big q0_dt q0_dx q0_t q0_cost q0_rowScaleNow q0_columnScaleNow q0_basic q0_text q0_turned q0_na q0_nb q0_nc vq0_m vq0_n vq0_length vq0_where vq0_effort vq0_thrown 0 vq0_scaled vq0_solved vq0_second vq0_nm vq0_nn vq0_number vq0_bad vq0_a vq0_b vq0_c vq0_text vq0_na vq0_nb vq0_nc) := hD
  refine lv_aload_n hx hb d_M_read_5 rfl (lv_at hl 0 rfl) ?_
  refine lv_iconst (v := 0) hx hb d_M_read_6 (by decide) ?_
  obtain ⟨g18, h⟩ := gd_some h
  refine va_put (D := D) (ci := 8) (v := .int 0) (ty := .boolean) (C := "ConeForgeModel") (T := FM) (N := 46) hx hb hts iM tM tM_ok nmM hown hK hP hD hS 0 rfl rfl 45 (by decide) (hts _ (bgc bw729)) (fun _ h9 => h9) rfl (by decide +kernel) (isb_n g18) (isb_f g18) (Nat.le_of_ble_eq_true rfl) d_M_read_7 (fun H locs hP hD hS => ?_)
  have hP : va_P D CL (w_M_read T q0 q0_a q0_b q0_c q0_rowScale q0_columnScale q0_sa q0_sb q0_sc q0_x q0_s q0_y q0_p q0_d q0_h q0_f q0_mm q0_low q0_dd q0_r q0_big q0_dt q0_dx q0_t q0_cost q0_rowScaleNow q0_columnScaleNow q0_basic q0_text q0_turned q0_na q0_nb q0_nc vq0_m vq0_n vq0_length vq0_where vq0_effort vq0_thrown 0 vq0_scaled vq0_solved vq0_second vq0_nm vq0_nn vq0_number 0 vq0_a vq0_b vq0_c vq0_text vq0_na vq0_nb vq0_nc) H := hP
  have hD : va_D A (w_M_read T q0 q0_a q0_b q0_c q0_rowScale q0_columnScale q0_sa q0_sb q0_sc q0_x q0_s q0_y q0_p q0_d q0_h q0_f q0_mm q0_low q0_dd q0_r q0_big q0_dt q0_dx q0_t q0_cost q0_rowScaleNow q0_columnScaleNow q0_basic q0_text q0_turned q0_na q0_nb q0_nc vq0_m vq0_n vq0_length vq0_where vq0_effort vq0_thrown 0 vq0_scaled vq0_solved vq0_second vq0_nm vq0_nn vq0_number 0 vq0_a vq0_b vq0_c vq0_text vq0_na vq0_nb vq0_nc) := hD
  refine lv_aload_n hx hb d_M_read_10 rfl (lv_at hl 0 rfl) ?_
  refine lv_bipush (v := (-2)) hx hb d_M_read_11 (by decide) ?_
  refine va_put (D := D) (ci := 8) (v := .int (-2)) (ty := .int) (C := "ConeForgeModel") (T := FM) (N := 46) hx hb hts iM tM tM_ok nmM hown hK hP hD hS 0 rfl rfl 32 (by decide) (hts _ (bgc bw716)) (fun _ h9 => h9) rfl (by decide +kernel) rfl rfl (Nat.le_of_ble_eq_true rfl) d_M_read_13 (fun H locs hP hD hS => ?_)
  have hP : va_P D CL (w_M_read T q0 q0_a q0_b q0_c q0_rowScale q0_columnScale q0_sa q0_sb q0_sc q0_x q0_s q0_y q0_p q0_d q0_h q0_f q0_mm q0_low q0_dd q0_r q0_big q0_dt q0_dx q0_t q0_cost q0_rowScaleNow q0_columnScaleNow q0_basic q0_text q0_turned q0_na q0_nb q0_nc vq0_m vq0_n vq0_length (-2) vq0_effort vq0_thrown 0 vq0_scaled vq0_solved vq0_second vq0_nm vq0_nn vq0_number 0 vq0_a vq0_b vq0_c vq0_text vq0_na vq0_nb vq0_nc) H := hP
  have hD : va_D A (w_M_read T q0 q0_a q0_b q0_c q0_rowScale q0_columnScale q0_sa q0_sb q0_sc q0_x q0_s q0_y q0_p q0_d q0_h q0_f q0_mm q0_low q0_dd q0_r q0_big q0_dt q0_dx q0_t q0_cost q0_rowScaleNow q0_columnScaleNow q0_basic q0_text q0_turned q0_na q0_nb q0_nc vq0_m vq0_n vq0_length (-2) vq0_effort vq0_thrown 0 vq0_scaled vq0_solved vq0_second vq0_nm vq0_nn vq0_number 0 vq0_a vq0_b vq0_c vq0_text vq0_na vq0_nb vq0_nc) := hD
  refine lv_iconst (v := 0) hx hb d_M_read_16 (by decide) ?_
  refine lv_istore_n (lv' := [(1, .int 0), (0, .ref q0)]) hx hb d_M_read_17 rfl hl (by decide) rfl (fun ls hl => ?_)
  exact L18 vq0_m vq0_n vq0_length (-2) vq0_thrown 0 vq0_solved vq0_nm vq0_nn vq0_number 0 vq0_a vq0_b vq0_c vq0_na vq0_nb vq0_nc 0 H locs ls hP hD hS (lv_sub hl [1, 0] rfl) h
theorem d_M_where_0 : decode prog_10_method_18_code 0 = .ok (.aload_n 0, 1) := by decide +kernel
theorem d_M_where_1 : decode prog_10_method_18_code 1 = .ok (.iconst 0, 1) := by decide +kernel
theorem d_M_where_2 : decode prog_10_method_18_code 2 = .ok (.putfield 122, 3) := by decide +kernel
theorem d_M_where_5 : decode prog_10_method_18_code 5 = .ok (.aload_n 0, 1) := by decide +kernel
theorem d_M_where_6 : decode prog_10_method_18_code 6 = .ok (.getfield 106, 3) := by decide +kernel
theorem d_M_where_9 : decode prog_10_method_18_code 9 = .ok (.ireturn, 1) := by decide +kernel
abbrev w_M_where (T : Nat → ClassId) (q0 : Nat) (q0_a : Nat) (q0_b : Nat) (q0_c : Nat) (q0_rowScale : Nat) (q0_columnScale : Nat) (q0_sa : Nat) (q0_sb : Nat) (q0_sc : Nat) (q0_x : Nat) (q0_s : Nat) (q0_y : Nat) (q0_p : Nat) (q0_d : Nat) (q0_h : Nat) (q0_f : Nat) (q0_mm : Nat) (q0_low : Nat) (q0_dd : Nat) (q0_r : Nat) (q0_big : Nat) (q0_dt : Nat) (q0_dx : Nat) (q0_t : Nat) (q0_cost : Nat) (q0_rowScaleNow : Nat) (q0_columnScaleNow : Nat) (q0_basic : Nat) (q0_text : Nat) (q0_turned : Nat) (q0_na : Nat) (q0_nb : Nat) (q0_nc : Nat) (vq0_m : Int32) (vq0_n : Int32) (vq0_length : Int32) (vq0_where : Int32) (vq0_effort : Int32) (vq0_thrown : Int32) (vq0_at : Int32) (vq0_scaled : Int32) (vq0_solved : Int32) (vq0_second : Int32) (vq0_nm : Int32) (vq0_nn : Int32) (vq0_number : UInt64) (vq0_bad : Int32) : va_W := [(q0, .inr (8, [.ref q0_a, .ref q0_b, .ref q0_c, .ref q0_rowScale, .ref q0_columnScale, .ref q0_sa, .ref q0_sb, .ref q0_sc, .ref q0_x, .ref q0_s, .ref q0_y, .ref q0_p, .ref q0_d, .ref q0_h, .ref q0_f, .ref q0_mm, .ref q0_low, .ref q0_dd, .ref q0_r, .ref q0_big, .ref q0_dt, .ref q0_dx, .ref q0_t, .ref q0_cost, .ref q0_rowScaleNow, .ref q0_columnScaleNow, .ref q0_basic, .ref q0_text, .ref q0_turned, .int vq0_m, .int vq0_n, .int vq0_length, .int vq0_where, .int vq0_effort, .int vq0_thrown, .int vq0_at, .int vq0_scaled, .int vq0_solved, .int vq0_second, .ref q0_na, .ref q0_nb, .ref q0_nc, .int vq0_nm, .int vq0_nn, .double vq0_number, .int vq0_bad]))]
def s_M_where (vq0_m : Int32) (vq0_n : Int32) (vq0_length : Int32) (vq0_where : Int32) (vq0_effort : Int32) (vq0_thrown : Int32) (vq0_at : Int32) (vq0_scaled : Int32) (vq0_solved : Int32) (vq0_second : Int32) (vq0_nm : Int32) (vq0_nn : Int32) (vq0_number : UInt64) (vq0_bad : Int32) : Option (Int32 × Int32) :=
  some (vq0_where, 0)
set_option maxHeartbeats 4000000 in
set_option maxRecDepth 100000 in
theorem c_M_where (l : Launch) (D : va_G) (T : Nat → ClassId) (q0 : Nat) (q0_a : Nat) (q0_b : Nat) (q0_c : Nat) (q0_rowScale : Nat) (q0_columnScale : Nat) (q0_sa : Nat) (q0_sb : Nat) (q0_sc : Nat) (q0_x : Nat) (q0_s : Nat) (q0_y : Nat) (q0_p : Nat) (q0_d : Nat) (q0_h : Nat) (q0_f : Nat) (q0_mm : Nat) (q0_low : Nat) (q0_dd : Nat) (q0_r : Nat) (q0_big : Nat) (q0_dt : Nat) (q0_dx : Nat) (q0_t : Nat) (q0_cost : Nat) (q0_rowScaleNow : Nat) (q0_columnScaleNow : Nat) (q0_basic : Nat) (q0_text : Nat) (q0_turned : Nat) (q0_na : Nat) (q0_nb : Nat) (q0_nc : Nat) (vq0_m : Int32) (vq0_n : Int32) (vq0_length : Int32) (vq0_where : Int32) (vq0_effort : Int32) (vq0_thrown : Int32) (vq0_at : Int32) (vq0_scaled : Int32) (vq0_solved : Int32) (vq0_second : Int32) (vq0_nm : Int32) (vq0_nn : Int32) (vq0_number : UInt64) (vq0_bad : Int32) (rm : Int32 × Int32) (h : s_M_where vq0_m vq0_n vq0_length vq0_where vq0_effort vq0_thrown vq0_at vq0_scaled vq0_solved vq0_second vq0_nm vq0_nn vq0_number vq0_bad = some rm) : CtI l y_M_where (Cond.code y_M_where prog_10_method_18_code 1 (some .int) :: BIG) 0 0 D T [.ref q0] (w_M_where T q0 q0_a q0_b q0_c q0_rowScale q0_columnScale q0_sa q0_sb q0_sc q0_x q0_s q0_y q0_p q0_d q0_h q0_f q0_mm q0_low q0_dd q0_r q0_big q0_dt q0_dx q0_t q0_cost q0_rowScaleNow q0_columnScaleNow q0_basic q0_text q0_turned q0_na q0_nb q0_nc vq0_m vq0_n vq0_length vq0_where vq0_effort vq0_thrown vq0_at vq0_scaled vq0_solved vq0_second vq0_nm vq0_nn vq0_number vq0_bad) (fun r => r.1) (fun r => (w_M_where T q0 q0_a q0_b q0_c q0_rowScale q0_columnScale q0_sa q0_sb q0_sc q0_x q0_s q0_y q0_p q0_d q0_h q0_f q0_mm q0_low q0_dd q0_r q0_big q0_dt q0_dx q0_t q0_cost q0_rowScaleNow q0_columnScaleNow q0_basic q0_text q0_turned q0_na q0_nb q0_nc vq0_m vq0_n vq0_length vq0_where vq0_effort r.2 vq0_at vq0_scaled vq0_solved vq0_second vq0_nm vq0_nn vq0_number vq0_bad)) rm := by
  refine cf_entry (y := y_M_where) (cc := prog_10_method_18_code) (nL := 1) (ret := (some .int)) (fr := 0) (lo := 0) (T := T) (av := [.ref q0]) (w := (w_M_where T q0 q0_a q0_b q0_c q0_rowScale q0_columnScale q0_sa q0_sb q0_sc q0_x q0_s q0_y q0_p q0_d q0_h q0_f q0_mm q0_low q0_dd q0_r q0_big q0_dt q0_dx q0_t q0_cost q0_rowScaleNow q0_columnScaleNow q0_basic q0_text q0_turned q0_na q0_nb q0_nc vq0_m vq0_n vq0_length vq0_where vq0_effort vq0_thrown vq0_at vq0_scaled vq0_solved vq0_second vq0_nm vq0_nn vq0_number vq0_bad)) (Qc := cfQi D (fun r => r.1) (fun r => (w_M_where T q0 q0_a q0_b q0_c q0_rowScale q0_columnScale q0_sa q0_sb q0_sc q0_x q0_s q0_y q0_p q0_d q0_h q0_f q0_mm q0_low q0_dd q0_r q0_big q0_dt q0_dx q0_t q0_cost q0_rowScaleNow q0_columnScaleNow q0_basic q0_text q0_turned q0_na q0_nb q0_nc vq0_m vq0_n vq0_length vq0_where vq0_effort r.2 vq0_at vq0_scaled vq0_solved vq0_second vq0_nm vq0_nn vq0_number vq0_bad)) rm) (by decide) rfl (Nat.le_of_ble_eq_true rfl) ?_
  intro p e s m args below meth c A Q H locs ls hx hb hr hlocks hml hown hts hNW hK hA hQ hP hD hS hl
  have hown : s.vm.findClass "ConeForgeModel" = some m.cls := hown
  have hl : lv_has ls 1 [(0, .ref q0)] := hl
  unfold s_M_where at h
  refine lv_aload_n hx hb d_M_where_0 rfl (lv_at hl 0 rfl) ?_
  refine lv_iconst (v := 0) hx hb d_M_where_1 (by decide) ?_
  refine va_put (D := D) (ci := 8) (v := .int 0) (ty := .int) (C := "ConeForgeModel") (T := FM) (N := 46) hx hb hts iM tM tM_ok nmM hown hK hP hD hS 0 rfl rfl 34 (by decide) (hts _ (bgc bw718)) (fun _ h9 => h9) rfl (by decide +kernel) rfl rfl (Nat.le_of_ble_eq_true rfl) d_M_where_2 (fun H locs hP hD hS => ?_)
  have hP : va_P D CL (w_M_where T q0 q0_a q0_b q0_c q0_rowScale q0_columnScale q0_sa q0_sb q0_sc q0_x q0_s q0_y q0_p q0_d q0_h q0_f q0_mm q0_low q0_dd q0_r q0_big q0_dt q0_dx q0_t q0_cost q0_rowScaleNow q0_columnScaleNow q0_basic q0_text q0_turned q0_na q0_nb q0_nc vq0_m vq0_n vq0_length vq0_where vq0_effort 0 vq0_at vq0_scaled vq0_solved vq0_second vq0_nm vq0_nn vq0_number vq0_bad) H := hP
  have hD : va_D A (w_M_where T q0 q0_a q0_b q0_c q0_rowScale q0_columnScale q0_sa q0_sb q0_sc q0_x q0_s q0_y q0_p q0_d q0_h q0_f q0_mm q0_low q0_dd q0_r q0_big q0_dt q0_dx q0_t q0_cost q0_rowScaleNow q0_columnScaleNow q0_basic q0_text q0_turned q0_na q0_nb q0_nc vq0_m vq0_n vq0_length vq0_where vq0_effort 0 vq0_at vq0_scaled vq0_solved vq0_second vq0_nm vq0_nn vq0_number vq0_bad) := hD
  refine lv_aload_n hx hb d_M_where_5 rfl (lv_at hl 0 rfl) ?_
  refine va_get (D := D) (ci := 8) (v := .int vq0_where) (C := "ConeForgeModel") (T := FM) (N := 46) hx hb hts iM hown hK hP 0 rfl rfl 32 (by decide) (hts _ (bgc bw716)) (fun _ h9 => h9) rfl d_M_where_6 ?_
  exact rtI hx hb hr hlocks hQ (Option.some.inj h) hP hS d_M_where_9 rfl rfl
theorem d_M_power_0 : decode prog_10_method_19_code 0 = .ok (.dload_n 0, 1) := by decide +kernel
theorem d_M_power_1 : decode prog_10_method_19_code 1 = .ok (.dconst 0, 1) := by decide +kernel
theorem d_M_power_2 : decode prog_10_method_19_code 2 = .ok (.dcmp .l, 1) := by decide +kernel
theorem d_M_power_3 : decode prog_10_method_19_code 3 = .ok (.ifCond .ne 5, 3) := by decide +kernel
theorem d_M_power_6 : decode prog_10_method_19_code 6 = .ok (.dconst 1, 1) := by decide +kernel
theorem d_M_power_7 : decode prog_10_method_19_code 7 = .ok (.dreturn, 1) := by decide +kernel
theorem d_M_power_8 : decode prog_10_method_19_code 8 = .ok (.dconst 1, 1) := by decide +kernel
theorem d_M_power_9 : decode prog_10_method_19_code 9 = .ok (.dload_n 0, 1) := by decide +kernel
theorem d_M_power_10 : decode prog_10_method_19_code 10 = .ok (.ddiv, 1) := by decide +kernel
theorem d_M_power_11 : decode prog_10_method_19_code 11 = .ok (.dstore_n 2, 1) := by decide +kernel
theorem d_M_power_12 : decode prog_10_method_19_code 12 = .ok (.dconst 1, 1) := by decide +kernel
theorem d_M_power_13 : decode prog_10_method_19_code 13 = .ok (.dstore 4, 2) := by decide +kernel
theorem d_M_power_15 : decode prog_10_method_19_code 15 = .ok (.dload 4, 2) := by decide +kernel
theorem d_M_power_17 : decode prog_10_method_19_code 17 = .ok (.dload_n 2, 1) := by decide +kernel
theorem d_M_power_18 : decode prog_10_method_19_code 18 = .ok (.dcmp .l, 1) := by decide +kernel
theorem d_M_power_19 : decode prog_10_method_19_code 19 = .ok (.ifCond .le 14, 3) := by decide +kernel
theorem d_M_power_22 : decode prog_10_method_19_code 22 = .ok (.dload 4, 2) := by decide +kernel
theorem d_M_power_24 : decode prog_10_method_19_code 24 = .ok (.ldc2_w 195, 3) := by decide +kernel
theorem d_M_power_27 : decode prog_10_method_19_code 27 = .ok (.ddiv, 1) := by decide +kernel
theorem d_M_power_28 : decode prog_10_method_19_code 28 = .ok (.dstore 4, 2) := by decide +kernel
theorem d_M_power_30 : decode prog_10_method_19_code 30 = .ok (.goto (-15), 3) := by decide +kernel
theorem d_M_power_33 : decode prog_10_method_19_code 33 = .ok (.dload 4, 2) := by decide +kernel
theorem d_M_power_35 : decode prog_10_method_19_code 35 = .ok (.ldc2_w 195, 3) := by decide +kernel
theorem d_M_power_38 : decode prog_10_method_19_code 38 = .ok (.dmul, 1) := by decide +kernel
theorem d_M_power_39 : decode prog_10_method_19_code 39 = .ok (.dload_n 2, 1) := by decide +kernel
theorem d_M_power_40 : decode prog_10_method_19_code 40 = .ok (.dcmp .g, 1) := by decide +kernel
theorem d_M_power_41 : decode prog_10_method_19_code 41 = .ok (.ifCond .gt 14, 3) := by decide +kernel
theorem d_M_power_44 : decode prog_10_method_19_code 44 = .ok (.dload 4, 2) := by decide +kernel
theorem d_M_power_46 : decode prog_10_method_19_code 46 = .ok (.ldc2_w 195, 3) := by decide +kernel
theorem d_M_power_49 : decode prog_10_method_19_code 49 = .ok (.dmul, 1) := by decide +kernel
theorem d_M_power_50 : decode prog_10_method_19_code 50 = .ok (.dstore 4, 2) := by decide +kernel
theorem d_M_power_52 : decode prog_10_method_19_code 52 = .ok (.goto (-19), 3) := by decide +kernel
theorem d_M_power_55 : decode prog_10_method_19_code 55 = .ok (.dload 4, 2) := by decide +kernel
theorem d_M_power_57 : decode prog_10_method_19_code 57 = .ok (.dreturn, 1) := by decide +kernel
abbrev w_M_power (T : Nat → ClassId)   : va_W := []
def s_M_power_B33 (x2 : UInt64) (x4 : UInt64) : Option ((UInt64) ⊕ (UInt64)) :=
  gd (isn (FP.dmul x4 4611686018427387904)) <| if 0 < (Op.cmpValue (FP.dcmp (FP.dmul x4 4611686018427387904) x2) .g) then (some (.inr x4)) else (gd (isn (FP.dmul x4 4611686018427387904)) <| some (.inl (FP.dmul x4 4611686018427387904)))
def s_M_power_L33 (x2 : UInt64) (x4 : UInt64) : Option (UInt64) :=
  (loopO (fun (st : UInt64) => s_M_power_B33 x2 st) 2000 x4).bind fun u33 => some u33
def s_M_power_B15 (x2 : UInt64) (x4 : UInt64) : Option ((UInt64) ⊕ (UInt64)) :=
  if (Op.cmpValue (FP.dcmp x4 x2) .l) ≤ 0 then (some (.inr x4)) else (gd (isn (FP.ddiv x4 4611686018427387904)) <| some (.inl (FP.ddiv x4 4611686018427387904)))
def s_M_power_L15 (x2 : UInt64) (x4 : UInt64) : Option (UInt64) :=
  (loopO (fun (st : UInt64) => s_M_power_B15 x2 st) 2000 x4).bind fun u15 => s_M_power_L33 x2 u15
def s_M_power (x0 : UInt64) : Option (UInt64) :=
  if (Op.cmpValue (FP.dcmp x0 FP.dconst0) .l) = 0 then (some FP.dconst1) else (gd (isn (FP.ddiv FP.dconst1 x0)) <| s_M_power_L15 (FP.ddiv FP.dconst1 x0) FP.dconst1)
set_option maxHeartbeats 4000000 in
set_option maxRecDepth 100000 in
theorem c_M_power (l : Launch) (D : va_G) (T : Nat → ClassId) (x0 : UInt64) (rm : UInt64) (h : s_M_power x0 = some rm) : CtD l y_M_power (Cond.code y_M_power prog_10_method_19_code 6 (some .double) :: BIG) 0 0 D T [.double x0] (w_M_power T  ) (fun r => r) (fun r => (w_M_power T  )) rm := by
  refine cf_entry (y := y_M_power) (cc := prog_10_method_19_code) (nL := 6) (ret := (some .double)) (fr := 0) (lo := 0) (T := T) (av := [.double x0]) (w := (w_M_power T  )) (Qc := cfQd D (fun r => r) (fun r => (w_M_power T  )) rm) (by decide) rfl (Nat.le_of_ble_eq_true rfl) ?_
  intro p e s m args below meth c A Q H locs ls hx hb hr hlocks hml hown hts hNW hK hA hQ hP hD hS hl
  have hown : s.vm.findClass "ConeForgeModel" = some m.cls := hown
  have hl : lv_has ls 6 [(0, .double x0)] := hl
  have L33 : ∀ (x2 : UInt64) (x4 : UInt64), ∀ (H : Heap) (locs : List Loc) (ls : Array Slot), va_P D CL (w_M_power T  ) H → va_D A (w_M_power T  ) → va_S A s.heap H locs → lv_has ls 6 [(2, .double x2), (4, .double x4)] → s_M_power_L33 x2 x4 = some rm → W p l e (rmk 0 0) s m args below meth c H locs 0 0 Q (F0 m 33 ls []) := by
    intro x2 x4 H locs ls hP hD hS hl h
    unfold s_M_power_L33 at h
    obtain ⟨u33, hu33, h⟩ := bi_some h
    refine loopO_W (Wh := fun (st : UInt64) => ∀ (H : Heap) (locs : List Loc) (ls : Array Slot), va_P D CL (w_M_power T  ) H → va_D A (w_M_power T  ) → va_S A s.heap H locs → lv_has ls 6 [(2, .double x2), (4, .double st)] → W p l e (rmk 0 0) s m args below meth c H locs 0 0 Q (F0 m 33 ls [])) (Wx := fun (e1 : UInt64) => ∀ (H : Heap) (locs : List Loc) (ls : Array Slot), va_P D CL (w_M_power T  ) H → va_D A (w_M_power T  ) → va_S A s.heap H locs → lv_has ls 6 [(4, .double e1)] → W p l e (rmk 0 0) s m args below meth c H locs 0 0 Q (F0 m 55 ls [])) ?_ 2000 _ u33 hu33 ?_ H locs ls hP hD hS hl
    · intro st rb33 h kc33 kx33 H locs ls hP hD hS hl
      obtain ⟨x4, rfl⟩ : ∃ z, z = st := ⟨_, rfl⟩
      have h : s_M_power_B33 x2 x4 = some rb33 := h
      unfold s_M_power_B33 at h
      refine lv_dload hx hb d_M_power_33 (lv_at hl 1 rfl) ?_
      refine lv_ldc2d (v := 4611686018427387904) hx hb hown (hts _ (bgc bw853)) d_M_power_35 ?_
      obtain ⟨g1, h⟩ := gd_some h
      refine lv_dmul hx hb d_M_power_38 (isn_n g1) ?_
      refine lv_dload_n hx hb d_M_power_39 rfl (lv_at hl 0 rfl) ?_
      refine lv_dcmp hx hb d_M_power_40 ?_
      refine lv_if_gt (tgt := 55) hx hb d_M_power_41 (by decide) (fun c2 => ?_) (fun c2 => ?_)
      · have h := it_t c2 h
        exact kx33 _ (Option.some.inj h).symm H locs ls hP hD hS (lv_sub hl [1] rfl)
      · have h := it_f c2 h
        refine lv_dload hx hb d_M_power_44 (lv_at hl 1 rfl) ?_
        refine lv_ldc2d (v := 4611686018427387904) hx hb hown (hts _ (bgc bw853)) d_M_power_46 ?_
        obtain ⟨g3, h⟩ := gd_some h
        refine lv_dmul hx hb d_M_power_49 (isn_n g3) ?_
        refine lv_dstore (lv' := [(4, .double (FP.dmul x4 4611686018427387904)), (2, .double x2)]) hx hb d_M_power_50 hl (by decide) rfl (fun ls hl => ?_)
        refine lv_goto (tgt := 33) hx hb d_M_power_52 (by decide) ?_
        exact kc33 _ (Option.some.inj h).symm H locs ls hP hD hS (lv_sub hl [1, 0] rfl)
    · intro H locs ls hP hD hS hl
      refine lv_dload hx hb d_M_power_55 (lv_at hl 0 rfl) ?_
      exact rtD hx hb hr hlocks hQ (Option.some.inj h) hP hS d_M_power_57 rfl rfl
  have L15 : ∀ (x2 : UInt64) (x4 : UInt64), ∀ (H : Heap) (locs : List Loc) (ls : Array Slot), va_P D CL (w_M_power T  ) H → va_D A (w_M_power T  ) → va_S A s.heap H locs → lv_has ls 6 [(2, .double x2), (4, .double x4)] → s_M_power_L15 x2 x4 = some rm → W p l e (rmk 0 0) s m args below meth c H locs 0 0 Q (F0 m 15 ls []) := by
    intro x2 x4 H locs ls hP hD hS hl h
    unfold s_M_power_L15 at h
    obtain ⟨u15, hu15, h⟩ := bi_some h
    refine loopO_W (Wh := fun (st : UInt64) => ∀ (H : Heap) (locs : List Loc) (ls : Array Slot), va_P D CL (w_M_power T  ) H → va_D A (w_M_power T  ) → va_S A s.heap H locs → lv_has ls 6 [(2, .double x2), (4, .double st)] → W p l e (rmk 0 0) s m args below meth c H locs 0 0 Q (F0 m 15 ls [])) (Wx := fun (e1 : UInt64) => ∀ (H : Heap) (locs : List Loc) (ls : Array Slot), va_P D CL (w_M_power T  ) H → va_D A (w_M_power T  ) → va_S A s.heap H locs → lv_has ls 6 [(2, .double x2), (4, .double e1)] → W p l e (rmk 0 0) s m args below meth c H locs 0 0 Q (F0 m 33 ls [])) ?_ 2000 _ u15 hu15 ?_ H locs ls hP hD hS hl
    · intro st rb15 h kc15 kx15 H locs ls hP hD hS hl
      obtain ⟨x4, rfl⟩ : ∃ z, z = st := ⟨_, rfl⟩
      have h : s_M_power_B15 x2 x4 = some rb15 := h
      unfold s_M_power_B15 at h
      refine lv_dload hx hb d_M_power_15 (lv_at hl 1 rfl) ?_
      refine lv_dload_n hx hb d_M_power_17 rfl (lv_at hl 0 rfl) ?_
      refine lv_dcmp hx hb d_M_power_18 ?_
      refine lv_if_le (tgt := 33) hx hb d_M_power_19 (by decide) (fun c4 => ?_) (fun c4 => ?_)
      · have h := it_t c4 h
        exact kx15 _ (Option.some.inj h).symm H locs ls hP hD hS (lv_sub hl [0, 1] rfl)
      · have h := it_f c4 h
        refine lv_dload hx hb d_M_power_22 (lv_at hl 1 rfl) ?_
        refine lv_ldc2d (v := 4611686018427387904) hx hb hown (hts _ (bgc bw853)) d_M_power_24 ?_
        obtain ⟨g5, h⟩ := gd_some h
        refine lv_ddiv hx hb d_M_power_27 (isn_n g5) ?_
        refine lv_dstore (lv' := [(4, .double (FP.ddiv x4 4611686018427387904)), (2, .double x2)]) hx hb d_M_power_28 hl (by decide) rfl (fun ls hl => ?_)
        refine lv_goto (tgt := 15) hx hb d_M_power_30 (by decide) ?_
        exact kc15 _ (Option.some.inj h).symm H locs ls hP hD hS (lv_sub hl [1, 0] rfl)
    · intro H locs ls hP hD hS hl
      exact L33 x2 u15 H locs ls hP hD hS (lv_sub hl [0, 1] rfl) h
  unfold s_M_power at h
  refine lv_dload_n hx hb d_M_power_0 rfl (lv_at hl 0 rfl) ?_
  refine lv_dconst0 hx hb d_M_power_1 ?_
  refine lv_dcmp hx hb d_M_power_2 ?_
  refine lv_if_ne (tgt := 8) hx hb d_M_power_3 (by decide) (fun c6 => ?_) (fun c6 => ?_)
  · have h := it_f c6 h
    refine lv_dconst1 hx hb d_M_power_8 ?_
    refine lv_dload_n hx hb d_M_power_9 rfl (lv_at hl 0 rfl) ?_
    obtain ⟨g7, h⟩ := gd_some h
    refine lv_ddiv hx hb d_M_power_10 (isn_n g7) ?_
    refine lv_dstore_n (lv' := [(2, .double (FP.ddiv FP.dconst1 x0)), (0, .double x0)]) hx hb d_M_power_11 rfl hl (by decide) rfl (fun ls hl => ?_)
    refine lv_dconst1 hx hb d_M_power_12 ?_
    refine lv_dstore (lv' := [(4, .double FP.dconst1), (2, .double (FP.ddiv FP.dconst1 x0)), (0, .double x0)]) hx hb d_M_power_13 hl (by decide) rfl (fun ls hl => ?_)
    exact L15 (FP.ddiv FP.dconst1 x0) FP.dconst1 H locs ls hP hD hS (lv_sub hl [1, 0] rfl) h
  · have h := it_t c6 h
    refine lv_dconst1 hx hb d_M_power_6 ?_
    exact rtD hx hb hr hlocks hQ (Option.some.inj h) hP hS d_M_power_7 rfl rfl
theorem d_M_rescale_0 : decode prog_10_method_20_code 0 = .ok (.iconst 0, 1) := by decide +kernel
theorem d_M_rescale_1 : decode prog_10_method_20_code 1 = .ok (.istore_n 1, 1) := by decide +kernel
theorem d_M_rescale_2 : decode prog_10_method_20_code 2 = .ok (.iload_n 1, 1) := by decide +kernel
theorem d_M_rescale_3 : decode prog_10_method_20_code 3 = .ok (.aload_n 0, 1) := by decide +kernel
theorem d_M_rescale_4 : decode prog_10_method_20_code 4 = .ok (.getfield 99, 3) := by decide +kernel
theorem d_M_rescale_7 : decode prog_10_method_20_code 7 = .ok (.if_icmp .ge 70, 3) := by decide +kernel
theorem d_M_rescale_10 : decode prog_10_method_20_code 10 = .ok (.dconst 0, 1) := by decide +kernel
theorem d_M_rescale_11 : decode prog_10_method_20_code 11 = .ok (.dstore_n 2, 1) := by decide +kernel
theorem d_M_rescale_12 : decode prog_10_method_20_code 12 = .ok (.iconst 0, 1) := by decide +kernel
theorem d_M_rescale_13 : decode prog_10_method_20_code 13 = .ok (.istore 4, 2) := by decide +kernel
theorem d_M_rescale_15 : decode prog_10_method_20_code 15 = .ok (.iload 4, 2) := by decide +kernel
theorem d_M_rescale_17 : decode prog_10_method_20_code 17 = .ok (.aload_n 0, 1) := by decide +kernel
theorem d_M_rescale_18 : decode prog_10_method_20_code 18 = .ok (.getfield 103, 3) := by decide +kernel
theorem d_M_rescale_21 : decode prog_10_method_20_code 21 = .ok (.if_icmp .ge 29, 3) := by decide +kernel
theorem d_M_rescale_24 : decode prog_10_method_20_code 24 = .ok (.dload_n 2, 1) := by decide +kernel
theorem d_M_rescale_25 : decode prog_10_method_20_code 25 = .ok (.aload_n 0, 1) := by decide +kernel
theorem d_M_rescale_26 : decode prog_10_method_20_code 26 = .ok (.getfield 7, 3) := by decide +kernel
theorem d_M_rescale_29 : decode prog_10_method_20_code 29 = .ok (.bipush 8, 2) := by decide +kernel
theorem d_M_rescale_31 : decode prog_10_method_20_code 31 = .ok (.iload_n 1, 1) := by decide +kernel
theorem d_M_rescale_32 : decode prog_10_method_20_code 32 = .ok (.imul, 1) := by decide +kernel
theorem d_M_rescale_33 : decode prog_10_method_20_code 33 = .ok (.iload 4, 2) := by decide +kernel
theorem d_M_rescale_35 : decode prog_10_method_20_code 35 = .ok (.iadd, 1) := by decide +kernel
theorem d_M_rescale_36 : decode prog_10_method_20_code 36 = .ok (.daload, 1) := by decide +kernel
theorem d_M_rescale_37 : decode prog_10_method_20_code 37 = .ok (.invokestatic 197, 3) := by decide +kernel
theorem d_M_rescale_40 : decode prog_10_method_20_code 40 = .ok (.invokestatic 201, 3) := by decide +kernel
theorem d_M_rescale_43 : decode prog_10_method_20_code 43 = .ok (.dstore_n 2, 1) := by decide +kernel
theorem d_M_rescale_44 : decode prog_10_method_20_code 44 = .ok (.iinc 4 1, 3) := by decide +kernel
theorem d_M_rescale_47 : decode prog_10_method_20_code 47 = .ok (.goto (-32), 3) := by decide +kernel
theorem d_M_rescale_50 : decode prog_10_method_20_code 50 = .ok (.aload_n 0, 1) := by decide +kernel
theorem d_M_rescale_51 : decode prog_10_method_20_code 51 = .ok (.getfield 19, 3) := by decide +kernel
theorem d_M_rescale_54 : decode prog_10_method_20_code 54 = .ok (.iload_n 1, 1) := by decide +kernel
theorem d_M_rescale_55 : decode prog_10_method_20_code 55 = .ok (.aload_n 0, 1) := by decide +kernel
theorem d_M_rescale_56 : decode prog_10_method_20_code 56 = .ok (.getfield 109, 3) := by decide +kernel
theorem d_M_rescale_59 : decode prog_10_method_20_code 59 = .ok (.ifCond .eq 10, 3) := by decide +kernel
theorem d_M_rescale_62 : decode prog_10_method_20_code 62 = .ok (.dload_n 2, 1) := by decide +kernel
theorem d_M_rescale_63 : decode prog_10_method_20_code 63 = .ok (.invokestatic 205, 3) := by decide +kernel
theorem d_M_rescale_66 : decode prog_10_method_20_code 66 = .ok (.goto 4, 3) := by decide +kernel
theorem d_M_rescale_69 : decode prog_10_method_20_code 69 = .ok (.dconst 1, 1) := by decide +kernel
theorem d_M_rescale_70 : decode prog_10_method_20_code 70 = .ok (.dastore, 1) := by decide +kernel
theorem d_M_rescale_71 : decode prog_10_method_20_code 71 = .ok (.iinc 1 1, 3) := by decide +kernel
theorem d_M_rescale_74 : decode prog_10_method_20_code 74 = .ok (.goto (-72), 3) := by decide +kernel
theorem d_M_rescale_77 : decode prog_10_method_20_code 77 = .ok (.iconst 0, 1) := by decide +kernel
theorem d_M_rescale_78 : decode prog_10_method_20_code 78 = .ok (.istore_n 1, 1) := by decide +kernel
theorem d_M_rescale_79 : decode prog_10_method_20_code 79 = .ok (.iload_n 1, 1) := by decide +kernel
theorem d_M_rescale_80 : decode prog_10_method_20_code 80 = .ok (.aload_n 0, 1) := by decide +kernel
theorem d_M_rescale_81 : decode prog_10_method_20_code 81 = .ok (.getfield 103, 3) := by decide +kernel
theorem d_M_rescale_84 : decode prog_10_method_20_code 84 = .ok (.if_icmp .ge 78, 3) := by decide +kernel
theorem d_M_rescale_87 : decode prog_10_method_20_code 87 = .ok (.dconst 0, 1) := by decide +kernel
theorem d_M_rescale_88 : decode prog_10_method_20_code 88 = .ok (.dstore_n 2, 1) := by decide +kernel
theorem d_M_rescale_89 : decode prog_10_method_20_code 89 = .ok (.iconst 0, 1) := by decide +kernel
theorem d_M_rescale_90 : decode prog_10_method_20_code 90 = .ok (.istore 4, 2) := by decide +kernel
theorem d_M_rescale_92 : decode prog_10_method_20_code 92 = .ok (.iload 4, 2) := by decide +kernel
theorem d_M_rescale_94 : decode prog_10_method_20_code 94 = .ok (.aload_n 0, 1) := by decide +kernel
theorem d_M_rescale_95 : decode prog_10_method_20_code 95 = .ok (.getfield 99, 3) := by decide +kernel
theorem d_M_rescale_98 : decode prog_10_method_20_code 98 = .ok (.if_icmp .ge 37, 3) := by decide +kernel
theorem d_M_rescale_101 : decode prog_10_method_20_code 101 = .ok (.dload_n 2, 1) := by decide +kernel
theorem d_M_rescale_102 : decode prog_10_method_20_code 102 = .ok (.aload_n 0, 1) := by decide +kernel
theorem d_M_rescale_103 : decode prog_10_method_20_code 103 = .ok (.getfield 19, 3) := by decide +kernel
theorem d_M_rescale_106 : decode prog_10_method_20_code 106 = .ok (.iload 4, 2) := by decide +kernel
theorem d_M_rescale_108 : decode prog_10_method_20_code 108 = .ok (.daload, 1) := by decide +kernel
theorem d_M_rescale_109 : decode prog_10_method_20_code 109 = .ok (.aload_n 0, 1) := by decide +kernel
theorem d_M_rescale_110 : decode prog_10_method_20_code 110 = .ok (.getfield 7, 3) := by decide +kernel
theorem d_M_rescale_113 : decode prog_10_method_20_code 113 = .ok (.bipush 8, 2) := by decide +kernel
theorem d_M_rescale_115 : decode prog_10_method_20_code 115 = .ok (.iload 4, 2) := by decide +kernel
theorem d_M_rescale_117 : decode prog_10_method_20_code 117 = .ok (.imul, 1) := by decide +kernel
theorem d_M_rescale_118 : decode prog_10_method_20_code 118 = .ok (.iload_n 1, 1) := by decide +kernel
theorem d_M_rescale_119 : decode prog_10_method_20_code 119 = .ok (.iadd, 1) := by decide +kernel
theorem d_M_rescale_120 : decode prog_10_method_20_code 120 = .ok (.daload, 1) := by decide +kernel
theorem d_M_rescale_121 : decode prog_10_method_20_code 121 = .ok (.dmul, 1) := by decide +kernel
theorem d_M_rescale_122 : decode prog_10_method_20_code 122 = .ok (.invokestatic 197, 3) := by decide +kernel
theorem d_M_rescale_125 : decode prog_10_method_20_code 125 = .ok (.invokestatic 201, 3) := by decide +kernel
theorem d_M_rescale_128 : decode prog_10_method_20_code 128 = .ok (.dstore_n 2, 1) := by decide +kernel
theorem d_M_rescale_129 : decode prog_10_method_20_code 129 = .ok (.iinc 4 1, 3) := by decide +kernel
theorem d_M_rescale_132 : decode prog_10_method_20_code 132 = .ok (.goto (-40), 3) := by decide +kernel
theorem d_M_rescale_135 : decode prog_10_method_20_code 135 = .ok (.aload_n 0, 1) := by decide +kernel
theorem d_M_rescale_136 : decode prog_10_method_20_code 136 = .ok (.getfield 22, 3) := by decide +kernel
theorem d_M_rescale_139 : decode prog_10_method_20_code 139 = .ok (.iload_n 1, 1) := by decide +kernel
theorem d_M_rescale_140 : decode prog_10_method_20_code 140 = .ok (.aload_n 0, 1) := by decide +kernel
theorem d_M_rescale_141 : decode prog_10_method_20_code 141 = .ok (.getfield 109, 3) := by decide +kernel
theorem d_M_rescale_144 : decode prog_10_method_20_code 144 = .ok (.ifCond .eq 10, 3) := by decide +kernel
theorem d_M_rescale_147 : decode prog_10_method_20_code 147 = .ok (.dload_n 2, 1) := by decide +kernel
theorem d_M_rescale_148 : decode prog_10_method_20_code 148 = .ok (.invokestatic 205, 3) := by decide +kernel
theorem d_M_rescale_151 : decode prog_10_method_20_code 151 = .ok (.goto 4, 3) := by decide +kernel
theorem d_M_rescale_154 : decode prog_10_method_20_code 154 = .ok (.dconst 1, 1) := by decide +kernel
theorem d_M_rescale_155 : decode prog_10_method_20_code 155 = .ok (.dastore, 1) := by decide +kernel
theorem d_M_rescale_156 : decode prog_10_method_20_code 156 = .ok (.iinc 1 1, 3) := by decide +kernel
theorem d_M_rescale_159 : decode prog_10_method_20_code 159 = .ok (.goto (-80), 3) := by decide +kernel
theorem d_M_rescale_162 : decode prog_10_method_20_code 162 = .ok (.iconst 0, 1) := by decide +kernel
theorem d_M_rescale_163 : decode prog_10_method_20_code 163 = .ok (.istore_n 1, 1) := by decide +kernel
theorem d_M_rescale_164 : decode prog_10_method_20_code 164 = .ok (.iload_n 1, 1) := by decide +kernel
theorem d_M_rescale_165 : decode prog_10_method_20_code 165 = .ok (.aload_n 0, 1) := by decide +kernel
theorem d_M_rescale_166 : decode prog_10_method_20_code 166 = .ok (.getfield 99, 3) := by decide +kernel
theorem d_M_rescale_169 : decode prog_10_method_20_code 169 = .ok (.if_icmp .ge 80, 3) := by decide +kernel
theorem d_M_rescale_172 : decode prog_10_method_20_code 172 = .ok (.aload_n 0, 1) := by decide +kernel
theorem d_M_rescale_173 : decode prog_10_method_20_code 173 = .ok (.getfield 28, 3) := by decide +kernel
theorem d_M_rescale_176 : decode prog_10_method_20_code 176 = .ok (.iload_n 1, 1) := by decide +kernel
theorem d_M_rescale_177 : decode prog_10_method_20_code 177 = .ok (.aload_n 0, 1) := by decide +kernel
theorem d_M_rescale_178 : decode prog_10_method_20_code 178 = .ok (.getfield 19, 3) := by decide +kernel
theorem d_M_rescale_181 : decode prog_10_method_20_code 181 = .ok (.iload_n 1, 1) := by decide +kernel
theorem d_M_rescale_182 : decode prog_10_method_20_code 182 = .ok (.daload, 1) := by decide +kernel
theorem d_M_rescale_183 : decode prog_10_method_20_code 183 = .ok (.aload_n 0, 1) := by decide +kernel
theorem d_M_rescale_184 : decode prog_10_method_20_code 184 = .ok (.getfield 13, 3) := by decide +kernel
theorem d_M_rescale_187 : decode prog_10_method_20_code 187 = .ok (.iload_n 1, 1) := by decide +kernel
theorem d_M_rescale_188 : decode prog_10_method_20_code 188 = .ok (.daload, 1) := by decide +kernel
theorem d_M_rescale_189 : decode prog_10_method_20_code 189 = .ok (.dmul, 1) := by decide +kernel
theorem d_M_rescale_190 : decode prog_10_method_20_code 190 = .ok (.dastore, 1) := by decide +kernel
theorem d_M_rescale_191 : decode prog_10_method_20_code 191 = .ok (.iconst 0, 1) := by decide +kernel
theorem d_M_rescale_192 : decode prog_10_method_20_code 192 = .ok (.istore_n 2, 1) := by decide +kernel
theorem d_M_rescale_193 : decode prog_10_method_20_code 193 = .ok (.iload_n 2, 1) := by decide +kernel
theorem d_M_rescale_194 : decode prog_10_method_20_code 194 = .ok (.aload_n 0, 1) := by decide +kernel
theorem d_M_rescale_195 : decode prog_10_method_20_code 195 = .ok (.getfield 103, 3) := by decide +kernel
theorem d_M_rescale_198 : decode prog_10_method_20_code 198 = .ok (.if_icmp .ge 45, 3) := by decide +kernel
theorem d_M_rescale_201 : decode prog_10_method_20_code 201 = .ok (.aload_n 0, 1) := by decide +kernel
theorem d_M_rescale_202 : decode prog_10_method_20_code 202 = .ok (.getfield 25, 3) := by decide +kernel
theorem d_M_rescale_205 : decode prog_10_method_20_code 205 = .ok (.bipush 8, 2) := by decide +kernel
theorem d_M_rescale_207 : decode prog_10_method_20_code 207 = .ok (.iload_n 1, 1) := by decide +kernel
theorem d_M_rescale_208 : decode prog_10_method_20_code 208 = .ok (.imul, 1) := by decide +kernel
theorem d_M_rescale_209 : decode prog_10_method_20_code 209 = .ok (.iload_n 2, 1) := by decide +kernel
theorem d_M_rescale_210 : decode prog_10_method_20_code 210 = .ok (.iadd, 1) := by decide +kernel
theorem d_M_rescale_211 : decode prog_10_method_20_code 211 = .ok (.aload_n 0, 1) := by decide +kernel
theorem d_M_rescale_212 : decode prog_10_method_20_code 212 = .ok (.getfield 19, 3) := by decide +kernel
theorem d_M_rescale_215 : decode prog_10_method_20_code 215 = .ok (.iload_n 1, 1) := by decide +kernel
theorem d_M_rescale_216 : decode prog_10_method_20_code 216 = .ok (.daload, 1) := by decide +kernel
theorem d_M_rescale_217 : decode prog_10_method_20_code 217 = .ok (.aload_n 0, 1) := by decide +kernel
theorem d_M_rescale_218 : decode prog_10_method_20_code 218 = .ok (.getfield 7, 3) := by decide +kernel
theorem d_M_rescale_221 : decode prog_10_method_20_code 221 = .ok (.bipush 8, 2) := by decide +kernel
theorem d_M_rescale_223 : decode prog_10_method_20_code 223 = .ok (.iload_n 1, 1) := by decide +kernel
theorem d_M_rescale_224 : decode prog_10_method_20_code 224 = .ok (.imul, 1) := by decide +kernel
theorem d_M_rescale_225 : decode prog_10_method_20_code 225 = .ok (.iload_n 2, 1) := by decide +kernel
theorem d_M_rescale_226 : decode prog_10_method_20_code 226 = .ok (.iadd, 1) := by decide +kernel
theorem d_M_rescale_227 : decode prog_10_method_20_code 227 = .ok (.daload, 1) := by decide +kernel
theorem d_M_rescale_228 : decode prog_10_method_20_code 228 = .ok (.dmul, 1) := by decide +kernel
theorem d_M_rescale_229 : decode prog_10_method_20_code 229 = .ok (.aload_n 0, 1) := by decide +kernel
theorem d_M_rescale_230 : decode prog_10_method_20_code 230 = .ok (.getfield 22, 3) := by decide +kernel
theorem d_M_rescale_233 : decode prog_10_method_20_code 233 = .ok (.iload_n 2, 1) := by decide +kernel
theorem d_M_rescale_234 : decode prog_10_method_20_code 234 = .ok (.daload, 1) := by decide +kernel
theorem d_M_rescale_235 : decode prog_10_method_20_code 235 = .ok (.dmul, 1) := by decide +kernel
theorem d_M_rescale_236 : decode prog_10_method_20_code 236 = .ok (.dastore, 1) := by decide +kernel
theorem d_M_rescale_237 : decode prog_10_method_20_code 237 = .ok (.iinc 2 1, 3) := by decide +kernel
theorem d_M_rescale_240 : decode prog_10_method_20_code 240 = .ok (.goto (-47), 3) := by decide +kernel
theorem d_M_rescale_243 : decode prog_10_method_20_code 243 = .ok (.iinc 1 1, 3) := by decide +kernel
theorem d_M_rescale_246 : decode prog_10_method_20_code 246 = .ok (.goto (-82), 3) := by decide +kernel
theorem d_M_rescale_249 : decode prog_10_method_20_code 249 = .ok (.iconst 0, 1) := by decide +kernel
theorem d_M_rescale_250 : decode prog_10_method_20_code 250 = .ok (.istore_n 1, 1) := by decide +kernel
theorem d_M_rescale_251 : decode prog_10_method_20_code 251 = .ok (.iload_n 1, 1) := by decide +kernel
theorem d_M_rescale_252 : decode prog_10_method_20_code 252 = .ok (.aload_n 0, 1) := by decide +kernel
theorem d_M_rescale_253 : decode prog_10_method_20_code 253 = .ok (.getfield 103, 3) := by decide +kernel
theorem d_M_rescale_256 : decode prog_10_method_20_code 256 = .ok (.if_icmp .ge 28, 3) := by decide +kernel
theorem d_M_rescale_259 : decode prog_10_method_20_code 259 = .ok (.aload_n 0, 1) := by decide +kernel
theorem d_M_rescale_260 : decode prog_10_method_20_code 260 = .ok (.getfield 31, 3) := by decide +kernel
theorem d_M_rescale_263 : decode prog_10_method_20_code 263 = .ok (.iload_n 1, 1) := by decide +kernel
theorem d_M_rescale_264 : decode prog_10_method_20_code 264 = .ok (.aload_n 0, 1) := by decide +kernel
theorem d_M_rescale_265 : decode prog_10_method_20_code 265 = .ok (.getfield 16, 3) := by decide +kernel
theorem d_M_rescale_268 : decode prog_10_method_20_code 268 = .ok (.iload_n 1, 1) := by decide +kernel
theorem d_M_rescale_269 : decode prog_10_method_20_code 269 = .ok (.daload, 1) := by decide +kernel
theorem d_M_rescale_270 : decode prog_10_method_20_code 270 = .ok (.aload_n 0, 1) := by decide +kernel
theorem d_M_rescale_271 : decode prog_10_method_20_code 271 = .ok (.getfield 22, 3) := by decide +kernel
theorem d_M_rescale_274 : decode prog_10_method_20_code 274 = .ok (.iload_n 1, 1) := by decide +kernel
theorem d_M_rescale_275 : decode prog_10_method_20_code 275 = .ok (.daload, 1) := by decide +kernel
theorem d_M_rescale_276 : decode prog_10_method_20_code 276 = .ok (.dmul, 1) := by decide +kernel
theorem d_M_rescale_277 : decode prog_10_method_20_code 277 = .ok (.dastore, 1) := by decide +kernel
theorem d_M_rescale_278 : decode prog_10_method_20_code 278 = .ok (.iinc 1 1, 3) := by decide +kernel
theorem d_M_rescale_281 : decode prog_10_method_20_code 281 = .ok (.goto (-30), 3) := by decide +kernel
theorem d_M_rescale_284 : decode prog_10_method_20_code 284 = .ok (.return_, 1) := by decide +kernel
abbrev w_M_rescale (T : Nat → ClassId) (q0 : Nat) (q0_a : Nat) (q0_b : Nat) (q0_c : Nat) (q0_rowScale : Nat) (q0_columnScale : Nat) (q0_sa : Nat) (q0_sb : Nat) (q0_sc : Nat) (q0_x : Nat) (q0_s : Nat) (q0_y : Nat) (q0_p : Nat) (q0_d : Nat) (q0_h : Nat) (q0_f : Nat) (q0_mm : Nat) (q0_low : Nat) (q0_dd : Nat) (q0_r : Nat) (q0_big : Nat) (q0_dt : Nat) (q0_dx : Nat) (q0_t : Nat) (q0_cost : Nat) (q0_rowScaleNow : Nat) (q0_columnScaleNow : Nat) (q0_basic : Nat) (q0_text : Nat) (q0_turned : Nat) (q0_na : Nat) (q0_nb : Nat) (q0_nc : Nat) (vq0_m : Int32) (vq0_n : Int32) (vq0_length : Int32) (vq0_where : Int32) (vq0_effort : Int32) (vq0_thrown : Int32) (vq0_at : Int32) (vq0_scaled : Int32) (vq0_solved : Int32) (vq0_second : Int32) (vq0_nm : Int32) (vq0_nn : Int32) (vq0_number : UInt64) (vq0_bad : Int32) (vq0_a : Nat → UInt64) (vq0_b : Nat → UInt64) (vq0_c : Nat → UInt64) (vq0_rowScale : Nat → UInt64) (vq0_columnScale : Nat → UInt64) (vq0_sa : Nat → UInt64) (vq0_sb : Nat → UInt64) (vq0_sc : Nat → UInt64) : va_W := [(q0, .inr (8, [.ref q0_a, .ref q0_b, .ref q0_c, .ref q0_rowScale, .ref q0_columnScale, .ref q0_sa, .ref q0_sb, .ref q0_sc, .ref q0_x, .ref q0_s, .ref q0_y, .ref q0_p, .ref q0_d, .ref q0_h, .ref q0_f, .ref q0_mm, .ref q0_low, .ref q0_dd, .ref q0_r, .ref q0_big, .ref q0_dt, .ref q0_dx, .ref q0_t, .ref q0_cost, .ref q0_rowScaleNow, .ref q0_columnScaleNow, .ref q0_basic, .ref q0_text, .ref q0_turned, .int vq0_m, .int vq0_n, .int vq0_length, .int vq0_where, .int vq0_effort, .int vq0_thrown, .int vq0_at, .int vq0_scaled, .int vq0_solved, .int vq0_second, .ref q0_na, .ref q0_nb, .ref q0_nc, .int vq0_nm, .int vq0_nn, .double vq0_number, .int vq0_bad])), (q0_a, .inl (T 0, 40, .inr (.inr (.inr (.inl vq0_a))))), (q0_b, .inl (T 0, 5, .inr (.inr (.inr (.inl vq0_b))))), (q0_c, .inl (T 0, 8, .inr (.inr (.inr (.inl vq0_c))))), (q0_rowScale, .inl (T 0, 5, .inr (.inr (.inr (.inl vq0_rowScale))))), (q0_columnScale, .inl (T 0, 8, .inr (.inr (.inr (.inl vq0_columnScale))))), (q0_sa, .inl (T 0, 40, .inr (.inr (.inr (.inl vq0_sa))))), (q0_sb, .inl (T 0, 5, .inr (.inr (.inr (.inl vq0_sb))))), (q0_sc, .inl (T 0, 8, .inr (.inr (.inr (.inl vq0_sc)))))]
def s_M_rescale_B251 (vq0_m : Int32) (vq0_n : Int32) (vq0_length : Int32) (vq0_where : Int32) (vq0_effort : Int32) (vq0_thrown : Int32) (vq0_at : Int32) (vq0_scaled : Int32) (vq0_solved : Int32) (vq0_second : Int32) (vq0_nm : Int32) (vq0_nn : Int32) (vq0_number : UInt64) (vq0_bad : Int32) (vq0_a : Nat → UInt64) (vq0_b : Nat → UInt64) (vq0_c : Nat → UInt64) (vq0_rowScale : Nat → UInt64) (vq0_columnScale : Nat → UInt64) (vq0_sa : Nat → UInt64) (vq0_sb : Nat → UInt64) (vq0_sc : Nat → UInt64) (x1 : Int32) : Option (((Nat → UInt64) × Int32) ⊕ ((Nat → UInt64))) :=
  if vq0_n ≤ x1 then (some (.inr vq0_sc)) else (gd (inb x1 8) <| gd (inb x1 8) <| gd (isn (FP.dmul (vq0_c x1.toNatClampNeg) (vq0_columnScale x1.toNatClampNeg))) <| gd (inb x1 8) <| some (.inl (vf_upd vq0_sc x1.toNatClampNeg (FP.dmul (vq0_c x1.toNatClampNeg) (vq0_columnScale x1.toNatClampNeg)), x1 + 1)))
def s_M_rescale_L251 (vq0_m : Int32) (vq0_n : Int32) (vq0_length : Int32) (vq0_where : Int32) (vq0_effort : Int32) (vq0_thrown : Int32) (vq0_at : Int32) (vq0_scaled : Int32) (vq0_solved : Int32) (vq0_second : Int32) (vq0_nm : Int32) (vq0_nn : Int32) (vq0_number : UInt64) (vq0_bad : Int32) (vq0_a : Nat → UInt64) (vq0_b : Nat → UInt64) (vq0_c : Nat → UInt64) (vq0_rowScale : Nat → UInt64) (vq0_columnScale : Nat → UInt64) (vq0_sa : Nat → UInt64) (vq0_sb : Nat → UInt64) (vq0_sc : Nat → UInt64) (x1 : Int32) : Option ((Nat → UInt64) × (Nat → UInt64) × (Nat → UInt64) × (Nat → UInt64) × (Nat → UInt64)) :=
  (loopO (fun (st : (Nat → UInt64) × Int32) => s_M_rescale_B251 vq0_m vq0_n vq0_length vq0_where vq0_effort vq0_thrown vq0_at vq0_scaled vq0_solved vq0_second vq0_nm vq0_nn vq0_number vq0_bad vq0_a vq0_b vq0_c vq0_rowScale vq0_columnScale vq0_sa vq0_sb st.1 st.2) 2000 (vq0_sc, x1)).bind fun u251 => some (vq0_rowScale, vq0_columnScale, vq0_sa, vq0_sb, u251)
def s_M_rescale_B193 (vq0_m : Int32) (vq0_n : Int32) (vq0_length : Int32) (vq0_where : Int32) (vq0_effort : Int32) (vq0_thrown : Int32) (vq0_at : Int32) (vq0_scaled : Int32) (vq0_solved : Int32) (vq0_second : Int32) (vq0_nm : Int32) (vq0_nn : Int32) (vq0_number : UInt64) (vq0_bad : Int32) (vq0_a : Nat → UInt64) (vq0_b : Nat → UInt64) (vq0_c : Nat → UInt64) (vq0_rowScale : Nat → UInt64) (vq0_columnScale : Nat → UInt64) (vq0_sb : Nat → UInt64) (vq0_sc : Nat → UInt64) (x1 : Int32) (vq0_sa : Nat → UInt64) (x2 : Int32) : Option (((Nat → UInt64) × Int32) ⊕ ((Nat → UInt64))) :=
  if vq0_n ≤ x2 then (some (.inr vq0_sa)) else (gd (inb x1 5) <| gd (inb ((8 * x1) + x2) 40) <| gd (isn (FP.dmul (vq0_rowScale x1.toNatClampNeg) (vq0_a ((8 * x1) + x2).toNatClampNeg))) <| gd (inb x2 8) <| gd (isn (FP.dmul (FP.dmul (vq0_rowScale x1.toNatClampNeg) (vq0_a ((8 * x1) + x2).toNatClampNeg)) (vq0_columnScale x2.toNatClampNeg))) <| gd (inb ((8 * x1) + x2) 40) <| some (.inl (vf_upd vq0_sa ((8 * x1) + x2).toNatClampNeg (FP.dmul (FP.dmul (vq0_rowScale x1.toNatClampNeg) (vq0_a ((8 * x1) + x2).toNatClampNeg)) (vq0_columnScale x2.toNatClampNeg)), x2 + 1)))
def s_M_rescale_L193 (vq0_m : Int32) (vq0_n : Int32) (vq0_length : Int32) (vq0_where : Int32) (vq0_effort : Int32) (vq0_thrown : Int32) (vq0_at : Int32) (vq0_scaled : Int32) (vq0_solved : Int32) (vq0_second : Int32) (vq0_nm : Int32) (vq0_nn : Int32) (vq0_number : UInt64) (vq0_bad : Int32) (vq0_a : Nat → UInt64) (vq0_b : Nat → UInt64) (vq0_c : Nat → UInt64) (vq0_rowScale : Nat → UInt64) (vq0_columnScale : Nat → UInt64) (vq0_sa : Nat → UInt64) (vq0_sb : Nat → UInt64) (vq0_sc : Nat → UInt64) (x1 : Int32) (x2 : Int32) : Option (((Nat → UInt64) × (Nat → UInt64) × Int32) ⊕ ((Nat → UInt64) × (Nat → UInt64))) :=
  (loopO (fun (st : (Nat → UInt64) × Int32) => s_M_rescale_B193 vq0_m vq0_n vq0_length vq0_where vq0_effort vq0_thrown vq0_at vq0_scaled vq0_solved vq0_second vq0_nm vq0_nn vq0_number vq0_bad vq0_a vq0_b vq0_c vq0_rowScale vq0_columnScale vq0_sb vq0_sc x1 st.1 st.2) 2000 (vq0_sa, x2)).bind fun u193 => some (.inl (u193, vq0_sb, x1 + 1))
def s_M_rescale_B164 (vq0_m : Int32) (vq0_n : Int32) (vq0_length : Int32) (vq0_where : Int32) (vq0_effort : Int32) (vq0_thrown : Int32) (vq0_at : Int32) (vq0_scaled : Int32) (vq0_solved : Int32) (vq0_second : Int32) (vq0_nm : Int32) (vq0_nn : Int32) (vq0_number : UInt64) (vq0_bad : Int32) (vq0_a : Nat → UInt64) (vq0_b : Nat → UInt64) (vq0_c : Nat → UInt64) (vq0_rowScale : Nat → UInt64) (vq0_columnScale : Nat → UInt64) (vq0_sc : Nat → UInt64) (vq0_sa : Nat → UInt64) (vq0_sb : Nat → UInt64) (x1 : Int32) : Option (((Nat → UInt64) × (Nat → UInt64) × Int32) ⊕ ((Nat → UInt64) × (Nat → UInt64))) :=
  if vq0_m ≤ x1 then (some (.inr (vq0_sa, vq0_sb))) else (gd (inb x1 5) <| gd (inb x1 5) <| gd (isn (FP.dmul (vq0_rowScale x1.toNatClampNeg) (vq0_b x1.toNatClampNeg))) <| gd (inb x1 5) <| s_M_rescale_L193 vq0_m vq0_n vq0_length vq0_where vq0_effort vq0_thrown vq0_at vq0_scaled vq0_solved vq0_second vq0_nm vq0_nn vq0_number vq0_bad vq0_a vq0_b vq0_c vq0_rowScale vq0_columnScale vq0_sa (vf_upd vq0_sb x1.toNatClampNeg (FP.dmul (vq0_rowScale x1.toNatClampNeg) (vq0_b x1.toNatClampNeg))) vq0_sc x1 0)
def s_M_rescale_L164 (vq0_m : Int32) (vq0_n : Int32) (vq0_length : Int32) (vq0_where : Int32) (vq0_effort : Int32) (vq0_thrown : Int32) (vq0_at : Int32) (vq0_scaled : Int32) (vq0_solved : Int32) (vq0_second : Int32) (vq0_nm : Int32) (vq0_nn : Int32) (vq0_number : UInt64) (vq0_bad : Int32) (vq0_a : Nat → UInt64) (vq0_b : Nat → UInt64) (vq0_c : Nat → UInt64) (vq0_rowScale : Nat → UInt64) (vq0_columnScale : Nat → UInt64) (vq0_sa : Nat → UInt64) (vq0_sb : Nat → UInt64) (vq0_sc : Nat → UInt64) (x1 : Int32) : Option ((Nat → UInt64) × (Nat → UInt64) × (Nat → UInt64) × (Nat → UInt64) × (Nat → UInt64)) :=
  (loopO (fun (st : (Nat → UInt64) × (Nat → UInt64) × Int32) => s_M_rescale_B164 vq0_m vq0_n vq0_length vq0_where vq0_effort vq0_thrown vq0_at vq0_scaled vq0_solved vq0_second vq0_nm vq0_nn vq0_number vq0_bad vq0_a vq0_b vq0_c vq0_rowScale vq0_columnScale vq0_sc st.1 st.2.1 st.2.2) 2000 (vq0_sa, vq0_sb, x1)).bind fun u164 => s_M_rescale_L251 vq0_m vq0_n vq0_length vq0_where vq0_effort vq0_thrown vq0_at vq0_scaled vq0_solved vq0_second vq0_nm vq0_nn vq0_number vq0_bad vq0_a vq0_b vq0_c vq0_rowScale vq0_columnScale u164.1 u164.2 vq0_sc 0
def s_M_rescale_B92 (vq0_m : Int32) (vq0_n : Int32) (vq0_length : Int32) (vq0_where : Int32) (vq0_effort : Int32) (vq0_thrown : Int32) (vq0_at : Int32) (vq0_scaled : Int32) (vq0_solved : Int32) (vq0_second : Int32) (vq0_nm : Int32) (vq0_nn : Int32) (vq0_number : UInt64) (vq0_bad : Int32) (vq0_a : Nat → UInt64) (vq0_b : Nat → UInt64) (vq0_c : Nat → UInt64) (vq0_rowScale : Nat → UInt64) (vq0_columnScale : Nat → UInt64) (vq0_sa : Nat → UInt64) (vq0_sb : Nat → UInt64) (vq0_sc : Nat → UInt64) (x1 : Int32) (x2 : UInt64) (x4 : Int32) : Option ((UInt64 × Int32) ⊕ (UInt64)) :=
  if vq0_m ≤ x4 then (some (.inr x2)) else (gd (inb x4 5) <| gd (inb ((8 * x4) + x1) 40) <| gd (isn (FP.dmul (vq0_rowScale x4.toNatClampNeg) (vq0_a ((8 * x4) + x1).toNatClampNeg))) <| (s_M_abs (FP.dmul (vq0_rowScale x4.toNatClampNeg) (vq0_a ((8 * x4) + x1).toNatClampNeg))).bind fun u22 => (s_M_max x2 u22).bind fun u23 => some (.inl (u23, x4 + 1)))
def s_M_rescale_L92 (vq0_m : Int32) (vq0_n : Int32) (vq0_length : Int32) (vq0_where : Int32) (vq0_effort : Int32) (vq0_thrown : Int32) (vq0_at : Int32) (vq0_scaled : Int32) (vq0_solved : Int32) (vq0_second : Int32) (vq0_nm : Int32) (vq0_nn : Int32) (vq0_number : UInt64) (vq0_bad : Int32) (vq0_a : Nat → UInt64) (vq0_b : Nat → UInt64) (vq0_c : Nat → UInt64) (vq0_rowScale : Nat → UInt64) (vq0_columnScale : Nat → UInt64) (vq0_sa : Nat → UInt64) (vq0_sb : Nat → UInt64) (vq0_sc : Nat → UInt64) (x1 : Int32) (x2 : UInt64) (x4 : Int32) : Option (((Nat → UInt64) × Int32) ⊕ ((Nat → UInt64))) :=
  (loopO (fun (st : UInt64 × Int32) => s_M_rescale_B92 vq0_m vq0_n vq0_length vq0_where vq0_effort vq0_thrown vq0_at vq0_scaled vq0_solved vq0_second vq0_nm vq0_nn vq0_number vq0_bad vq0_a vq0_b vq0_c vq0_rowScale vq0_columnScale vq0_sa vq0_sb vq0_sc x1 st.1 st.2) 2000 (x2, x4)).bind fun u92 => if vq0_scaled = 0 then (gd (inb x1 8) <| some (.inl (vf_upd vq0_columnScale x1.toNatClampNeg FP.dconst1, x1 + 1))) else ((s_M_power u92).bind fun u26 => gd (inb x1 8) <| some (.inl (vf_upd vq0_columnScale x1.toNatClampNeg u26, x1 + 1)))
def s_M_rescale_B79 (vq0_m : Int32) (vq0_n : Int32) (vq0_length : Int32) (vq0_where : Int32) (vq0_effort : Int32) (vq0_thrown : Int32) (vq0_at : Int32) (vq0_scaled : Int32) (vq0_solved : Int32) (vq0_second : Int32) (vq0_nm : Int32) (vq0_nn : Int32) (vq0_number : UInt64) (vq0_bad : Int32) (vq0_a : Nat → UInt64) (vq0_b : Nat → UInt64) (vq0_c : Nat → UInt64) (vq0_rowScale : Nat → UInt64) (vq0_sa : Nat → UInt64) (vq0_sb : Nat → UInt64) (vq0_sc : Nat → UInt64) (vq0_columnScale : Nat → UInt64) (x1 : Int32) : Option (((Nat → UInt64) × Int32) ⊕ ((Nat → UInt64))) :=
  if vq0_n ≤ x1 then (some (.inr vq0_columnScale)) else (s_M_rescale_L92 vq0_m vq0_n vq0_length vq0_where vq0_effort vq0_thrown vq0_at vq0_scaled vq0_solved vq0_second vq0_nm vq0_nn vq0_number vq0_bad vq0_a vq0_b vq0_c vq0_rowScale vq0_columnScale vq0_sa vq0_sb vq0_sc x1 FP.dconst0 0)
def s_M_rescale_L79 (vq0_m : Int32) (vq0_n : Int32) (vq0_length : Int32) (vq0_where : Int32) (vq0_effort : Int32) (vq0_thrown : Int32) (vq0_at : Int32) (vq0_scaled : Int32) (vq0_solved : Int32) (vq0_second : Int32) (vq0_nm : Int32) (vq0_nn : Int32) (vq0_number : UInt64) (vq0_bad : Int32) (vq0_a : Nat → UInt64) (vq0_b : Nat → UInt64) (vq0_c : Nat → UInt64) (vq0_rowScale : Nat → UInt64) (vq0_columnScale : Nat → UInt64) (vq0_sa : Nat → UInt64) (vq0_sb : Nat → UInt64) (vq0_sc : Nat → UInt64) (x1 : Int32) : Option ((Nat → UInt64) × (Nat → UInt64) × (Nat → UInt64) × (Nat → UInt64) × (Nat → UInt64)) :=
  (loopO (fun (st : (Nat → UInt64) × Int32) => s_M_rescale_B79 vq0_m vq0_n vq0_length vq0_where vq0_effort vq0_thrown vq0_at vq0_scaled vq0_solved vq0_second vq0_nm vq0_nn vq0_number vq0_bad vq0_a vq0_b vq0_c vq0_rowScale vq0_sa vq0_sb vq0_sc st.1 st.2) 2000 (vq0_columnScale, x1)).bind fun u79 => s_M_rescale_L164 vq0_m vq0_n vq0_length vq0_where vq0_effort vq0_thrown vq0_at vq0_scaled vq0_solved vq0_second vq0_nm vq0_nn vq0_number vq0_bad vq0_a vq0_b vq0_c vq0_rowScale u79 vq0_sa vq0_sb vq0_sc 0
def s_M_rescale_B15 (vq0_m : Int32) (vq0_n : Int32) (vq0_length : Int32) (vq0_where : Int32) (vq0_effort : Int32) (vq0_thrown : Int32) (vq0_at : Int32) (vq0_scaled : Int32) (vq0_solved : Int32) (vq0_second : Int32) (vq0_nm : Int32) (vq0_nn : Int32) (vq0_number : UInt64) (vq0_bad : Int32) (vq0_a : Nat → UInt64) (vq0_b : Nat → UInt64) (vq0_c : Nat → UInt64) (vq0_rowScale : Nat → UInt64) (vq0_columnScale : Nat → UInt64) (vq0_sa : Nat → UInt64) (vq0_sb : Nat → UInt64) (vq0_sc : Nat → UInt64) (x1 : Int32) (x2 : UInt64) (x4 : Int32) : Option ((UInt64 × Int32) ⊕ (UInt64)) :=
  if vq0_n ≤ x4 then (some (.inr x2)) else (gd (inb ((8 * x1) + x4) 40) <| (s_M_abs (vq0_a ((8 * x1) + x4).toNatClampNeg)).bind fun u31 => (s_M_max x2 u31).bind fun u32 => some (.inl (u32, x4 + 1)))
def s_M_rescale_L15 (vq0_m : Int32) (vq0_n : Int32) (vq0_length : Int32) (vq0_where : Int32) (vq0_effort : Int32) (vq0_thrown : Int32) (vq0_at : Int32) (vq0_scaled : Int32) (vq0_solved : Int32) (vq0_second : Int32) (vq0_nm : Int32) (vq0_nn : Int32) (vq0_number : UInt64) (vq0_bad : Int32) (vq0_a : Nat → UInt64) (vq0_b : Nat → UInt64) (vq0_c : Nat → UInt64) (vq0_rowScale : Nat → UInt64) (vq0_columnScale : Nat → UInt64) (vq0_sa : Nat → UInt64) (vq0_sb : Nat → UInt64) (vq0_sc : Nat → UInt64) (x1 : Int32) (x2 : UInt64) (x4 : Int32) : Option (((Nat → UInt64) × Int32) ⊕ ((Nat → UInt64))) :=
  (loopO (fun (st : UInt64 × Int32) => s_M_rescale_B15 vq0_m vq0_n vq0_length vq0_where vq0_effort vq0_thrown vq0_at vq0_scaled vq0_solved vq0_second vq0_nm vq0_nn vq0_number vq0_bad vq0_a vq0_b vq0_c vq0_rowScale vq0_columnScale vq0_sa vq0_sb vq0_sc x1 st.1 st.2) 2000 (x2, x4)).bind fun u15 => if vq0_scaled = 0 then (gd (inb x1 5) <| some (.inl (vf_upd vq0_rowScale x1.toNatClampNeg FP.dconst1, x1 + 1))) else ((s_M_power u15).bind fun u35 => gd (inb x1 5) <| some (.inl (vf_upd vq0_rowScale x1.toNatClampNeg u35, x1 + 1)))
def s_M_rescale_B2 (vq0_m : Int32) (vq0_n : Int32) (vq0_length : Int32) (vq0_where : Int32) (vq0_effort : Int32) (vq0_thrown : Int32) (vq0_at : Int32) (vq0_scaled : Int32) (vq0_solved : Int32) (vq0_second : Int32) (vq0_nm : Int32) (vq0_nn : Int32) (vq0_number : UInt64) (vq0_bad : Int32) (vq0_a : Nat → UInt64) (vq0_b : Nat → UInt64) (vq0_c : Nat → UInt64) (vq0_columnScale : Nat → UInt64) (vq0_sa : Nat → UInt64) (vq0_sb : Nat → UInt64) (vq0_sc : Nat → UInt64) (vq0_rowScale : Nat → UInt64) (x1 : Int32) : Option (((Nat → UInt64) × Int32) ⊕ ((Nat → UInt64))) :=
  if vq0_m ≤ x1 then (some (.inr vq0_rowScale)) else (s_M_rescale_L15 vq0_m vq0_n vq0_length vq0_where vq0_effort vq0_thrown vq0_at vq0_scaled vq0_solved vq0_second vq0_nm vq0_nn vq0_number vq0_bad vq0_a vq0_b vq0_c vq0_rowScale vq0_columnScale vq0_sa vq0_sb vq0_sc x1 FP.dconst0 0)
def s_M_rescale_L2 (vq0_m : Int32) (vq0_n : Int32) (vq0_length : Int32) (vq0_where : Int32) (vq0_effort : Int32) (vq0_thrown : Int32) (vq0_at : Int32) (vq0_scaled : Int32) (vq0_solved : Int32) (vq0_second : Int32) (vq0_nm : Int32) (vq0_nn : Int32) (vq0_number : UInt64) (vq0_bad : Int32) (vq0_a : Nat → UInt64) (vq0_b : Nat → UInt64) (vq0_c : Nat → UInt64) (vq0_rowScale : Nat → UInt64) (vq0_columnScale : Nat → UInt64) (vq0_sa : Nat → UInt64) (vq0_sb : Nat → UInt64) (vq0_sc : Nat → UInt64) (x1 : Int32) : Option ((Nat → UInt64) × (Nat → UInt64) × (Nat → UInt64) × (Nat → UInt64) × (Nat → UInt64)) :=
  (loopO (fun (st : (Nat → UInt64) × Int32) => s_M_rescale_B2 vq0_m vq0_n vq0_length vq0_where vq0_effort vq0_thrown vq0_at vq0_scaled vq0_solved vq0_second vq0_nm vq0_nn vq0_number vq0_bad vq0_a vq0_b vq0_c vq0_columnScale vq0_sa vq0_sb vq0_sc st.1 st.2) 2000 (vq0_rowScale, x1)).bind fun u2 => s_M_rescale_L79 vq0_m vq0_n vq0_length vq0_where vq0_effort vq0_thrown vq0_at vq0_scaled vq0_solved vq0_second vq0_nm vq0_nn vq0_number vq0_bad vq0_a vq0_b vq0_c u2 vq0_columnScale vq0_sa vq0_sb vq0_sc 0
def s_M_rescale (vq0_m : Int32) (vq0_n : Int32) (vq0_length : Int32) (vq0_where : Int32) (vq0_effort : Int32) (vq0_thrown : Int32) (vq0_at : Int32) (vq0_scaled : Int32) (vq0_solved : Int32) (vq0_second : Int32) (vq0_nm : Int32) (vq0_nn : Int32) (vq0_number : UInt64) (vq0_bad : Int32) (vq0_a : Nat → UInt64) (vq0_b : Nat → UInt64) (vq0_c : Nat → UInt64) (vq0_rowScale : Nat → UInt64) (vq0_columnScale : Nat → UInt64) (vq0_sa : Nat → UInt64) (vq0_sb : Nat → UInt64) (vq0_sc : Nat → UInt64) : Option ((Nat → UInt64) × (Nat → UInt64) × (Nat → UInt64) × (Nat → UInt64) × (Nat → UInt64)) :=
  s_M_rescale_L2 vq0_m vq0_n vq0_length vq0_where vq0_effort vq0_thrown vq0_at vq0_scaled vq0_solved vq0_second vq0_nm vq0_nn vq0_number vq0_bad vq0_a vq0_b vq0_c vq0_rowScale vq0_columnScale vq0_sa vq0_sb vq0_sc 0
set_option maxHeartbeats 4000000 in
set_option maxRecDepth 100000 in
theorem c_M_rescale (l : Launch) (D : va_G) (T : Nat → ClassId) (q0 : Nat) (q0_a : Nat) (q0_b : Nat) (q0_c : Nat) (q0_rowScale : Nat) (q0_columnScale : Nat) (q0_sa : Nat) (q0_sb : Nat) (q0_sc : Nat) (q0_x : Nat) (q0_s : Nat) (q0_y : Nat) (q0_p : Nat) (q0_d : Nat) (q0_h : Nat) (q0_f : Nat) (q0_mm : Nat) (q0_low : Nat) (q0_dd : Nat) (q0_r : Nat) (q0_big : Nat) (q0_dt : Nat) (q0_dx : Nat) (q0_t : Nat) (q0_cost : Nat) (q0_rowScaleNow : Nat) (q0_columnScaleNow : Nat) (q0_basic : Nat) (q0_text : Nat) (q0_turned : Nat) (q0_na : Nat) (q0_nb : Nat) (q0_nc : Nat) (vq0_m : Int32) (vq0_n : Int32) (vq0_length : Int32) (vq0_where : Int32) (vq0_effort : Int32) (vq0_thrown : Int32) (vq0_at : Int32) (vq0_scaled : Int32) (vq0_solved : Int32) (vq0_second : Int32) (vq0_nm : Int32) (vq0_nn : Int32) (vq0_number : UInt64) (vq0_bad : Int32) (vq0_a : Nat → UInt64) (vq0_b : Nat → UInt64) (vq0_c : Nat → UInt64) (vq0_rowScale : Nat → UInt64) (vq0_columnScale : Nat → UInt64) (vq0_sa : Nat → UInt64) (vq0_sb : Nat → UInt64) (vq0_sc : Nat → UInt64) (rm : (Nat → UInt64) × (Nat → UInt64) × (Nat → UInt64) × (Nat → UInt64) × (Nat → UInt64)) (h : s_M_rescale vq0_m vq0_n vq0_length vq0_where vq0_effort vq0_thrown vq0_at vq0_scaled vq0_solved vq0_second vq0_nm vq0_nn vq0_number vq0_bad vq0_a vq0_b vq0_c vq0_rowScale vq0_columnScale vq0_sa vq0_sb vq0_sc = some rm) : CtV l y_M_rescale (Cond.code y_M_rescale prog_10_method_20_code 5 none :: BIG) 1 25 D T [.ref q0] (w_M_rescale T q0 q0_a q0_b q0_c q0_rowScale q0_columnScale q0_sa q0_sb q0_sc q0_x q0_s q0_y q0_p q0_d q0_h q0_f q0_mm q0_low q0_dd q0_r q0_big q0_dt q0_dx q0_t q0_cost q0_rowScaleNow q0_columnScaleNow q0_basic q0_text q0_turned q0_na q0_nb q0_nc vq0_m vq0_n vq0_length vq0_where vq0_effort vq0_thrown vq0_at vq0_scaled vq0_solved vq0_second vq0_nm vq0_nn vq0_number vq0_bad vq0_a vq0_b vq0_c vq0_rowScale vq0_columnScale vq0_sa vq0_sb vq0_sc) (fun r => (w_M_rescale T q0 q0_a q0_b q0_c q0_rowScale q0_columnScale q0_sa q0_sb q0_sc q0_x q0_s q0_y q0_p q0_d q0_h q0_f q0_mm q0_low q0_dd q0_r q0_big q0_dt q0_dx q0_t q0_cost q0_rowScaleNow q0_columnScaleNow q0_basic q0_text q0_turned q0_na q0_nb q0_nc vq0_m vq0_n vq0_length vq0_where vq0_effort vq0_thrown vq0_at vq0_scaled vq0_solved vq0_second vq0_nm vq0_nn vq0_number vq0_bad vq0_a vq0_b vq0_c r.1 r.2.1 r.2.2.1 r.2.2.2.1 r.2.2.2.2)) rm := by
  refine cf_entry (y := y_M_rescale) (cc := prog_10_method_20_code) (nL := 5) (ret := none) (fr := 1) (lo := 25) (T := T) (av := [.ref q0]) (w := (w_M_rescale T q0 q0_a q0_b q0_c q0_rowScale q0_columnScale q0_sa q0_sb q0_sc q0_x q0_s q0_y q0_p q0_d q0_h q0_f q0_mm q0_low q0_dd q0_r q0_big q0_dt q0_dx q0_t q0_cost q0_rowScaleNow q0_columnScaleNow q0_basic q0_text q0_turned q0_na q0_nb q0_nc vq0_m vq0_n vq0_length vq0_where vq0_effort vq0_thrown vq0_at vq0_scaled vq0_solved vq0_second vq0_nm vq0_nn vq0_number vq0_bad vq0_a vq0_b vq0_c vq0_rowScale vq0_columnScale vq0_sa vq0_sb vq0_sc)) (Qc := cfQv D (fun r => (w_M_rescale T q0 q0_a q0_b q0_c q0_rowScale q0_columnScale q0_sa q0_sb q0_sc q0_x q0_s q0_y q0_p q0_d q0_h q0_f q0_mm q0_low q0_dd q0_r q0_big q0_dt q0_dx q0_t q0_cost q0_rowScaleNow q0_columnScaleNow q0_basic q0_text q0_turned q0_na q0_nb q0_nc vq0_m vq0_n vq0_length vq0_where vq0_effort vq0_thrown vq0_at vq0_scaled vq0_solved vq0_second vq0_nm vq0_nn vq0_number vq0_bad vq0_a vq0_b vq0_c r.1 r.2.1 r.2.2.1 r.2.2.2.1 r.2.2.2.2)) rm) (by decide) rfl (Nat.le_of_ble_eq_true rfl) ?_
  intro p e s m args below meth c A Q H locs ls hx hb hr hlocks hml hown hts hNW hK hA hQ hP hD hS hl
  have hown : s.vm.findClass "ConeForgeModel" = some m.cls := hown
  have hl : lv_has ls 5 [(0, .ref q0)] := hl
  have L251 : ∀ (vq0_rowScale : Nat → UInt64) (vq0_columnScale : Nat → UInt64) (vq0_sa : Nat → UInt64) (vq0_sb : Nat → UInt64) (vq0_sc : Nat → UInt64) (x1 : Int32), ∀ (H : Heap) (locs : List Loc) (ls : Array Slot), va_P D CL (w_M_rescale T q0 q0_a q0_b q0_c q0_rowScale q0_columnScale q0_sa q0_sb q0_sc q0_x q0_s q0_y q0_p q0_d q0_h q0_f q0_mm q0_low q0_dd q0_r q0_big q0_dt q0_dx q0_t q0_cost q0_rowScaleNow q0_columnScaleNow q0_basic q0_text q0_turned q0_na q0_nb q0_nc vq0_m vq0_n vq0_length vq0_where vq0_effort vq0_thrown vq0_at vq0_scaled vq0_solved vq0_second vq0_nm vq0_nn vq0_number vq0_bad vq0_a vq0_b vq0_c vq0_rowScale vq0_columnScale vq0_sa vq0_sb vq0_sc) H → va_D A (w_M_rescale T q0 q0_a q0_b q0_c q0_rowScale q0_columnScale q0_sa q0_sb q0_sc q0_x q0_s q0_y q0_p q0_d q0_h q0_f q0_mm q0_low q0_dd q0_r q0_big q0_dt q0_dx q0_t q0_cost q0_rowScaleNow q0_columnScaleNow q0_basic q0_text q0_turned q0_na q0_nb q0_nc vq0_m vq0_n vq0_length vq0_where vq0_effort vq0_thrown vq0_at vq0_scaled vq0_solved vq0_second vq0_nm vq0_nn vq0_number vq0_bad vq0_a vq0_b vq0_c vq0_rowScale vq0_columnScale vq0_sa vq0_sb vq0_sc) → va_S A s.heap H locs → lv_has ls 5 [(0, .ref q0), (1, .int x1)] → s_M_rescale_L251 vq0_m vq0_n vq0_length vq0_where vq0_effort vq0_thrown vq0_at vq0_scaled vq0_solved vq0_second vq0_nm vq0_nn vq0_number vq0_bad vq0_a vq0_b vq0_c vq0_rowScale vq0_columnScale vq0_sa vq0_sb vq0_sc x1 = some rm → W p l e (rmk 1 25) s m args below meth c H locs 0 0 Q (F0 m 251 ls []) := by
    intro vq0_rowScale vq0_columnScale vq0_sa vq0_sb vq0_sc x1 H locs ls hP hD hS hl h
    unfold s_M_rescale_L251 at h
    obtain ⟨u251, hu251, h⟩ := bi_some h
    refine loopO_W (Wh := fun (st : (Nat → UInt64) × Int32) => ∀ (H : Heap) (locs : List Loc) (ls : Array Slot), va_P D CL (w_M_rescale T q0 q0_a q0_b q0_c q0_rowScale q0_columnScale q0_sa q0_sb q0_sc q0_x q0_s q0_y q0_p q0_d q0_h q0_f q0_mm q0_low q0_dd q0_r q0_big q0_dt q0_dx q0_t q0_cost q0_rowScaleNow q0_columnScaleNow q0_basic q0_text q0_turned q0_na q0_nb q0_nc vq0_m vq0_n vq0_length vq0_where vq0_effort vq0_thrown vq0_at vq0_scaled vq0_solved vq0_second vq0_nm vq0_nn vq0_number vq0_bad vq0_a vq0_b vq0_c vq0_rowScale vq0_columnScale vq0_sa vq0_sb st.1) H → va_D A (w_M_rescale T q0 q0_a q0_b q0_c q0_rowScale q0_columnScale q0_sa q0_sb q0_sc q0_x q0_s q0_y q0_p q0_d q0_h q0_f q0_mm q0_low q0_dd q0_r q0_big q0_dt q0_dx q0_t q0_cost q0_rowScaleNow q0_columnScaleNow q0_basic q0_text q0_turned q0_na q0_nb q0_nc vq0_m vq0_n vq0_length vq0_where vq0_effort vq0_thrown vq0_at vq0_scaled vq0_solved vq0_second vq0_nm vq0_nn vq0_number vq0_bad vq0_a vq0_b vq0_c vq0_rowScale vq0_columnScale vq0_sa vq0_sb st.1) → va_S A s.heap H locs → lv_has ls 5 [(0, .ref q0), (1, .int st.2)] → W p l e (rmk 1 25) s m args below meth c H locs 0 0 Q (F0 m 251 ls [])) (Wx := fun (e1 : (Nat → UInt64)) => ∀ (H : Heap) (locs : List Loc) (ls : Array Slot), va_P D CL (w_M_rescale T q0 q0_a q0_b q0_c q0_rowScale q0_columnScale q0_sa q0_sb q0_sc q0_x q0_s q0_y q0_p q0_d q0_h q0_f q0_mm q0_low q0_dd q0_r q0_big q0_dt q0_dx q0_t q0_cost q0_rowScaleNow q0_columnScaleNow q0_basic q0_text q0_turned q0_na q0_nb q0_nc vq0_m vq0_n vq0_length vq0_where vq0_effort vq0_thrown vq0_at vq0_scaled vq0_solved vq0_second vq0_nm vq0_nn vq0_number vq0_bad vq0_a vq0_b vq0_c vq0_rowScale vq0_columnScale vq0_sa vq0_sb e1) H → va_D A (w_M_rescale T q0 q0_a q0_b q0_c q0_rowScale q0_columnScale q0_sa q0_sb q0_sc q0_x q0_s q0_y q0_p q0_d q0_h q0_f q0_mm q0_low q0_dd q0_r q0_big q0_dt q0_dx q0_t q0_cost q0_rowScaleNow q0_columnScaleNow q0_basic q0_text q0_turned q0_na q0_nb q0_nc vq0_m vq0_n vq0_length vq0_where vq0_effort vq0_thrown vq0_at vq0_scaled vq0_solved vq0_second vq0_nm vq0_nn vq0_number vq0_bad vq0_a vq0_b vq0_c vq0_rowScale vq0_columnScale vq0_sa vq0_sb e1) → va_S A s.heap H locs → lv_has ls 5 [] → W p l e (rmk 1 25) s m args below meth c H locs 0 0 Q (F0 m 284 ls [])) ?_ 2000 _ u251 hu251 ?_ H locs ls hP hD hS hl
    · intro st rb251 h kc251 kx251 H locs ls hP hD hS hl
      obtain ⟨vq0_sc, x1⟩ := st
      have h : s_M_rescale_B251 vq0_m vq0_n vq0_length vq0_where vq0_effort vq0_thrown vq0_at vq0_scaled vq0_solved vq0_second vq0_nm vq0_nn vq0_number vq0_bad vq0_a vq0_b vq0_c vq0_rowScale vq0_columnScale vq0_sa vq0_sb vq0_sc x1 = some rb251 := h
      unfold s_M_rescale_B251 at h
      refine lv_iload_n hx hb d_M_rescale_251 rfl (lv_at hl 1 rfl) ?_
      refine lv_aload_n hx hb d_M_rescale_252 rfl (lv_at hl 0 rfl) ?_
      refine va_get (D := D) (ci := 8) (v := .int vq0_n) (C := "ConeForgeModel") (T := FM) (N := 46) hx hb hts iM hown hK hP 0 rfl rfl 30 (by decide) (hts _ (bgc bw714)) (fun _ h9 => h9) rfl d_M_rescale_253 ?_
      refine lv_icmp_ge (tgt := 284) hx hb d_M_rescale_256 (by decide) (fun c1 => ?_) (fun c1 => ?_)
      · have h := it_t c1 h
        exact kx251 _ (Option.some.inj h).symm H locs ls hP hD hS (lv_sub hl [] rfl)
      · have h := it_f c1 h
        refine lv_aload_n hx hb d_M_rescale_259 rfl (lv_at hl 0 rfl) ?_
        refine va_get (D := D) (ci := 8) (v := .ref q0_sc) (C := "ConeForgeModel") (T := FM) (N := 46) hx hb hts iM hown hK hP 0 rfl rfl 7 (by decide) (hts _ (bgc bw691)) (fun _ h9 => h9) rfl d_M_rescale_260 ?_
        refine lv_iload_n hx hb d_M_rescale_263 rfl (lv_at hl 1 rfl) ?_
        refine lv_aload_n hx hb d_M_rescale_264 rfl (lv_at hl 0 rfl) ?_
        refine va_get (D := D) (ci := 8) (v := .ref q0_c) (C := "ConeForgeModel") (T := FM) (N := 46) hx hb hts iM hown hK hP 0 rfl rfl 2 (by decide) (hts _ (bgc bw686)) (fun _ h9 => h9) rfl d_M_rescale_265 ?_
        refine lv_iload_n hx hb d_M_rescale_268 rfl (lv_at hl 1 rfl) ?_
        obtain ⟨g2, h⟩ := gd_some h
        refine va_dald hx hb hK hP 3 0 rfl rfl (inb_in g2) d_M_rescale_269 ?_
        refine lv_aload_n hx hb d_M_rescale_270 rfl (lv_at hl 0 rfl) ?_
        refine va_get (D := D) (ci := 8) (v := .ref q0_columnScale) (C := "ConeForgeModel") (T := FM) (N := 46) hx hb hts iM hown hK hP 0 rfl rfl 4 (by decide) (hts _ (bgc bw688)) (fun _ h9 => h9) rfl d_M_rescale_271 ?_
        refine lv_iload_n hx hb d_M_rescale_274 rfl (lv_at hl 1 rfl) ?_
        obtain ⟨g3, h⟩ := gd_some h
        refine va_dald hx hb hK hP 5 0 rfl rfl (inb_in g3) d_M_rescale_275 ?_
        obtain ⟨g4, h⟩ := gd_some h
        refine lv_dmul hx hb d_M_rescale_276 (isn_n g4) ?_
        obtain ⟨g5, h⟩ := gd_some h
        refine va_dast hx hb hK hP hD hS 8 0 rfl rfl (inb_in g5) d_M_rescale_277 (fun H locs hP hD hS => ?_)
        have hP : va_P D CL (w_M_rescale T q0 q0_a q0_b q0_c q0_rowScale q0_columnScale q0_sa q0_sb q0_sc q0_x q0_s q0_y q0_p q0_d q0_h q0_f q0_mm q0_low q0_dd q0_r q0_big q0_dt q0_dx q0_t q0_cost q0_rowScaleNow q0_columnScaleNow q0_basic q0_text q0_turned q0_na q0_nb q0_nc vq0_m vq0_n vq0_length vq0_where vq0_effort vq0_thrown vq0_at vq0_scaled vq0_solved vq0_second vq0_nm vq0_nn vq0_number vq0_bad vq0_a vq0_b vq0_c vq0_rowScale vq0_columnScale vq0_sa vq0_sb (vf_upd vq0_sc x1.toNatClampNeg (FP.dmul (vq0_c x1.toNatClampNeg) (vq0_columnScale x1.toNatClampNeg)))) H := hP
        have hD : va_D A (w_M_rescale T q0 q0_a q0_b q0_c q0_rowScale q0_columnScale q0_sa q0_sb q0_sc q0_x q0_s q0_y q0_p q0_d q0_h q0_f q0_mm q0_low q0_dd q0_r q0_big q0_dt q0_dx q0_t q0_cost q0_rowScaleNow q0_columnScaleNow q0_basic q0_text q0_turned q0_na q0_nb q0_nc vq0_m vq0_n vq0_length vq0_where vq0_effort vq0_thrown vq0_at vq0_scaled vq0_solved vq0_second vq0_nm vq0_nn vq0_number vq0_bad vq0_a vq0_b vq0_c vq0_rowScale vq0_columnScale vq0_sa vq0_sb (vf_upd vq0_sc x1.toNatClampNeg (FP.dmul (vq0_c x1.toNatClampNeg) (vq0_columnScale x1.toNatClampNeg)))) := hD
        refine lv_iinc (v := x1 + 1) (lv' := [(1, .int (x1 + 1)), (0, .ref q0)]) hx hb d_M_rescale_278 hl (k := 1) rfl rfl (by decide) rfl (fun ls hl => ?_)
        refine lv_goto (tgt := 251) hx hb d_M_rescale_281 (by decide) ?_
        exact kc251 _ (Option.some.inj h).symm H locs ls hP hD hS (lv_sub hl [1, 0] rfl)
    · intro H locs ls hP hD hS hl
      exact rtV hx hb hr hlocks hQ (Option.some.inj h) hP hS d_M_rescale_284 rfl
  have L164 : ∀ (vq0_rowScale : Nat → UInt64) (vq0_columnScale : Nat → UInt64) (vq0_sa : Nat → UInt64) (vq0_sb : Nat → UInt64) (vq0_sc : Nat → UInt64) (x1 : Int32), ∀ (H : Heap) (locs : List Loc) (ls : Array Slot), va_P D CL (w_M_rescale T q0 q0_a q0_b q0_c q0_rowScale q0_columnScale q0_sa q0_sb q0_sc q0_x q0_s q0_y q0_p q0_d q0_h q0_f q0_mm q0_low q0_dd q0_r q0_big q0_dt q0_dx q0_t q0_cost q0_rowScaleNow q0_columnScaleNow q0_basic q0_text q0_turned q0_na q0_nb q0_nc vq0_m vq0_n vq0_length vq0_where vq0_effort vq0_thrown vq0_at vq0_scaled vq0_solved vq0_second vq0_nm vq0_nn vq0_number vq0_bad vq0_a vq0_b vq0_c vq0_rowScale vq0_columnScale vq0_sa vq0_sb vq0_sc) H → va_D A (w_M_rescale T q0 q0_a q0_b q0_c q0_rowScale q0_columnScale q0_sa q0_sb q0_sc q0_x q0_s q0_y q0_p q0_d q0_h q0_f q0_mm q0_low q0_dd q0_r q0_big q0_dt q0_dx q0_t q0_cost q0_rowScaleNow q0_columnScaleNow q0_basic q0_text q0_turned q0_na q0_nb q0_nc vq0_m vq0_n vq0_length vq0_where vq0_effort vq0_thrown vq0_at vq0_scaled vq0_solved vq0_second vq0_nm vq0_nn vq0_number vq0_bad vq0_a vq0_b vq0_c vq0_rowScale vq0_columnScale vq0_sa vq0_sb vq0_sc) → va_S A s.heap H locs → lv_has ls 5 [(0, .ref q0), (1, .int x1)] → s_M_rescale_L164 vq0_m vq0_n vq0_length vq0_where vq0_effort vq0_thrown vq0_at vq0_scaled vq0_solved vq0_second vq0_nm vq0_nn vq0_number vq0_bad vq0_a vq0_b vq0_c vq0_rowScale vq0_columnScale vq0_sa vq0_sb vq0_sc x1 = some rm → W p l e (rmk 1 25) s m args below meth c H locs 0 0 Q (F0 m 164 ls []) := by
    intro vq0_rowScale vq0_columnScale vq0_sa vq0_sb vq0_sc x1 H locs ls hP hD hS hl h
    unfold s_M_rescale_L164 at h
    obtain ⟨u164, hu164, h⟩ := bi_some h
    refine loopO_W (Wh := fun (st : (Nat → UInt64) × (Nat → UInt64) × Int32) => ∀ (H : Heap) (locs : List Loc) (ls : Array Slot), va_P D CL (w_M_rescale T q0 q0_a q0_b q0_c q0_rowScale q0_columnScale q0_sa q0_sb q0_sc q0_x q0_s q0_y q0_p q0_d q0_h q0_f q0_mm q0_low q0_dd q0_r q0_big q0_dt q0_dx q0_t q0_cost q0_rowScaleNow q0_columnScaleNow q0_basic q0_text q0_turned q0_na q0_nb q0_nc vq0_m vq0_n vq0_length vq0_where vq0_effort vq0_thrown vq0_at vq0_scaled vq0_solved vq0_second vq0_nm vq0_nn vq0_number vq0_bad vq0_a vq0_b vq0_c vq0_rowScale vq0_columnScale st.1 st.2.1 vq0_sc) H → va_D A (w_M_rescale T q0 q0_a q0_b q0_c q0_rowScale q0_columnScale q0_sa q0_sb q0_sc q0_x q0_s q0_y q0_p q0_d q0_h q0_f q0_mm q0_low q0_dd q0_r q0_big q0_dt q0_dx q0_t q0_cost q0_rowScaleNow q0_columnScaleNow q0_basic q0_text q0_turned q0_na q0_nb q0_nc vq0_m vq0_n vq0_length vq0_where vq0_effort vq0_thrown vq0_at vq0_scaled vq0_solved vq0_second vq0_nm vq0_nn vq0_number vq0_bad vq0_a vq0_b vq0_c vq0_rowScale vq0_columnScale st.1 st.2.1 vq0_sc) → va_S A s.heap H locs → lv_has ls 5 [(0, .ref q0), (1, .int st.2.2)] → W p l e (rmk 1 25) s m args below meth c H locs 0 0 Q (F0 m 164 ls [])) (Wx := fun (e1 : (Nat → UInt64) × (Nat → UInt64)) => ∀ (H : Heap) (locs : List Loc) (ls : Array Slot), va_P D CL (w_M_rescale T q0 q0_a q0_b q0_c q0_rowScale q0_columnScale q0_sa q0_sb q0_sc q0_x q0_s q0_y q0_p q0_d q0_h q0_f q0_mm q0_low q0_dd q0_r q0_big q0_dt q0_dx q0_t q0_cost q0_rowScaleNow q0_columnScaleNow q0_basic q0_text q0_turned q0_na q0_nb q0_nc vq0_m vq0_n vq0_length vq0_where vq0_effort vq0_thrown vq0_at vq0_scaled vq0_solved vq0_second vq0_nm vq0_nn vq0_number vq0_bad vq0_a vq0_b vq0_c vq0_rowScale vq0_columnScale e1.1 e1.2 vq0_sc) H → va_D A (w_M_rescale T q0 q0_a q0_b q0_c q0_rowScale q0_columnScale q0_sa q0_sb q0_sc q0_x q0_s q0_y q0_p q0_d q0_h q0_f q0_mm q0_low q0_dd q0_r q0_big q0_dt q0_dx q0_t q0_cost q0_rowScaleNow q0_columnScaleNow q0_basic q0_text q0_turned q0_na q0_nb q0_nc vq0_m vq0_n vq0_length vq0_where vq0_effort vq0_thrown vq0_at vq0_scaled vq0_solved vq0_second vq0_nm vq0_nn vq0_number vq0_bad vq0_a vq0_b vq0_c vq0_rowScale vq0_columnScale e1.1 e1.2 vq0_sc) → va_S A s.heap H locs → lv_has ls 5 [(0, .ref q0)] → W p l e (rmk 1 25) s m args below meth c H locs 0 0 Q (F0 m 249 ls [])) ?_ 2000 _ u164 hu164 ?_ H locs ls hP hD hS hl
    · intro st rb164 h kc164 kx164 H locs ls hP hD hS hl
      obtain ⟨vq0_sa, vq0_sb, x1⟩ := st
      have h : s_M_rescale_B164 vq0_m vq0_n vq0_length vq0_where vq0_effort vq0_thrown vq0_at vq0_scaled vq0_solved vq0_second vq0_nm vq0_nn vq0_number vq0_bad vq0_a vq0_b vq0_c vq0_rowScale vq0_columnScale vq0_sc vq0_sa vq0_sb x1 = some rb164 := h
      have L193 : ∀ (vq0_sa : Nat → UInt64) (vq0_sb : Nat → UInt64) (x1 : Int32) (x2 : Int32), ∀ (H : Heap) (locs : List Loc) (ls : Array Slot), va_P D CL (w_M_rescale T q0 q0_a q0_b q0_c q0_rowScale q0_columnScale q0_sa q0_sb q0_sc q0_x q0_s q0_y q0_p q0_d q0_h q0_f q0_mm q0_low q0_dd q0_r q0_big q0_dt q0_dx q0_t q0_cost q0_rowScaleNow q0_columnScaleNow q0_basic q0_text q0_turned q0_na q0_nb q0_nc vq0_m vq0_n vq0_length vq0_where vq0_effort vq0_thrown vq0_at vq0_scaled vq0_solved vq0_second vq0_nm vq0_nn vq0_number vq0_bad vq0_a vq0_b vq0_c vq0_rowScale vq0_columnScale vq0_sa vq0_sb vq0_sc) H → va_D A (w_M_rescale T q0 q0_a q0_b q0_c q0_rowScale q0_columnScale q0_sa q0_sb q0_sc q0_x q0_s q0_y q0_p q0_d q0_h q0_f q0_mm q0_low q0_dd q0_r q0_big q0_dt q0_dx q0_t q0_cost q0_rowScaleNow q0_columnScaleNow q0_basic q0_text q0_turned q0_na q0_nb q0_nc vq0_m vq0_n vq0_length vq0_where vq0_effort vq0_thrown vq0_at vq0_scaled vq0_solved vq0_second vq0_nm vq0_nn vq0_number vq0_bad vq0_a vq0_b vq0_c vq0_rowScale vq0_columnScale vq0_sa vq0_sb vq0_sc) → va_S A s.heap H locs → lv_has ls 5 [(0, .ref q0), (1, .int x1), (2, .int x2)] → s_M_rescale_L193 vq0_m vq0_n vq0_length vq0_where vq0_effort vq0_thrown vq0_at vq0_scaled vq0_solved vq0_second vq0_nm vq0_nn vq0_number vq0_bad vq0_a vq0_b vq0_c vq0_rowScale vq0_columnScale vq0_sa vq0_sb vq0_sc x1 x2 = some rb164 → W p l e (rmk 1 25) s m args below meth c H locs 0 0 Q (F0 m 193 ls []) := by
        intro vq0_sa vq0_sb x1 x2 H locs ls hP hD hS hl h
        unfold s_M_rescale_L193 at h
        obtain ⟨u193, hu193, h⟩ := bi_some h
        refine loopO_W (Wh := fun (st : (Nat → UInt64) × Int32) => ∀ (H : Heap) (locs : List Loc) (ls : Array Slot), va_P D CL (w_M_rescale T q0 q0_a q0_b q0_c q0_rowScale q0_columnScale q0_sa q0_sb q0_sc q0_x q0_s q0_y q0_p q0_d q0_h q0_f q0_mm q0_low q0_dd q0_r q0_big q0_dt q0_dx q0_t q0_cost q0_rowScaleNow q0_columnScaleNow q0_basic q0_text q0_turned q0_na q0_nb q0_nc vq0_m vq0_n vq0_length vq0_where vq0_effort vq0_thrown vq0_at vq0_scaled vq0_solved vq0_second vq0_nm vq0_nn vq0_number vq0_bad vq0_a vq0_b vq0_c vq0_rowScale vq0_columnScale st.1 vq0_sb vq0_sc) H → va_D A (w_M_rescale T q0 q0_a q0_b q0_c q0_rowScale q0_columnScale q0_sa q0_sb q0_sc q0_x q0_s q0_y q0_p q0_d q0_h q0_f q0_mm q0_low q0_dd q0_r q0_big q0_dt q0_dx q0_t q0_cost q0_rowScaleNow q0_columnScaleNow q0_basic q0_text q0_turned q0_na q0_nb q0_nc vq0_m vq0_n vq0_length vq0_where vq0_effort vq0_thrown vq0_at vq0_scaled vq0_solved vq0_second vq0_nm vq0_nn vq0_number vq0_bad vq0_a vq0_b vq0_c vq0_rowScale vq0_columnScale st.1 vq0_sb vq0_sc) → va_S A s.heap H locs → lv_has ls 5 [(0, .ref q0), (1, .int x1), (2, .int st.2)] → W p l e (rmk 1 25) s m args below meth c H locs 0 0 Q (F0 m 193 ls [])) (Wx := fun (e1 : (Nat → UInt64)) => ∀ (H : Heap) (locs : List Loc) (ls : Array Slot), va_P D CL (w_M_rescale T q0 q0_a q0_b q0_c q0_rowScale q0_columnScale q0_sa q0_sb q0_sc q0_x q0_s q0_y q0_p q0_d q0_h q0_f q0_mm q0_low q0_dd q0_r q0_big q0_dt q0_dx q0_t q0_cost q0_rowScaleNow q0_columnScaleNow q0_basic q0_text q0_turned q0_na q0_nb q0_nc vq0_m vq0_n vq0_length vq0_where vq0_effort vq0_thrown vq0_at vq0_scaled vq0_solved vq0_second vq0_nm vq0_nn vq0_number vq0_bad vq0_a vq0_b vq0_c vq0_rowScale vq0_columnScale e1 vq0_sb vq0_sc) H → va_D A (w_M_rescale T q0 q0_a q0_b q0_c q0_rowScale q0_columnScale q0_sa q0_sb q0_sc q0_x q0_s q0_y q0_p q0_d q0_h q0_f q0_mm q0_low q0_dd q0_r q0_big q0_dt q0_dx q0_t q0_cost q0_rowScaleNow q0_columnScaleNow q0_basic q0_text q0_turned q0_na q0_nb q0_nc vq0_m vq0_n vq0_length vq0_where vq0_effort vq0_thrown vq0_at vq0_scaled vq0_solved vq0_second vq0_nm vq0_nn vq0_number vq0_bad vq0_a vq0_b vq0_c vq0_rowScale vq0_columnScale e1 vq0_sb vq0_sc) → va_S A s.heap H locs → lv_has ls 5 [(0, .ref q0), (1, .int x1)] → W p l e (rmk 1 25) s m args below meth c H locs 0 0 Q (F0 m 243 ls [])) ?_ 2000 _ u193 hu193 ?_ H locs ls hP hD hS hl
        · intro st rb193 h kc193 kx193 H locs ls hP hD hS hl
          obtain ⟨vq0_sa, x2⟩ := st
          have h : s_M_rescale_B193 vq0_m vq0_n vq0_length vq0_where vq0_effort vq0_thrown vq0_at vq0_scaled vq0_solved vq0_second vq0_nm vq0_nn vq0_number vq0_bad vq0_a vq0_b vq0_c vq0_rowScale vq0_columnScale vq0_sb vq0_sc x1 vq0_sa x2 = some rb193 := h
          unfold s_M_rescale_B193 at h
          refine lv_iload_n hx hb d_M_rescale_193 rfl (lv_at hl 2 rfl) ?_
          refine lv_aload_n hx hb d_M_rescale_194 rfl (lv_at hl 0 rfl) ?_
          refine va_get (D := D) (ci := 8) (v := .int vq0_n) (C := "ConeForgeModel") (T := FM) (N := 46) hx hb hts iM hown hK hP 0 rfl rfl 30 (by decide) (hts _ (bgc bw714)) (fun _ h9 => h9) rfl d_M_rescale_195 ?_
          refine lv_icmp_ge (tgt := 243) hx hb d_M_rescale_198 (by decide) (fun c6 => ?_) (fun c6 => ?_)
          · have h := it_t c6 h
            exact kx193 _ (Option.some.inj h).symm H locs ls hP hD hS (lv_sub hl [0, 1] rfl)
          · have h := it_f c6 h
            refine lv_aload_n hx hb d_M_rescale_201 rfl (lv_at hl 0 rfl) ?_
            refine va_get (D := D) (ci := 8) (v := .ref q0_sa) (C := "ConeForgeModel") (T := FM) (N := 46) hx hb hts iM hown hK hP 0 rfl rfl 5 (by decide) (hts _ (bgc bw689)) (fun _ h9 => h9) rfl d_M_rescale_202 ?_
            refine lv_bipush (v := 8) hx hb d_M_rescale_205 (by decide) ?_
            refine lv_iload_n hx hb d_M_rescale_207 rfl (lv_at hl 1 rfl) ?_
            refine lv_imul hx hb d_M_rescale_208 ?_
            refine lv_iload_n hx hb d_M_rescale_209 rfl (lv_at hl 2 rfl) ?_
            refine lv_iadd hx hb d_M_rescale_210 ?_
            refine lv_aload_n hx hb d_M_rescale_211 rfl (lv_at hl 0 rfl) ?_
            refine va_get (D := D) (ci := 8) (v := .ref q0_rowScale) (C := "ConeForgeModel") (T := FM) (N := 46) hx hb hts iM hown hK hP 0 rfl rfl 3 (by decide) (hts _ (bgc bw687)) (fun _ h9 => h9) rfl d_M_rescale_212 ?_
            refine lv_iload_n hx hb d_M_rescale_215 rfl (lv_at hl 1 rfl) ?_
            obtain ⟨g7, h⟩ := gd_some h
            refine va_dald hx hb hK hP 4 0 rfl rfl (inb_in g7) d_M_rescale_216 ?_
            refine lv_aload_n hx hb d_M_rescale_217 rfl (lv_at hl 0 rfl) ?_
            refine va_get (D := D) (ci := 8) (v := .ref q0_a) (C := "ConeForgeModel") (T := FM) (N := 46) hx hb hts iM hown hK hP 0 rfl rfl 0 (by decide) (hts _ (bgc bw684)) (fun _ h9 => h9) rfl d_M_rescale_218 ?_
            refine lv_bipush (v := 8) hx hb d_M_rescale_221 (by decide) ?_
            refine lv_iload_n hx hb d_M_rescale_223 rfl (lv_at hl 1 rfl) ?_
            refine lv_imul hx hb d_M_rescale_224 ?_
            refine lv_iload_n hx hb d_M_rescale_225 rfl (lv_at hl 2 rfl) ?_
            refine lv_iadd hx hb d_M_rescale_226 ?_
            obtain ⟨g8, h⟩ := gd_some h
            refine va_dald hx hb hK hP 1 0 rfl rfl (inb_in g8) d_M_rescale_227 ?_
            obtain ⟨g9, h⟩ := gd_some h
            refine lv_dmul hx hb d_M_rescale_228 (isn_n g9) ?_
            refine lv_aload_n hx hb d_M_rescale_229 rfl (lv_at hl 0 rfl) ?_
            refine va_get (D := D) (ci := 8) (v := .ref q0_columnScale) (C := "ConeForgeModel") (T := FM) (N := 46) hx hb hts iM hown hK hP 0 rfl rfl 4 (by decide) (hts _ (bgc bw688)) (fun _ h9 => h9) rfl d_M_rescale_230 ?_
            refine lv_iload_n hx hb d_M_rescale_233 rfl (lv_at hl 2 rfl) ?_
            obtain ⟨g10, h⟩ := gd_some h
            refine va_dald hx hb hK hP 5 0 rfl rfl (inb_in g10) d_M_rescale_234 ?_
            obtain ⟨g11, h⟩ := gd_some h
            refine lv_dmul hx hb d_M_rescale_235 (isn_n g11) ?_
            obtain ⟨g12, h⟩ := gd_some h
            refine va_dast hx hb hK hP hD hS 6 0 rfl rfl (inb_in g12) d_M_rescale_236 (fun H locs hP hD hS => ?_)
            have hP : va_P D CL (w_M_rescale T q0 q0_a q0_b q0_c q0_rowScale q0_columnScale q0_sa q0_sb q0_sc q0_x q0_s q0_y q0_p q0_d q0_h q0_f q0_mm q0_low q0_dd q0_r q0_big q0_dt q0_dx q0_t q0_cost q0_rowScaleNow q0_columnScaleNow q0_basic q0_text q0_turned q0_na q0_nb q0_nc vq0_m vq0_n vq0_length vq0_where vq0_effort vq0_thrown vq0_at vq0_scaled vq0_solved vq0_second vq0_nm vq0_nn vq0_number vq0_bad vq0_a vq0_b vq0_c vq0_rowScale vq0_columnScale (vf_upd vq0_sa ((8 * x1) + x2).toNatClampNeg (FP.dmul (FP.dmul (vq0_rowScale x1.toNatClampNeg) (vq0_a ((8 * x1) + x2).toNatClampNeg)) (vq0_columnScale x2.toNatClampNeg))) vq0_sb vq0_sc) H := hP
            have hD : va_D A (w_M_rescale T q0 q0_a q0_b q0_c q0_rowScale q0_columnScale q0_sa q0_sb q0_sc q0_x q0_s q0_y q0_p q0_d q0_h q0_f q0_mm q0_low q0_dd q0_r q0_big q0_dt q0_dx q0_t q0_cost q0_rowScaleNow q0_columnScaleNow q0_basic q0_text q0_turned q0_na q0_nb q0_nc vq0_m vq0_n vq0_length vq0_where vq0_effort vq0_thrown vq0_at vq0_scaled vq0_solved vq0_second vq0_nm vq0_nn vq0_number vq0_bad vq0_a vq0_b vq0_c vq0_rowScale vq0_columnScale (vf_upd vq0_sa ((8 * x1) + x2).toNatClampNeg (FP.dmul (FP.dmul (vq0_rowScale x1.toNatClampNeg) (vq0_a ((8 * x1) + x2).toNatClampNeg)) (vq0_columnScale x2.toNatClampNeg))) vq0_sb vq0_sc) := hD
            refine lv_iinc (v := x2 + 1) (lv' := [(2, .int (x2 + 1)), (0, .ref q0), (1, .int x1)]) hx hb d_M_rescale_237 hl (k := 2) rfl rfl (by decide) rfl (fun ls hl => ?_)
            refine lv_goto (tgt := 193) hx hb d_M_rescale_240 (by decide) ?_
            exact kc193 _ (Option.some.inj h).symm H locs ls hP hD hS (lv_sub hl [1, 2, 0] rfl)
        · intro H locs ls hP hD hS hl
          refine lv_iinc (v := x1 + 1) (lv' := [(1, .int (x1 + 1)), (0, .ref q0)]) hx hb d_M_rescale_243 hl (k := 1) rfl rfl (by decide) rfl (fun ls hl => ?_)
          refine lv_goto (tgt := 164) hx hb d_M_rescale_246 (by decide) ?_
          exact kc164 _ (Option.some.inj h).symm H locs ls hP hD hS (lv_sub hl [1, 0] rfl)
      unfold s_M_rescale_B164 at h
      refine lv_iload_n hx hb d_M_rescale_164 rfl (lv_at hl 1 rfl) ?_
      refine lv_aload_n hx hb d_M_rescale_165 rfl (lv_at hl 0 rfl) ?_
      refine va_get (D := D) (ci := 8) (v := .int vq0_m) (C := "ConeForgeModel") (T := FM) (N := 46) hx hb hts iM hown hK hP 0 rfl rfl 29 (by decide) (hts _ (bgc bw713)) (fun _ h9 => h9) rfl d_M_rescale_166 ?_
      refine lv_icmp_ge (tgt := 249) hx hb d_M_rescale_169 (by decide) (fun c13 => ?_) (fun c13 => ?_)
      · have h := it_t c13 h
        exact kx164 _ (Option.some.inj h).symm H locs ls hP hD hS (lv_sub hl [0] rfl)
      · have h := it_f c13 h
        refine lv_aload_n hx hb d_M_rescale_172 rfl (lv_at hl 0 rfl) ?_
        refine va_get (D := D) (ci := 8) (v := .ref q0_sb) (C := "ConeForgeModel") (T := FM) (N := 46) hx hb hts iM hown hK hP 0 rfl rfl 6 (by decide) (hts _ (bgc bw690)) (fun _ h9 => h9) rfl d_M_rescale_173 ?_
        refine lv_iload_n hx hb d_M_rescale_176 rfl (lv_at hl 1 rfl) ?_
        refine lv_aload_n hx hb d_M_rescale_177 rfl (lv_at hl 0 rfl) ?_
        refine va_get (D := D) (ci := 8) (v := .ref q0_rowScale) (C := "ConeForgeModel") (T := FM) (N := 46) hx hb hts iM hown hK hP 0 rfl rfl 3 (by decide) (hts _ (bgc bw687)) (fun _ h9 => h9) rfl d_M_rescale_178 ?_
        refine lv_iload_n hx hb d_M_rescale_181 rfl (lv_at hl 1 rfl) ?_
        obtain ⟨g14, h⟩ := gd_some h
        refine va_dald hx hb hK hP 4 0 rfl rfl (inb_in g14) d_M_rescale_182 ?_
        refine lv_aload_n hx hb d_M_rescale_183 rfl (lv_at hl 0 rfl) ?_
        refine va_get (D := D) (ci := 8) (v := .ref q0_b) (C := "ConeForgeModel") (T := FM) (N := 46) hx hb hts iM hown hK hP 0 rfl rfl 1 (by decide) (hts _ (bgc bw685)) (fun _ h9 => h9) rfl d_M_rescale_184 ?_
        refine lv_iload_n hx hb d_M_rescale_187 rfl (lv_at hl 1 rfl) ?_
        obtain ⟨g15, h⟩ := gd_some h
        refine va_dald hx hb hK hP 2 0 rfl rfl (inb_in g15) d_M_rescale_188 ?_
        obtain ⟨g16, h⟩ := gd_some h
        refine lv_dmul hx hb d_M_rescale_189 (isn_n g16) ?_
        obtain ⟨g17, h⟩ := gd_some h
        refine va_dast hx hb hK hP hD hS 7 0 rfl rfl (inb_in g17) d_M_rescale_190 (fun H locs hP hD hS => ?_)
        have hP : va_P D CL (w_M_rescale T q0 q0_a q0_b q0_c q0_rowScale q0_columnScale q0_sa q0_sb q0_sc q0_x q0_s q0_y q0_p q0_d q0_h q0_f q0_mm q0_low q0_dd q0_r q0_big q0_dt q0_dx q0_t q0_cost q0_rowScaleNow q0_columnScaleNow q0_basic q0_text q0_turned q0_na q0_nb q0_nc vq0_m vq0_n vq0_length vq0_where vq0_effort vq0_thrown vq0_at vq0_scaled vq0_solved vq0_second vq0_nm vq0_nn vq0_number vq0_bad vq0_a vq0_b vq0_c vq0_rowScale vq0_columnScale vq0_sa (vf_upd vq0_sb x1.toNatClampNeg (FP.dmul (vq0_rowScale x1.toNatClampNeg) (vq0_b x1.toNatClampNeg))) vq0_sc) H := hP
        have hD : va_D A (w_M_rescale T q0 q0_a q0_b q0_c q0_rowScale q0_columnScale q0_sa q0_sb q0_sc q0_x q0_s q0_y q0_p q0_d q0_h q0_f q0_mm q0_low q0_dd q0_r q0_big q0_dt q0_dx q0_t q0_cost q0_rowScaleNow q0_columnScaleNow q0_basic q0_text q0_turned q0_na q0_nb q0_nc vq0_m vq0_n vq0_length vq0_where vq0_effort vq0_thrown vq0_at vq0_scaled vq0_solved vq0_second vq0_nm vq0_nn vq0_number vq0_bad vq0_a vq0_b vq0_c vq0_rowScale vq0_columnScale vq0_sa (vf_upd vq0_sb x1.toNatClampNeg (FP.dmul (vq0_rowScale x1.toNatClampNeg) (vq0_b x1.toNatClampNeg))) vq0_sc) := hD
        refine lv_iconst (v := 0) hx hb d_M_rescale_191 (by decide) ?_
        refine lv_istore_n (lv' := [(2, .int 0), (0, .ref q0), (1, .int x1)]) hx hb d_M_rescale_192 rfl hl (by decide) rfl (fun ls hl => ?_)
        exact L193 vq0_sa (vf_upd vq0_sb x1.toNatClampNeg (FP.dmul (vq0_rowScale x1.toNatClampNeg) (vq0_b x1.toNatClampNeg))) x1 0 H locs ls hP hD hS (lv_sub hl [1, 2, 0] rfl) h
    · intro H locs ls hP hD hS hl
      refine lv_iconst (v := 0) hx hb d_M_rescale_249 (by decide) ?_
      refine lv_istore_n (lv' := [(1, .int 0), (0, .ref q0)]) hx hb d_M_rescale_250 rfl hl (by decide) rfl (fun ls hl => ?_)
      exact L251 vq0_rowScale vq0_columnScale u164.1 u164.2 vq0_sc 0 H locs ls hP hD hS (lv_sub hl [1, 0] rfl) h
  have L79 : ∀ (vq0_rowScale : Nat → UInt64) (vq0_columnScale : Nat → UInt64) (vq0_sa : Nat → UInt64) (vq0_sb : Nat → UInt64) (vq0_sc : Nat → UInt64) (x1 : Int32), ∀ (H : Heap) (locs : List Loc) (ls : Array Slot), va_P D CL (w_M_rescale T q0 q0_a q0_b q0_c q0_rowScale q0_columnScale q0_sa q0_sb q0_sc q0_x q0_s q0_y q0_p q0_d q0_h q0_f q0_mm q0_low q0_dd q0_r q0_big q0_dt q0_dx q0_t q0_cost q0_rowScaleNow q0_columnScaleNow q0_basic q0_text q0_turned q0_na q0_nb q0_nc vq0_m vq0_n vq0_length vq0_where vq0_effort vq0_thrown vq0_at vq0_scaled vq0_solved vq0_second vq0_nm vq0_nn vq0_number vq0_bad vq0_a vq0_b vq0_c vq0_rowScale vq0_columnScale vq0_sa vq0_sb vq0_sc) H → va_D A (w_M_rescale T q0 q0_a q0_b q0_c q0_rowScale q0_columnScale q0_sa q0_sb q0_sc q0_x q0_s q0_y q0_p q0_d q0_h q0_f q0_mm q0_low q0_dd q0_r q0_big q0_dt q0_dx q0_t q0_cost q0_rowScaleNow q0_columnScaleNow q0_basic q0_text q0_turned q0_na q0_nb q0_nc vq0_m vq0_n vq0_length vq0_where vq0_effort vq0_thrown vq0_at vq0_scaled vq0_solved vq0_second vq0_nm vq0_nn vq0_number vq0_bad vq0_a vq0_b vq0_c vq0_rowScale vq0_columnScale vq0_sa vq0_sb vq0_sc) → va_S A s.heap H locs → lv_has ls 5 [(0, .ref q0), (1, .int x1)] → s_M_rescale_L79 vq0_m vq0_n vq0_length vq0_where vq0_effort vq0_thrown vq0_at vq0_scaled vq0_solved vq0_second vq0_nm vq0_nn vq0_number vq0_bad vq0_a vq0_b vq0_c vq0_rowScale vq0_columnScale vq0_sa vq0_sb vq0_sc x1 = some rm → W p l e (rmk 1 25) s m args below meth c H locs 0 0 Q (F0 m 79 ls []) := by
    intro vq0_rowScale vq0_columnScale vq0_sa vq0_sb vq0_sc x1 H locs ls hP hD hS hl h
    unfold s_M_rescale_L79 at h
    obtain ⟨u79, hu79, h⟩ := bi_some h
    refine loopO_W (Wh := fun (st : (Nat → UInt64) × Int32) => ∀ (H : Heap) (locs : List Loc) (ls : Array Slot), va_P D CL (w_M_rescale T q0 q0_a q0_b q0_c q0_rowScale q0_columnScale q0_sa q0_sb q0_sc q0_x q0_s q0_y q0_p q0_d q0_h q0_f q0_mm q0_low q0_dd q0_r q0_big q0_dt q0_dx q0_t q0_cost q0_rowScaleNow q0_columnScaleNow q0_basic q0_text q0_turned q0_na q0_nb q0_nc vq0_m vq0_n vq0_length vq0_where vq0_effort vq0_thrown vq0_at vq0_scaled vq0_solved vq0_second vq0_nm vq0_nn vq0_number vq0_bad vq0_a vq0_b vq0_c vq0_rowScale st.1 vq0_sa vq0_sb vq0_sc) H → va_D A (w_M_rescale T q0 q0_a q0_b q0_c q0_rowScale q0_columnScale q0_sa q0_sb q0_sc q0_x q0_s q0_y q0_p q0_d q0_h q0_f q0_mm q0_low q0_dd q0_r q0_big q0_dt q0_dx q0_t q0_cost q0_rowScaleNow q0_columnScaleNow q0_basic q0_text q0_turned q0_na q0_nb q0_nc vq0_m vq0_n vq0_length vq0_where vq0_effort vq0_thrown vq0_at vq0_scaled vq0_solved vq0_second vq0_nm vq0_nn vq0_number vq0_bad vq0_a vq0_b vq0_c vq0_rowScale st.1 vq0_sa vq0_sb vq0_sc) → va_S A s.heap H locs → lv_has ls 5 [(0, .ref q0), (1, .int st.2)] → W p l e (rmk 1 25) s m args below meth c H locs 0 0 Q (F0 m 79 ls [])) (Wx := fun (e1 : (Nat → UInt64)) => ∀ (H : Heap) (locs : List Loc) (ls : Array Slot), va_P D CL (w_M_rescale T q0 q0_a q0_b q0_c q0_rowScale q0_columnScale q0_sa q0_sb q0_sc q0_x q0_s q0_y q0_p q0_d q0_h q0_f q0_mm q0_low q0_dd q0_r q0_big q0_dt q0_dx q0_t q0_cost q0_rowScaleNow q0_columnScaleNow q0_basic q0_text q0_turned q0_na q0_nb q0_nc vq0_m vq0_n vq0_length vq0_where vq0_effort vq0_thrown vq0_at vq0_scaled vq0_solved vq0_second vq0_nm vq0_nn vq0_number vq0_bad vq0_a vq0_b vq0_c vq0_rowScale e1 vq0_sa vq0_sb vq0_sc) H → va_D A (w_M_rescale T q0 q0_a q0_b q0_c q0_rowScale q0_columnScale q0_sa q0_sb q0_sc q0_x q0_s q0_y q0_p q0_d q0_h q0_f q0_mm q0_low q0_dd q0_r q0_big q0_dt q0_dx q0_t q0_cost q0_rowScaleNow q0_columnScaleNow q0_basic q0_text q0_turned q0_na q0_nb q0_nc vq0_m vq0_n vq0_length vq0_where vq0_effort vq0_thrown vq0_at vq0_scaled vq0_solved vq0_second vq0_nm vq0_nn vq0_number vq0_bad vq0_a vq0_b vq0_c vq0_rowScale e1 vq0_sa vq0_sb vq0_sc) → va_S A s.heap H locs → lv_has ls 5 [(0, .ref q0)] → W p l e (rmk 1 25) s m args below meth c H locs 0 0 Q (F0 m 162 ls [])) ?_ 2000 _ u79 hu79 ?_ H locs ls hP hD hS hl
    · intro st rb79 h kc79 kx79 H locs ls hP hD hS hl
      obtain ⟨vq0_columnScale, x1⟩ := st
      have h : s_M_rescale_B79 vq0_m vq0_n vq0_length vq0_where vq0_effort vq0_thrown vq0_at vq0_scaled vq0_solved vq0_second vq0_nm vq0_nn vq0_number vq0_bad vq0_a vq0_b vq0_c vq0_rowScale vq0_sa vq0_sb vq0_sc vq0_columnScale x1 = some rb79 := h
      have L92 : ∀ (vq0_columnScale : Nat → UInt64) (x1 : Int32) (x2 : UInt64) (x4 : Int32), ∀ (H : Heap) (locs : List Loc) (ls : Array Slot), va_P D CL (w_M_rescale T q0 q0_a q0_b q0_c q0_rowScale q0_columnScale q0_sa q0_sb q0_sc q0_x q0_s q0_y q0_p q0_d q0_h q0_f q0_mm q0_low q0_dd q0_r q0_big q0_dt q0_dx q0_t q0_cost q0_rowScaleNow q0_columnScaleNow q0_basic q0_text q0_turned q0_na q0_nb q0_nc vq0_m vq0_n vq0_length vq0_where vq0_effort vq0_thrown vq0_at vq0_scaled vq0_solved vq0_second vq0_nm vq0_nn vq0_number vq0_bad vq0_a vq0_b vq0_c vq0_rowScale vq0_columnScale vq0_sa vq0_sb vq0_sc) H → va_D A (w_M_rescale T q0 q0_a q0_b q0_c q0_rowScale q0_columnScale q0_sa q0_sb q0_sc q0_x q0_s q0_y q0_p q0_d q0_h q0_f q0_mm q0_low q0_dd q0_r q0_big q0_dt q0_dx q0_t q0_cost q0_rowScaleNow q0_columnScaleNow q0_basic q0_text q0_turned q0_na q0_nb q0_nc vq0_m vq0_n vq0_length vq0_where vq0_effort vq0_thrown vq0_at vq0_scaled vq0_solved vq0_second vq0_nm vq0_nn vq0_number vq0_bad vq0_a vq0_b vq0_c vq0_rowScale vq0_columnScale vq0_sa vq0_sb vq0_sc) → va_S A s.heap H locs → lv_has ls 5 [(0, .ref q0), (1, .int x1), (2, .double x2), (4, .int x4)] → s_M_rescale_L92 vq0_m vq0_n vq0_length vq0_where vq0_effort vq0_thrown vq0_at vq0_scaled vq0_solved vq0_second vq0_nm vq0_nn vq0_number vq0_bad vq0_a vq0_b vq0_c vq0_rowScale vq0_columnScale vq0_sa vq0_sb vq0_sc x1 x2 x4 = some rb79 → W p l e (rmk 1 25) s m args below meth c H locs 0 0 Q (F0 m 92 ls []) := by
        intro vq0_columnScale x1 x2 x4 H locs ls hP hD hS hl h
        unfold s_M_rescale_L92 at h
        obtain ⟨u92, hu92, h⟩ := bi_some h
        refine loopO_W (Wh := fun (st : UInt64 × Int32) => ∀ (H : Heap) (locs : List Loc) (ls : Array Slot), va_P D CL (w_M_rescale T q0 q0_a q0_b q0_c q0_rowScale q0_columnScale q0_sa q0_sb q0_sc q0_x q0_s q0_y q0_p q0_d q0_h q0_f q0_mm q0_low q0_dd q0_r q0_big q0_dt q0_dx q0_t q0_cost q0_rowScaleNow q0_columnScaleNow q0_basic q0_text q0_turned q0_na q0_nb q0_nc vq0_m vq0_n vq0_length vq0_where vq0_effort vq0_thrown vq0_at vq0_scaled vq0_solved vq0_second vq0_nm vq0_nn vq0_number vq0_bad vq0_a vq0_b vq0_c vq0_rowScale vq0_columnScale vq0_sa vq0_sb vq0_sc) H → va_D A (w_M_rescale T q0 q0_a q0_b q0_c q0_rowScale q0_columnScale q0_sa q0_sb q0_sc q0_x q0_s q0_y q0_p q0_d q0_h q0_f q0_mm q0_low q0_dd q0_r q0_big q0_dt q0_dx q0_t q0_cost q0_rowScaleNow q0_columnScaleNow q0_basic q0_text q0_turned q0_na q0_nb q0_nc vq0_m vq0_n vq0_length vq0_where vq0_effort vq0_thrown vq0_at vq0_scaled vq0_solved vq0_second vq0_nm vq0_nn vq0_number vq0_bad vq0_a vq0_b vq0_c vq0_rowScale vq0_columnScale vq0_sa vq0_sb vq0_sc) → va_S A s.heap H locs → lv_has ls 5 [(0, .ref q0), (1, .int x1), (2, .double st.1), (4, .int st.2)] → W p l e (rmk 1 25) s m args below meth c H locs 0 0 Q (F0 m 92 ls [])) (Wx := fun (e1 : UInt64) => ∀ (H : Heap) (locs : List Loc) (ls : Array Slot), va_P D CL (w_M_rescale T q0 q0_a q0_b q0_c q0_rowScale q0_columnScale q0_sa q0_sb q0_sc q0_x q0_s q0_y q0_p q0_d q0_h q0_f q0_mm q0_low q0_dd q0_r q0_big q0_dt q0_dx q0_t q0_cost q0_rowScaleNow q0_columnScaleNow q0_basic q0_text q0_turned q0_na q0_nb q0_nc vq0_m vq0_n vq0_length vq0_where vq0_effort vq0_thrown vq0_at vq0_scaled vq0_solved vq0_second vq0_nm vq0_nn vq0_number vq0_bad vq0_a vq0_b vq0_c vq0_rowScale vq0_columnScale vq0_sa vq0_sb vq0_sc) H → va_D A (w_M_rescale T q0 q0_a q0_b q0_c q0_rowScale q0_columnScale q0_sa q0_sb q0_sc q0_x q0_s q0_y q0_p q0_d q0_h q0_f q0_mm q0_low q0_dd q0_r q0_big q0_dt q0_dx q0_t q0_cost q0_rowScaleNow q0_columnScaleNow q0_basic q0_text q0_turned q0_na q0_nb q0_nc vq0_m vq0_n vq0_length vq0_where vq0_effort vq0_thrown vq0_at vq0_scaled vq0_solved vq0_second vq0_nm vq0_nn vq0_number vq0_bad vq0_a vq0_b vq0_c vq0_rowScale vq0_columnScale vq0_sa vq0_sb vq0_sc) → va_S A s.heap H locs → lv_has ls 5 [(0, .ref q0), (1, .int x1), (2, .double e1)] → W p l e (rmk 1 25) s m args below meth c H locs 0 0 Q (F0 m 135 ls [])) ?_ 2000 _ u92 hu92 ?_ H locs ls hP hD hS hl
        · intro st rb92 h kc92 kx92 H locs ls hP hD hS hl
          obtain ⟨x2, x4⟩ := st
          have h : s_M_rescale_B92 vq0_m vq0_n vq0_length vq0_where vq0_effort vq0_thrown vq0_at vq0_scaled vq0_solved vq0_second vq0_nm vq0_nn vq0_number vq0_bad vq0_a vq0_b vq0_c vq0_rowScale vq0_columnScale vq0_sa vq0_sb vq0_sc x1 x2 x4 = some rb92 := h
          unfold s_M_rescale_B92 at h
          refine lv_iload hx hb d_M_rescale_92 (lv_at hl 3 rfl) ?_
          refine lv_aload_n hx hb d_M_rescale_94 rfl (lv_at hl 0 rfl) ?_
          refine va_get (D := D) (ci := 8) (v := .int vq0_m) (C := "ConeForgeModel") (T := FM) (N := 46) hx hb hts iM hown hK hP 0 rfl rfl 29 (by decide) (hts _ (bgc bw713)) (fun _ h9 => h9) rfl d_M_rescale_95 ?_
          refine lv_icmp_ge (tgt := 135) hx hb d_M_rescale_98 (by decide) (fun c18 => ?_) (fun c18 => ?_)
          · have h := it_t c18 h
            exact kx92 _ (Option.some.inj h).symm H locs ls hP hD hS (lv_sub hl [0, 1, 2] rfl)
          · have h := it_f c18 h
            refine lv_dload_n hx hb d_M_rescale_101 rfl (lv_at hl 2 rfl) ?_
            refine lv_aload_n hx hb d_M_rescale_102 rfl (lv_at hl 0 rfl) ?_
            refine va_get (D := D) (ci := 8) (v := .ref q0_rowScale) (C := "ConeForgeModel") (T := FM) (N := 46) hx hb hts iM hown hK hP 0 rfl rfl 3 (by decide) (hts _ (bgc bw687)) (fun _ h9 => h9) rfl d_M_rescale_103 ?_
            refine lv_iload hx hb d_M_rescale_106 (lv_at hl 3 rfl) ?_
            obtain ⟨g19, h⟩ := gd_some h
            refine va_dald hx hb hK hP 4 0 rfl rfl (inb_in g19) d_M_rescale_108 ?_
            refine lv_aload_n hx hb d_M_rescale_109 rfl (lv_at hl 0 rfl) ?_
            refine va_get (D := D) (ci := 8) (v := .ref q0_a) (C := "ConeForgeModel") (T := FM) (N := 46) hx hb hts iM hown hK hP 0 rfl rfl 0 (by decide) (hts _ (bgc bw684)) (fun _ h9 => h9) rfl d_M_rescale_110 ?_
            refine lv_bipush (v := 8) hx hb d_M_rescale_113 (by decide) ?_
            refine lv_iload hx hb d_M_rescale_115 (lv_at hl 3 rfl) ?_
            refine lv_imul hx hb d_M_rescale_117 ?_
            refine lv_iload_n hx hb d_M_rescale_118 rfl (lv_at hl 1 rfl) ?_
            refine lv_iadd hx hb d_M_rescale_119 ?_
            obtain ⟨g20, h⟩ := gd_some h
            refine va_dald hx hb hK hP 1 0 rfl rfl (inb_in g20) d_M_rescale_120 ?_
            obtain ⟨g21, h⟩ := gd_some h
            refine lv_dmul hx hb d_M_rescale_121 (isn_n g21) ?_
            obtain ⟨u22, hu22, h⟩ := bi_some h
            refine kD (v := u22) (wc := (w_M_abs T  )) (wc' := (w_M_abs T  )) (runOS (As := [.double (FP.dmul (vq0_rowScale x4.toNatClampNeg) (vq0_a ((8 * x4) + x1).toNatClampNeg))]) (rest := [.double x2]) ((c_M_abs l D T   (FP.dmul (vq0_rowScale x4.toNatClampNeg) (vq0_a ((8 * x4) + x1).toNatClampNeg)) u22 hu22) H.size) ⟨hx, hb, hml, hown, hts⟩ (cwOS bw844 bw845 bw105 bw846 dd_M_abs hts ⟨Nat.le_of_ble_eq_true rfl, Nat.le_of_ble_eq_true rfl⟩)  hNW hK hP hD [] rfl (by decide) rfl hl.1 rfl (lv_room (Nat.le_of_ble_eq_true rfl)) d_M_rescale_122 ⟨Nat.le_of_ble_eq_true rfl, Nat.le_of_ble_eq_true rfl⟩) hP hD hS hA [] rfl rfl (fun H locs hP hD hS => ?_)
            have hP : va_P D CL (w_M_rescale T q0 q0_a q0_b q0_c q0_rowScale q0_columnScale q0_sa q0_sb q0_sc q0_x q0_s q0_y q0_p q0_d q0_h q0_f q0_mm q0_low q0_dd q0_r q0_big q0_dt q0_dx q0_t q0_cost q0_rowScaleNow q0_columnScaleNow q0_basic q0_text q0_turned q0_na q0_nb q0_nc vq0_m vq0_n vq0_length vq0_where vq0_effort vq0_thrown vq0_at vq0_scaled vq0_solved vq0_second vq0_nm vq0_nn vq0_number vq0_bad vq0_a vq0_b vq0_c vq0_rowScale vq0_columnScale vq0_sa vq0_sb vq0_sc) H := hP
            have hD : va_D A (w_M_rescale T q0 q0_a q0_b q0_c q0_rowScale q0_columnScale q0_sa q0_sb q0_sc q0_x q0_s q0_y q0_p q0_d q0_h q0_f q0_mm q0_low q0_dd q0_r q0_big q0_dt q0_dx q0_t q0_cost q0_rowScaleNow q0_columnScaleNow q0_basic q0_text q0_turned q0_na q0_nb q0_nc vq0_m vq0_n vq0_length vq0_where vq0_effort vq0_thrown vq0_at vq0_scaled vq0_solved vq0_second vq0_nm vq0_nn vq0_number vq0_bad vq0_a vq0_b vq0_c vq0_rowScale vq0_columnScale vq0_sa vq0_sb vq0_sc) := hD
            obtain ⟨u23, hu23, h⟩ := bi_some h
            refine kD (v := u23) (wc := (w_M_max T  )) (wc' := (w_M_max T  )) (runOS (As := [.double x2, .double u22]) (rest := []) ((c_M_max l D T   x2 u22 u23 hu23) H.size) ⟨hx, hb, hml, hown, hts⟩ (cwOS bw847 bw848 bw105 bw849 dd_M_max hts ⟨Nat.le_of_ble_eq_true rfl, Nat.le_of_ble_eq_true rfl⟩)  hNW hK hP hD [] rfl (by decide) rfl hl.1 rfl (lv_room (Nat.le_of_ble_eq_true rfl)) d_M_rescale_125 ⟨Nat.le_of_ble_eq_true rfl, Nat.le_of_ble_eq_true rfl⟩) hP hD hS hA [] rfl rfl (fun H locs hP hD hS => ?_)
            have hP : va_P D CL (w_M_rescale T q0 q0_a q0_b q0_c q0_rowScale q0_columnScale q0_sa q0_sb q0_sc q0_x q0_s q0_y q0_p q0_d q0_h q0_f q0_mm q0_low q0_dd q0_r q0_big q0_dt q0_dx q0_t q0_cost q0_rowScaleNow q0_columnScaleNow q0_basic q0_text q0_turned q0_na q0_nb q0_nc vq0_m vq0_n vq0_length vq0_where vq0_effort vq0_thrown vq0_at vq0_scaled vq0_solved vq0_second vq0_nm vq0_nn vq0_number vq0_bad vq0_a vq0_b vq0_c vq0_rowScale vq0_columnScale vq0_sa vq0_sb vq0_sc) H := hP
            have hD : va_D A (w_M_rescale T q0 q0_a q0_b q0_c q0_rowScale q0_columnScale q0_sa q0_sb q0_sc q0_x q0_s q0_y q0_p q0_d q0_h q0_f q0_mm q0_low q0_dd q0_r q0_big q0_dt q0_dx q0_t q0_cost q0_rowScaleNow q0_columnScaleNow q0_basic q0_text q0_turned q0_na q0_nb q0_nc vq0_m vq0_n vq0_length vq0_where vq0_effort vq0_thrown vq0_at vq0_scaled vq0_solved vq0_second vq0_nm vq0_nn vq0_number vq0_bad vq0_a vq0_b vq0_c vq0_rowScale vq0_columnScale vq0_sa vq0_sb vq0_sc) := hD
            refine lv_dstore_n (lv' := [(2, .double u23), (0, .ref q0), (1, .int x1), (4, .int x4)]) hx hb d_M_rescale_128 rfl hl (by decide) rfl (fun ls hl => ?_)
            refine lv_iinc (v := x4 + 1) (lv' := [(4, .int (x4 + 1)), (2, .double u23), (0, .ref q0), (1, .int x1)]) hx hb d_M_rescale_129 hl (k := 3) rfl rfl (by decide) rfl (fun ls hl => ?_)
            refine lv_goto (tgt := 92) hx hb d_M_rescale_132 (by decide) ?_
            exact kc92 _ (Option.some.inj h).symm H locs ls hP hD hS (lv_sub hl [2, 3, 1, 0] rfl)
        · intro H locs ls hP hD hS hl
          refine lv_aload_n hx hb d_M_rescale_135 rfl (lv_at hl 0 rfl) ?_
          refine va_get (D := D) (ci := 8) (v := .ref q0_columnScale) (C := "ConeForgeModel") (T := FM) (N := 46) hx hb hts iM hown hK hP 0 rfl rfl 4 (by decide) (hts _ (bgc bw688)) (fun _ h9 => h9) rfl d_M_rescale_136 ?_
          refine lv_iload_n hx hb d_M_rescale_139 rfl (lv_at hl 1 rfl) ?_
          refine lv_aload_n hx hb d_M_rescale_140 rfl (lv_at hl 0 rfl) ?_
          refine va_get (D := D) (ci := 8) (v := .int vq0_scaled) (C := "ConeForgeModel") (T := FM) (N := 46) hx hb hts iM hown hK hP 0 rfl rfl 36 (by decide) (hts _ (bgc bw720)) (fun _ h9 => h9) rfl d_M_rescale_141 ?_
          refine lv_if_eq (tgt := 154) hx hb d_M_rescale_144 (by decide) (fun c24 => ?_) (fun c24 => ?_)
          · have h := it_t c24 h
            refine lv_dconst1 hx hb d_M_rescale_154 ?_
            obtain ⟨g25, h⟩ := gd_some h
            refine va_dast hx hb hK hP hD hS 5 0 rfl rfl (inb_in g25) d_M_rescale_155 (fun H locs hP hD hS => ?_)
            have hP : va_P D CL (w_M_rescale T q0 q0_a q0_b q0_c q0_rowScale q0_columnScale q0_sa q0_sb q0_sc q0_x q0_s q0_y q0_p q0_d q0_h q0_f q0_mm q0_low q0_dd q0_r q0_big q0_dt q0_dx q0_t q0_cost q0_rowScaleNow q0_columnScaleNow q0_basic q0_text q0_turned q0_na q0_nb q0_nc vq0_m vq0_n vq0_length vq0_where vq0_effort vq0_thrown vq0_at vq0_scaled vq0_solved vq0_second vq0_nm vq0_nn vq0_number vq0_bad vq0_a vq0_b vq0_c vq0_rowScale (vf_upd vq0_columnScale x1.toNatClampNeg FP.dconst1) vq0_sa vq0_sb vq0_sc) H := hP
            have hD : va_D A (w_M_rescale T q0 q0_a q0_b q0_c q0_rowScale q0_columnScale q0_sa q0_sb q0_sc q0_x q0_s q0_y q0_p q0_d q0_h q0_f q0_mm q0_low q0_dd q0_r q0_big q0_dt q0_dx q0_t q0_cost q0_rowScaleNow q0_columnScaleNow q0_basic q0_text q0_turned q0_na q0_nb q0_nc vq0_m vq0_n vq0_length vq0_where vq0_effort vq0_thrown vq0_at vq0_scaled vq0_solved vq0_second vq0_nm vq0_nn vq0_number vq0_bad vq0_a vq0_b vq0_c vq0_rowScale (vf_upd vq0_columnScale x1.toNatClampNeg FP.dconst1) vq0_sa vq0_sb vq0_sc) := hD
            refine lv_iinc (v := x1 + 1) (lv' := [(1, .int (x1 + 1)), (0, .ref q0), (2, .double u92)]) hx hb d_M_rescale_156 hl (k := 1) rfl rfl (by decide) rfl (fun ls hl => ?_)
            refine lv_goto (tgt := 79) hx hb d_M_rescale_159 (by decide) ?_
            exact kc79 _ (Option.some.inj h).symm H locs ls hP hD hS (lv_sub hl [1, 0] rfl)
          · have h := it_f c24 h
            refine lv_dload_n hx hb d_M_rescale_147 rfl (lv_at hl 2 rfl) ?_
            obtain ⟨u26, hu26, h⟩ := bi_some h
            refine kD (v := u26) (wc := (w_M_power T  )) (wc' := (w_M_power T  )) (runOS (As := [.double u92]) (rest := [.int x1, .ref q0_columnScale]) ((c_M_power l D T   u92 u26 hu26) H.size) ⟨hx, hb, hml, hown, hts⟩ (cwOS bw850 bw851 bw105 bw852 dd_M_power hts ⟨Nat.le_of_ble_eq_true rfl, Nat.le_of_ble_eq_true rfl⟩)  hNW hK hP hD [] rfl (by decide) rfl hl.1 rfl (lv_room (Nat.le_of_ble_eq_true rfl)) d_M_rescale_148 ⟨Nat.le_of_ble_eq_true rfl, Nat.le_of_ble_eq_true rfl⟩) hP hD hS hA [] rfl rfl (fun H locs hP hD hS => ?_)
            have hP : va_P D CL (w_M_rescale T q0 q0_a q0_b q0_c q0_rowScale q0_columnScale q0_sa q0_sb q0_sc q0_x q0_s q0_y q0_p q0_d q0_h q0_f q0_mm q0_low q0_dd q0_r q0_big q0_dt q0_dx q0_t q0_cost q0_rowScaleNow q0_columnScaleNow q0_basic q0_text q0_turned q0_na q0_nb q0_nc vq0_m vq0_n vq0_length vq0_where vq0_effort vq0_thrown vq0_at vq0_scaled vq0_solved vq0_second vq0_nm vq0_nn vq0_number vq0_bad vq0_a vq0_b vq0_c vq0_rowScale vq0_columnScale vq0_sa vq0_sb vq0_sc) H := hP
            have hD : va_D A (w_M_rescale T q0 q0_a q0_b q0_c q0_rowScale q0_columnScale q0_sa q0_sb q0_sc q0_x q0_s q0_y q0_p q0_d q0_h q0_f q0_mm q0_low q0_dd q0_r q0_big q0_dt q0_dx q0_t q0_cost q0_rowScaleNow q0_columnScaleNow q0_basic q0_text q0_turned q0_na q0_nb q0_nc vq0_m vq0_n vq0_length vq0_where vq0_effort vq0_thrown vq0_at vq0_scaled vq0_solved vq0_second vq0_nm vq0_nn vq0_number vq0_bad vq0_a vq0_b vq0_c vq0_rowScale vq0_columnScale vq0_sa vq0_sb vq0_sc) := hD
            refine lv_goto (tgt := 155) hx hb d_M_rescale_151 (by decide) ?_
            obtain ⟨g27, h⟩ := gd_some h
            refine va_dast hx hb hK hP hD hS 5 0 rfl rfl (inb_in g27) d_M_rescale_155 (fun H locs hP hD hS => ?_)
            have hP : va_P D CL (w_M_rescale T q0 q0_a q0_b q0_c q0_rowScale q0_columnScale q0_sa q0_sb q0_sc q0_x q0_s q0_y q0_p q0_d q0_h q0_f q0_mm q0_low q0_dd q0_r q0_big q0_dt q0_dx q0_t q0_cost q0_rowScaleNow q0_columnScaleNow q0_basic q0_text q0_turned q0_na q0_nb q0_nc vq0_m vq0_n vq0_length vq0_where vq0_effort vq0_thrown vq0_at vq0_scaled vq0_solved vq0_second vq0_nm vq0_nn vq0_number vq0_bad vq0_a vq0_b vq0_c vq0_rowScale (vf_upd vq0_columnScale x1.toNatClampNeg u26) vq0_sa vq0_sb vq0_sc) H := hP
            have hD : va_D A (w_M_rescale T q0 q0_a q0_b q0_c q0_rowScale q0_columnScale q0_sa q0_sb q0_sc q0_x q0_s q0_y q0_p q0_d q0_h q0_f q0_mm q0_low q0_dd q0_r q0_big q0_dt q0_dx q0_t q0_cost q0_rowScaleNow q0_columnScaleNow q0_basic q0_text q0_turned q0_na q0_nb q0_nc vq0_m vq0_n vq0_length vq0_where vq0_effort vq0_thrown vq0_at vq0_scaled vq0_solved vq0_second vq0_nm vq0_nn vq0_number vq0_bad vq0_a vq0_b vq0_c vq0_rowScale (vf_upd vq0_columnScale x1.toNatClampNeg u26) vq0_sa vq0_sb vq0_sc) := hD
            refine lv_iinc (v := x1 + 1) (lv' := [(1, .int (x1 + 1)), (0, .ref q0), (2, .double u92)]) hx hb d_M_rescale_156 hl (k := 1) rfl rfl (by decide) rfl (fun ls hl => ?_)
            refine lv_goto (tgt := 79) hx hb d_M_rescale_159 (by decide) ?_
            exact kc79 _ (Option.some.inj h).symm H locs ls hP hD hS (lv_sub hl [1, 0] rfl)
      unfold s_M_rescale_B79 at h
      refine lv_iload_n hx hb d_M_rescale_79 rfl (lv_at hl 1 rfl) ?_
      refine lv_aload_n hx hb d_M_rescale_80 rfl (lv_at hl 0 rfl) ?_
      refine va_get (D := D) (ci := 8) (v := .int vq0_n) (C := "ConeForgeModel") (T := FM) (N := 46) hx hb hts iM hown hK hP 0 rfl rfl 30 (by decide) (hts _ (bgc bw714)) (fun _ h9 => h9) rfl d_M_rescale_81 ?_
      refine lv_icmp_ge (tgt := 162) hx hb d_M_rescale_84 (by decide) (fun c28 => ?_) (fun c28 => ?_)
      · have h := it_t c28 h
        exact kx79 _ (Option.some.inj h).symm H locs ls hP hD hS (lv_sub hl [0] rfl)
      · have h := it_f c28 h
        refine lv_dconst0 hx hb d_M_rescale_87 ?_
        refine lv_dstore_n (lv' := [(2, .double FP.dconst0), (0, .ref q0), (1, .int x1)]) hx hb d_M_rescale_88 rfl hl (by decide) rfl (fun ls hl => ?_)
        refine lv_iconst (v := 0) hx hb d_M_rescale_89 (by decide) ?_
        refine lv_istore (lv' := [(4, .int 0), (2, .double FP.dconst0), (0, .ref q0), (1, .int x1)]) hx hb d_M_rescale_90 hl (by decide) rfl (fun ls hl => ?_)
        exact L92 vq0_columnScale x1 FP.dconst0 0 H locs ls hP hD hS (lv_sub hl [2, 3, 1, 0] rfl) h
    · intro H locs ls hP hD hS hl
      refine lv_iconst (v := 0) hx hb d_M_rescale_162 (by decide) ?_
      refine lv_istore_n (lv' := [(1, .int 0), (0, .ref q0)]) hx hb d_M_rescale_163 rfl hl (by decide) rfl (fun ls hl => ?_)
      exact L164 vq0_rowScale u79 vq0_sa vq0_sb vq0_sc 0 H locs ls hP hD hS (lv_sub hl [1, 0] rfl) h
  have L2 : ∀ (vq0_rowScale : Nat → UInt64) (vq0_columnScale : Nat → UInt64) (vq0_sa : Nat → UInt64) (vq0_sb : Nat → UInt64) (vq0_sc : Nat → UInt64) (x1 : Int32), ∀ (H : Heap) (locs : List Loc) (ls : Array Slot), va_P D CL (w_M_rescale T q0 q0_a q0_b q0_c q0_rowScale q0_columnScale q0_sa q0_sb q0_sc q0_x q0_s q0_y q0_p q0_d q0_h q0_f q0_mm q0_low q0_dd q0_r q0_big q0_dt q0_dx q0_t q0_cost q0_rowScaleNow q0_columnScaleNow q0_basic q0_text q0_turned q0_na q0_nb q0_nc vq0_m vq0_n vq0_length vq0_where vq0_effort vq0_thrown vq0_at vq0_scaled vq0_solved vq0_second vq0_nm vq0_nn vq0_number vq0_bad vq0_a vq0_b vq0_c vq0_rowScale vq0_columnScale vq0_sa vq0_sb vq0_sc) H → va_D A (w_M_rescale T q0 q0_a q0_b q0_c q0_rowScale q0_columnScale q0_sa q0_sb q0_sc q0_x q0_s q0_y q0_p q0_d q0_h q0_f q0_mm q0_low q0_dd q0_r q0_big q0_dt q0_dx q0_t q0_cost q0_rowScaleNow q0_columnScaleNow q0_basic q0_text q0_turned q0_na q0_nb q0_nc vq0_m vq0_n vq0_length vq0_where vq0_effort vq0_thrown vq0_at vq0_scaled vq0_solved vq0_second vq0_nm vq0_nn vq0_number vq0_bad vq0_a vq0_b vq0_c vq0_rowScale vq0_columnScale vq0_sa vq0_sb vq0_sc) → va_S A s.heap H locs → lv_has ls 5 [(0, .ref q0), (1, .int x1)] → s_M_rescale_L2 vq0_m vq0_n vq0_length vq0_where vq0_effort vq0_thrown vq0_at vq0_scaled vq0_solved vq0_second vq0_nm vq0_nn vq0_number vq0_bad vq0_a vq0_b vq0_c vq0_rowScale vq0_columnScale vq0_sa vq0_sb vq0_sc x1 = some rm → W p l e (rmk 1 25) s m args below meth c H locs 0 0 Q (F0 m 2 ls []) := by
    intro vq0_rowScale vq0_columnScale vq0_sa vq0_sb vq0_sc x1 H locs ls hP hD hS hl h
    unfold s_M_rescale_L2 at h
    obtain ⟨u2, hu2, h⟩ := bi_some h
    refine loopO_W (Wh := fun (st : (Nat → UInt64) × Int32) => ∀ (H : Heap) (locs : List Loc) (ls : Array Slot), va_P D CL (w_M_rescale T q0 q0_a q0_b q0_c q0_rowScale q0_columnScale q0_sa q0_sb q0_sc q0_x q0_s q0_y q0_p q0_d q0_h q0_f q0_mm q0_low q0_dd q0_r q0_big q0_dt q0_dx q0_t q0_cost q0_rowScaleNow q0_columnScaleNow q0_basic q0_text q0_turned q0_na q0_nb q0_nc vq0_m vq0_n vq0_length vq0_where vq0_effort vq0_thrown vq0_at vq0_scaled vq0_solved vq0_second vq0_nm vq0_nn vq0_number vq0_bad vq0_a vq0_b vq0_c st.1 vq0_columnScale vq0_sa vq0_sb vq0_sc) H → va_D A (w_M_rescale T q0 q0_a q0_b q0_c q0_rowScale q0_columnScale q0_sa q0_sb q0_sc q0_x q0_s q0_y q0_p q0_d q0_h q0_f q0_mm q0_low q0_dd q0_r q0_big q0_dt q0_dx q0_t q0_cost q0_rowScaleNow q0_columnScaleNow q0_basic q0_text q0_turned q0_na q0_nb q0_nc vq0_m vq0_n vq0_length vq0_where vq0_effort vq0_thrown vq0_at vq0_scaled vq0_solved vq0_second vq0_nm vq0_nn vq0_number vq0_bad vq0_a vq0_b vq0_c st.1 vq0_columnScale vq0_sa vq0_sb vq0_sc) → va_S A s.heap H locs → lv_has ls 5 [(0, .ref q0), (1, .int st.2)] → W p l e (rmk 1 25) s m args below meth c H locs 0 0 Q (F0 m 2 ls [])) (Wx := fun (e1 : (Nat → UInt64)) => ∀ (H : Heap) (locs : List Loc) (ls : Array Slot), va_P D CL (w_M_rescale T q0 q0_a q0_b q0_c q0_rowScale q0_columnScale q0_sa q0_sb q0_sc q0_x q0_s q0_y q0_p q0_d q0_h q0_f q0_mm q0_low q0_dd q0_r q0_big q0_dt q0_dx q0_t q0_cost q0_rowScaleNow q0_columnScaleNow q0_basic q0_text q0_turned q0_na q0_nb q0_nc vq0_m vq0_n vq0_length vq0_where vq0_effort vq0_thrown vq0_at vq0_scaled vq0_solved vq0_second vq0_nm vq0_nn vq0_number vq0_bad vq0_a vq0_b vq0_c e1 vq0_columnScale vq0_sa vq0_sb vq0_sc) H → va_D A (w_M_rescale T q0 q0_a q0_b q0_c q0_rowScale q0_columnScale q0_sa q0_sb q0_sc q0_x q0_s q0_y q0_p q0_d q0_h q0_f q0_mm q0_low q0_dd q0_r q0_big q0_dt q0_dx q0_t q0_cost q0_rowScaleNow q0_columnScaleNow q0_basic q0_text q0_turned q0_na q0_nb q0_nc vq0_m vq0_n vq0_length vq0_where vq0_effort vq0_thrown vq0_at vq0_scaled vq0_solved vq0_second vq0_nm vq0_nn vq0_number vq0_bad vq0_a vq0_b vq0_c e1 vq0_columnScale vq0_sa vq0_sb vq0_sc) → va_S A s.heap H locs → lv_has ls 5 [(0, .ref q0)] → W p l e (rmk 1 25) s m args below meth c H locs 0 0 Q (F0 m 77 ls [])) ?_ 2000 _ u2 hu2 ?_ H locs ls hP hD hS hl
    · intro st rb2 h kc2 kx2 H locs ls hP hD hS hl
      obtain ⟨vq0_rowScale, x1⟩ := st
      have h : s_M_rescale_B2 vq0_m vq0_n vq0_length vq0_where vq0_effort vq0_thrown vq0_at vq0_scaled vq0_solved vq0_second vq0_nm vq0_nn vq0_number vq0_bad vq0_a vq0_b vq0_c vq0_columnScale vq0_sa vq0_sb vq0_sc vq0_rowScale x1 = some rb2 := h
      have L15 : ∀ (vq0_rowScale : Nat → UInt64) (x1 : Int32) (x2 : UInt64) (x4 : Int32), ∀ (H : Heap) (locs : List Loc) (ls : Array Slot), va_P D CL (w_M_rescale T q0 q0_a q0_b q0_c q0_rowScale q0_columnScale q0_sa q0_sb q0_sc q0_x q0_s q0_y q0_p q0_d q0_h q0_f q0_mm q0_low q0_dd q0_r q0_big q0_dt q0_dx q0_t q0_cost q0_rowScaleNow q0_columnScaleNow q0_basic q0_text q0_turned q0_na q0_nb q0_nc vq0_m vq0_n vq0_length vq0_where vq0_effort vq0_thrown vq0_at vq0_scaled vq0_solved vq0_second vq0_nm vq0_nn vq0_number vq0_bad vq0_a vq0_b vq0_c vq0_rowScale vq0_columnScale vq0_sa vq0_sb vq0_sc) H → va_D A (w_M_rescale T q0 q0_a q0_b q0_c q0_rowScale q0_columnScale q0_sa q0_sb q0_sc q0_x q0_s q0_y q0_p q0_d q0_h q0_f q0_mm q0_low q0_dd q0_r q0_big q0_dt q0_dx q0_t q0_cost q0_rowScaleNow q0_columnScaleNow q0_basic q0_text q0_turned q0_na q0_nb q0_nc vq0_m vq0_n vq0_length vq0_where vq0_effort vq0_thrown vq0_at vq0_scaled vq0_solved vq0_second vq0_nm vq0_nn vq0_number vq0_bad vq0_a vq0_b vq0_c vq0_rowScale vq0_columnScale vq0_sa vq0_sb vq0_sc) → va_S A s.heap H locs → lv_has ls 5 [(0, .ref q0), (1, .int x1), (2, .double x2), (4, .int x4)] → s_M_rescale_L15 vq0_m vq0_n vq0_length vq0_where vq0_effort vq0_thrown vq0_at vq0_scaled vq0_solved vq0_second vq0_nm vq0_nn vq0_number vq0_bad vq0_a vq0_b vq0_c vq0_rowScale vq0_columnScale vq0_sa vq0_sb vq0_sc x1 x2 x4 = some rb2 → W p l e (rmk 1 25) s m args below meth c H locs 0 0 Q (F0 m 15 ls []) := by
        intro vq0_rowScale x1 x2 x4 H locs ls hP hD hS hl h
        unfold s_M_rescale_L15 at h
        obtain ⟨u15, hu15, h⟩ := bi_some h
        refine loopO_W (Wh := fun (st : UInt64 × Int32) => ∀ (H : Heap) (locs : List Loc) (ls : Array Slot), va_P D CL (w_M_rescale T q0 q0_a q0_b q0_c q0_rowScale q0_columnScale q0_sa q0_sb q0_sc q0_x q0_s q0_y q0_p q0_d q0_h q0_f q0_mm q0_low q0_dd q0_r q0_big q0_dt q0_dx q0_t q0_cost q0_rowScaleNow q0_columnScaleNow q0_basic q0_text q0_turned q0_na q0_nb q0_nc vq0_m vq0_n vq0_length vq0_where vq0_effort vq0_thrown vq0_at vq0_scaled vq0_solved vq0_second vq0_nm vq0_nn vq0_number vq0_bad vq0_a vq0_b vq0_c vq0_rowScale vq0_columnScale vq0_sa vq0_sb vq0_sc) H → va_D A (w_M_rescale T q0 q0_a q0_b q0_c q0_rowScale q0_columnScale q0_sa q0_sb q0_sc q0_x q0_s q0_y q0_p q0_d q0_h q0_f q0_mm q0_low q0_dd q0_r q0_big q0_dt q0_dx q0_t q0_cost q0_rowScaleNow q0_columnScaleNow q0_basic q0_text q0_turned q0_na q0_nb q0_nc vq0_m vq0_n vq0_length vq0_where vq0_effort vq0_thrown vq0_at vq0_scaled vq0_solved vq0_second vq0_nm vq0_nn vq0_number vq0_bad vq0_a vq0_b vq0_c vq0_rowScale vq0_columnScale vq0_sa vq0_sb vq0_sc) → va_S A s.heap H locs → lv_has ls 5 [(0, .ref q0), (1, .int x1), (2, .double st.1), (4, .int st.2)] → W p l e (rmk 1 25) s m args below meth c H locs 0 0 Q (F0 m 15 ls [])) (Wx := fun (e1 : UInt64) => ∀ (H : Heap) (locs : List Loc) (ls : Array Slot), va_P D CL (w_M_rescale T q0 q0_a q0_b q0_c q0_rowScale q0_columnScale q0_sa q0_sb q0_sc q0_x q0_s q0_y q0_p q0_d q0_h q0_f q0_mm q0_low q0_dd q0_r q0_big q0_dt q0_dx q0_t q0_cost q0_rowScaleNow q0_columnScaleNow q0_basic q0_text q0_turned q0_na q0_nb q0_nc vq0_m vq0_n vq0_length vq0_where vq0_effort vq0_thrown vq0_at vq0_scaled vq0_solved vq0_second vq0_nm vq0_nn vq0_number vq0_bad vq0_a vq0_b vq0_c vq0_rowScale vq0_columnScale vq0_sa vq0_sb vq0_sc) H → va_D A (w_M_rescale T q0 q0_a q0_b q0_c q0_rowScale q0_columnScale q0_sa q0_sb q0_sc q0_x q0_s q0_y q0_p q0_d q0_h q0_f q0_mm q0_low q0_dd q0_r q0_big q0_dt q0_dx q0_t q0_cost q0_rowScaleNow q0_columnScaleNow q0_basic q0_text q0_turned q0_na q0_nb q0_nc vq0_m vq0_n vq0_length vq0_where vq0_effort vq0_thrown vq0_at vq0_scaled vq0_solved vq0_second vq0_nm vq0_nn vq0_number vq0_bad vq0_a vq0_b vq0_c vq0_rowScale vq0_columnScale vq0_sa vq0_sb vq0_sc) → va_S A s.heap H locs → lv_has ls 5 [(0, .ref q0), (1, .int x1), (2, .double e1)] → W p l e (rmk 1 25) s m args below meth c H locs 0 0 Q (F0 m 50 ls [])) ?_ 2000 _ u15 hu15 ?_ H locs ls hP hD hS hl
        · intro st rb15 h kc15 kx15 H locs ls hP hD hS hl
          obtain ⟨x2, x4⟩ := st
          have h : s_M_rescale_B15 vq0_m vq0_n vq0_length vq0_where vq0_effort vq0_thrown vq0_at vq0_scaled vq0_solved vq0_second vq0_nm vq0_nn vq0_number vq0_bad vq0_a vq0_b vq0_c vq0_rowScale vq0_columnScale vq0_sa vq0_sb vq0_sc x1 x2 x4 = some rb15 := h
          unfold s_M_rescale_B15 at h
          refine lv_iload hx hb d_M_rescale_15 (lv_at hl 3 rfl) ?_
          refine lv_aload_n hx hb d_M_rescale_17 rfl (lv_at hl 0 rfl) ?_
          refine va_get (D := D) (ci := 8) (v := .int vq0_n) (C := "ConeForgeModel") (T := FM) (N := 46) hx hb hts iM hown hK hP 0 rfl rfl 30 (by decide) (hts _ (bgc bw714)) (fun _ h9 => h9) rfl d_M_rescale_18 ?_
          refine lv_icmp_ge (tgt := 50) hx hb d_M_rescale_21 (by decide) (fun c29 => ?_) (fun c29 => ?_)
          · have h := it_t c29 h
            exact kx15 _ (Option.some.inj h).symm H locs ls hP hD hS (lv_sub hl [0, 1, 2] rfl)
          · have h := it_f c29 h
            refine lv_dload_n hx hb d_M_rescale_24 rfl (lv_at hl 2 rfl) ?_
            refine lv_aload_n hx hb d_M_rescale_25 rfl (lv_at hl 0 rfl) ?_
            refine va_get (D := D) (ci := 8) (v := .ref q0_a) (C := "ConeForgeModel") (T := FM) (N := 46) hx hb hts iM hown hK hP 0 rfl rfl 0 (by decide) (hts _ (bgc bw684)) (fun _ h9 => h9) rfl d_M_rescale_26 ?_
            refine lv_bipush (v := 8) hx hb d_M_rescale_29 (by decide) ?_
            refine lv_iload_n hx hb d_M_rescale_31 rfl (lv_at hl 1 rfl) ?_
            refine lv_imul hx hb d_M_rescale_32 ?_
            refine lv_iload hx hb d_M_rescale_33 (lv_at hl 3 rfl) ?_
            refine lv_iadd hx hb d_M_rescale_35 ?_
            obtain ⟨g30, h⟩ := gd_some h
            refine va_dald hx hb hK hP 1 0 rfl rfl (inb_in g30) d_M_rescale_36 ?_
            obtain ⟨u31, hu31, h⟩ := bi_some h
            refine kD (v := u31) (wc := (w_M_abs T  )) (wc' := (w_M_abs T  )) (runOS (As := [.double (vq0_a ((8 * x1) + x4).toNatClampNeg)]) (rest := [.double x2]) ((c_M_abs l D T   (vq0_a ((8 * x1) + x4).toNatClampNeg) u31 hu31) H.size) ⟨hx, hb, hml, hown, hts⟩ (cwOS bw844 bw845 bw105 bw846 dd_M_abs hts ⟨Nat.le_of_ble_eq_true rfl, Nat.le_of_ble_eq_true rfl⟩)  hNW hK hP hD [] rfl (by decide) rfl hl.1 rfl (lv_room (Nat.le_of_ble_eq_true rfl)) d_M_rescale_37 ⟨Nat.le_of_ble_eq_true rfl, Nat.le_of_ble_eq_true rfl⟩) hP hD hS hA [] rfl rfl (fun H locs hP hD hS => ?_)
            have hP : va_P D CL (w_M_rescale T q0 q0_a q0_b q0_c q0_rowScale q0_columnScale q0_sa q0_sb q0_sc q0_x q0_s q0_y q0_p q0_d q0_h q0_f q0_mm q0_low q0_dd q0_r q0_big q0_dt q0_dx q0_t q0_cost q0_rowScaleNow q0_columnScaleNow q0_basic q0_text q0_turned q0_na q0_nb q0_nc vq0_m vq0_n vq0_length vq0_where vq0_effort vq0_thrown vq0_at vq0_scaled vq0_solved vq0_second vq0_nm vq0_nn vq0_number vq0_bad vq0_a vq0_b vq0_c vq0_rowScale vq0_columnScale vq0_sa vq0_sb vq0_sc) H := hP
            have hD : va_D A (w_M_rescale T q0 q0_a q0_b q0_c q0_rowScale q0_columnScale q0_sa q0_sb q0_sc q0_x q0_s q0_y q0_p q0_d q0_h q0_f q0_mm q0_low q0_dd q0_r q0_big q0_dt q0_dx q0_t q0_cost q0_rowScaleNow q0_columnScaleNow q0_basic q0_text q0_turned q0_na q0_nb q0_nc vq0_m vq0_n vq0_length vq0_where vq0_effort vq0_thrown vq0_at vq0_scaled vq0_solved vq0_second vq0_nm vq0_nn vq0_number vq0_bad vq0_a vq0_b vq0_c vq0_rowScale vq0_columnScale vq0_sa vq0_sb vq0_sc) := hD
            obtain ⟨u32, hu32, h⟩ := bi_some h
            refine kD (v := u32) (wc := (w_M_max T  )) (wc' := (w_M_max T  )) (runOS (As := [.double x2, .double u31]) (rest := []) ((c_M_max l D T   x2 u31 u32 hu32) H.size) ⟨hx, hb, hml, hown, hts⟩ (cwOS bw847 bw848 bw105 bw849 dd_M_max hts ⟨Nat.le_of_ble_eq_true rfl, Nat.le_of_ble_eq_true rfl⟩)  hNW hK hP hD [] rfl (by decide) rfl hl.1 rfl (lv_room (Nat.le_of_ble_eq_true rfl)) d_M_rescale_40 ⟨Nat.le_of_ble_eq_true rfl, Nat.le_of_ble_eq_true rfl⟩) hP hD hS hA [] rfl rfl (fun H locs hP hD hS => ?_)
            have hP : va_P D CL (w_M_rescale T q0 q0_a q0_b q0_c q0_rowScale q0_columnScale q0_sa q0_sb q0_sc q0_x q0_s q0_y q0_p q0_d q0_h q0_f q0_mm q0_low q0_dd q0_r q0_big q0_dt q0_dx q0_t q0_cost q0_rowScaleNow q0_columnScaleNow q0_basic q0_text q0_turned q0_na q0_nb q0_nc vq0_m vq0_n vq0_length vq0_where vq0_effort vq0_thrown vq0_at vq0_scaled vq0_solved vq0_second vq0_nm vq0_nn vq0_number vq0_bad vq0_a vq0_b vq0_c vq0_rowScale vq0_columnScale vq0_sa vq0_sb vq0_sc) H := hP
            have hD : va_D A (w_M_rescale T q0 q0_a q0_b q0_c q0_rowScale q0_columnScale q0_sa q0_sb q0_sc q0_x q0_s q0_y q0_p q0_d q0_h q0_f q0_mm q0_low q0_dd q0_r q0_big q0_dt q0_dx q0_t q0_cost q0_rowScaleNow q0_columnScaleNow q0_basic q0_text q0_turned q0_na q0_nb q0_nc vq0_m vq0_n vq0_length vq0_where vq0_effort vq0_thrown vq0_at vq0_scaled vq0_solved vq0_second vq0_nm vq0_nn vq0_number vq0_bad vq0_a vq0_b vq0_c vq0_rowScale vq0_columnScale vq0_sa vq0_sb vq0_sc) := hD
            refine lv_dstore_n (lv' := [(2, .double u32), (0, .ref q0), (1, .int x1), (4, .int x4)]) hx hb d_M_rescale_43 rfl hl (by decide) rfl (fun ls hl => ?_)
            refine lv_iinc (v := x4 + 1) (lv' := [(4, .int (x4 + 1)), (2, .double u32), (0, .ref q0), (1, .int x1)]) hx hb d_M_rescale_44 hl (k := 3) rfl rfl (by decide) rfl (fun ls hl => ?_)
            refine lv_goto (tgt := 15) hx hb d_M_rescale_47 (by decide) ?_
            exact kc15 _ (Option.some.inj h).symm H locs ls hP hD hS (lv_sub hl [2, 3, 1, 0] rfl)
        · intro H locs ls hP hD hS hl
          refine lv_aload_n hx hb d_M_rescale_50 rfl (lv_at hl 0 rfl) ?_
          refine va_get (D := D) (ci := 8) (v := .ref q0_rowScale) (C := "ConeForgeModel") (T := FM) (N := 46) hx hb hts iM hown hK hP 0 rfl rfl 3 (by decide) (hts _ (bgc bw687)) (fun _ h9 => h9) rfl d_M_rescale_51 ?_
          refine lv_iload_n hx hb d_M_rescale_54 rfl (lv_at hl 1 rfl) ?_
          refine lv_aload_n hx hb d_M_rescale_55 rfl (lv_at hl 0 rfl) ?_
          refine va_get (D := D) (ci := 8) (v := .int vq0_scaled) (C := "ConeForgeModel") (T := FM) (N := 46) hx hb hts iM hown hK hP 0 rfl rfl 36 (by decide) (hts _ (bgc bw720)) (fun _ h9 => h9) rfl d_M_rescale_56 ?_
          refine lv_if_eq (tgt := 69) hx hb d_M_rescale_59 (by decide) (fun c33 => ?_) (fun c33 => ?_)
          · have h := it_t c33 h
            refine lv_dconst1 hx hb d_M_rescale_69 ?_
            obtain ⟨g34, h⟩ := gd_some h
            refine va_dast hx hb hK hP hD hS 4 0 rfl rfl (inb_in g34) d_M_rescale_70 (fun H locs hP hD hS => ?_)
            have hP : va_P D CL (w_M_rescale T q0 q0_a q0_b q0_c q0_rowScale q0_columnScale q0_sa q0_sb q0_sc q0_x q0_s q0_y q0_p q0_d q0_h q0_f q0_mm q0_low q0_dd q0_r q0_big q0_dt q0_dx q0_t q0_cost q0_rowScaleNow q0_columnScaleNow q0_basic q0_text q0_turned q0_na q0_nb q0_nc vq0_m vq0_n vq0_length vq0_where vq0_effort vq0_thrown vq0_at vq0_scaled vq0_solved vq0_second vq0_nm vq0_nn vq0_number vq0_bad vq0_a vq0_b vq0_c (vf_upd vq0_rowScale x1.toNatClampNeg FP.dconst1) vq0_columnScale vq0_sa vq0_sb vq0_sc) H := hP
            have hD : va_D A (w_M_rescale T q0 q0_a q0_b q0_c q0_rowScale q0_columnScale q0_sa q0_sb q0_sc q0_x q0_s q0_y q0_p q0_d q0_h q0_f q0_mm q0_low q0_dd q0_r q0_big q0_dt q0_dx q0_t q0_cost q0_rowScaleNow q0_columnScaleNow q0_basic q0_text q0_turned q0_na q0_nb q0_nc vq0_m vq0_n vq0_length vq0_where vq0_effort vq0_thrown vq0_at vq0_scaled vq0_solved vq0_second vq0_nm vq0_nn vq0_number vq0_bad vq0_a vq0_b vq0_c (vf_upd vq0_rowScale x1.toNatClampNeg FP.dconst1) vq0_columnScale vq0_sa vq0_sb vq0_sc) := hD
            refine lv_iinc (v := x1 + 1) (lv' := [(1, .int (x1 + 1)), (0, .ref q0), (2, .double u15)]) hx hb d_M_rescale_71 hl (k := 1) rfl rfl (by decide) rfl (fun ls hl => ?_)
            refine lv_goto (tgt := 2) hx hb d_M_rescale_74 (by decide) ?_
            exact kc2 _ (Option.some.inj h).symm H locs ls hP hD hS (lv_sub hl [1, 0] rfl)
          · have h := it_f c33 h
            refine lv_dload_n hx hb d_M_rescale_62 rfl (lv_at hl 2 rfl) ?_
            obtain ⟨u35, hu35, h⟩ := bi_some h
            refine kD (v := u35) (wc := (w_M_power T  )) (wc' := (w_M_power T  )) (runOS (As := [.double u15]) (rest := [.int x1, .ref q0_rowScale]) ((c_M_power l D T   u15 u35 hu35) H.size) ⟨hx, hb, hml, hown, hts⟩ (cwOS bw850 bw851 bw105 bw852 dd_M_power hts ⟨Nat.le_of_ble_eq_true rfl, Nat.le_of_ble_eq_true rfl⟩)  hNW hK hP hD [] rfl (by decide) rfl hl.1 rfl (lv_room (Nat.le_of_ble_eq_true rfl)) d_M_rescale_63 ⟨Nat.le_of_ble_eq_true rfl, Nat.le_of_ble_eq_true rfl⟩) hP hD hS hA [] rfl rfl (fun H locs hP hD hS => ?_)
            have hP : va_P D CL (w_M_rescale T q0 q0_a q0_b q0_c q0_rowScale q0_columnScale q0_sa q0_sb q0_sc q0_x q0_s q0_y q0_p q0_d q0_h q0_f q0_mm q0_low q0_dd q0_r q0_big q0_dt q0_dx q0_t q0_cost q0_rowScaleNow q0_columnScaleNow q0_basic q0_text q0_turned q0_na q0_nb q0_nc vq0_m vq0_n vq0_length vq0_where vq0_effort vq0_thrown vq0_at vq0_scaled vq0_solved vq0_second vq0_nm vq0_nn vq0_number vq0_bad vq0_a vq0_b vq0_c vq0_rowScale vq0_columnScale vq0_sa vq0_sb vq0_sc) H := hP
            have hD : va_D A (w_M_rescale T q0 q0_a q0_b q0_c q0_rowScale q0_columnScale q0_sa q0_sb q0_sc q0_x q0_s q0_y q0_p q0_d q0_h q0_f q0_mm q0_low q0_dd q0_r q0_big q0_dt q0_dx q0_t q0_cost q0_rowScaleNow q0_columnScaleNow q0_basic q0_text q0_turned q0_na q0_nb q0_nc vq0_m vq0_n vq0_length vq0_where vq0_effort vq0_thrown vq0_at vq0_scaled vq0_solved vq0_second vq0_nm vq0_nn vq0_number vq0_bad vq0_a vq0_b vq0_c vq0_rowScale vq0_columnScale vq0_sa vq0_sb vq0_sc) := hD
            refine lv_goto (tgt := 70) hx hb d_M_rescale_66 (by decide) ?_
            obtain ⟨g36, h⟩ := gd_some h
            refine va_dast hx hb hK hP hD hS 4 0 rfl rfl (inb_in g36) d_M_rescale_70 (fun H locs hP hD hS => ?_)
            have hP : va_P D CL (w_M_rescale T q0 q0_a q0_b q0_c q0_rowScale q0_columnScale q0_sa q0_sb q0_sc q0_x q0_s q0_y q0_p q0_d q0_h q0_f q0_mm q0_low q0_dd q0_r q0_big q0_dt q0_dx q0_t q0_cost q0_rowScaleNow q0_columnScaleNow q0_basic q0_text q0_turned q0_na q0_nb q0_nc vq0_m vq0_n vq0_length vq0_where vq0_effort vq0_thrown vq0_at vq0_scaled vq0_solved vq0_second vq0_nm vq0_nn vq0_number vq0_bad vq0_a vq0_b vq0_c (vf_upd vq0_rowScale x1.toNatClampNeg u35) vq0_columnScale vq0_sa vq0_sb vq0_sc) H := hP
            have hD : va_D A (w_M_rescale T q0 q0_a q0_b q0_c q0_rowScale q0_columnScale q0_sa q0_sb q0_sc q0_x q0_s q0_y q0_p q0_d q0_h q0_f q0_mm q0_low q0_dd q0_r q0_big q0_dt q0_dx q0_t q0_cost q0_rowScaleNow q0_columnScaleNow q0_basic q0_text q0_turned q0_na q0_nb q0_nc vq0_m vq0_n vq0_length vq0_where vq0_effort vq0_thrown vq0_at vq0_scaled vq0_solved vq0_second vq0_nm vq0_nn vq0_number vq0_bad vq0_a vq0_b vq0_c (vf_upd vq0_rowScale x1.toNatClampNeg u35) vq0_columnScale vq0_sa vq0_sb vq0_sc) := hD
            refine lv_iinc (v := x1 + 1) (lv' := [(1, .int (x1 + 1)), (0, .ref q0), (2, .double u15)]) hx hb d_M_rescale_71 hl (k := 1) rfl rfl (by decide) rfl (fun ls hl => ?_)
            refine lv_goto (tgt := 2) hx hb d_M_rescale_74 (by decide) ?_
            exact kc2 _ (Option.some.inj h).symm H locs ls hP hD hS (lv_sub hl [1, 0] rfl)
      unfold s_M_rescale_B2 at h
      refine lv_iload_n hx hb d_M_rescale_2 rfl (lv_at hl 1 rfl) ?_
      refine lv_aload_n hx hb d_M_rescale_3 rfl (lv_at hl 0 rfl) ?_
      refine va_get (D := D) (ci := 8) (v := .int vq0_m) (C := "ConeForgeModel") (T := FM) (N := 46) hx hb hts iM hown hK hP 0 rfl rfl 29 (by decide) (hts _ (bgc bw713)) (fun _ h9 => h9) rfl d_M_rescale_4 ?_
      refine lv_icmp_ge (tgt := 77) hx hb d_M_rescale_7 (by decide) (fun c37 => ?_) (fun c37 => ?_)
      · have h := it_t c37 h
        exact kx2 _ (Option.some.inj h).symm H locs ls hP hD hS (lv_sub hl [0] rfl)
      · have h := it_f c37 h
        refine lv_dconst0 hx hb d_M_rescale_10 ?_
        refine lv_dstore_n (lv' := [(2, .double FP.dconst0), (0, .ref q0), (1, .int x1)]) hx hb d_M_rescale_11 rfl hl (by decide) rfl (fun ls hl => ?_)
        refine lv_iconst (v := 0) hx hb d_M_rescale_12 (by decide) ?_
        refine lv_istore (lv' := [(4, .int 0), (2, .double FP.dconst0), (0, .ref q0), (1, .int x1)]) hx hb d_M_rescale_13 hl (by decide) rfl (fun ls hl => ?_)
        exact L15 vq0_rowScale x1 FP.dconst0 0 H locs ls hP hD hS (lv_sub hl [2, 3, 1, 0] rfl) h
    · intro H locs ls hP hD hS hl
      refine lv_iconst (v := 0) hx hb d_M_rescale_77 (by decide) ?_
      refine lv_istore_n (lv' := [(1, .int 0), (0, .ref q0)]) hx hb d_M_rescale_78 rfl hl (by decide) rfl (fun ls hl => ?_)
      exact L79 u2 vq0_columnScale vq0_sa vq0_sb vq0_sc 0 H locs ls hP hD hS (lv_sub hl [1, 0] rfl) h
  unfold s_M_rescale at h
  refine lv_iconst (v := 0) hx hb d_M_rescale_0 (by decide) ?_
  refine lv_istore_n (lv' := [(1, .int 0), (0, .ref q0)]) hx hb d_M_rescale_1 rfl hl (by decide) rfl (fun ls hl => ?_)
  exact L2 vq0_rowScale vq0_columnScale vq0_sa vq0_sb vq0_sc 0 H locs ls hP hD hS (lv_sub hl [1, 0] rfl) h
