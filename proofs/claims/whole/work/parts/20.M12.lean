theorem d_M_told_0 : decode prog_10_method_42_code 0 = .ok (.aload_n 0, 1) := by decide +kernel
theorem d_M_told_1 : decode prog_10_method_42_code 1 = .ok (.iload_n 1, 1) := by decide +kernel
theorem d_M_told_2 : decode prog_10_method_42_code 2 = .ok (.iconst 0, 1) := by decide +kernel
theorem d_M_told_3 : decode prog_10_method_42_code 3 = .ok (.iconst 4, 1) := by decide +kernel
theorem d_M_told_4 : decode prog_10_method_42_code 4 = .ok (.invokestatic 125, 3) := by decide +kernel
theorem d_M_told_7 : decode prog_10_method_42_code 7 = .ok (.ifCond .ne 7, 3) := by decide +kernel
theorem d_M_told_10 : decode prog_10_method_42_code 10 = .ok (.iconst 1, 1) := by decide +kernel
theorem d_M_told_11 : decode prog_10_method_42_code 11 = .ok (.goto 50, 3) := by decide +kernel
theorem d_M_told_14 : decode prog_10_method_42_code 14 = .ok (.aload_n 0, 1) := by decide +kernel
theorem d_M_told_15 : decode prog_10_method_42_code 15 = .ok (.getfield 129, 3) := by decide +kernel
theorem d_M_told_18 : decode prog_10_method_42_code 18 = .ok (.ifCond .ne 7, 3) := by decide +kernel
theorem d_M_told_21 : decode prog_10_method_42_code 21 = .ok (.iconst 2, 1) := by decide +kernel
theorem d_M_told_22 : decode prog_10_method_42_code 22 = .ok (.goto 39, 3) := by decide +kernel
theorem d_M_told_25 : decode prog_10_method_42_code 25 = .ok (.iload_n 1, 1) := by decide +kernel
theorem d_M_told_26 : decode prog_10_method_42_code 26 = .ok (.iconst 3, 1) := by decide +kernel
theorem d_M_told_27 : decode prog_10_method_42_code 27 = .ok (.if_icmp .ge 33, 3) := by decide +kernel
theorem d_M_told_30 : decode prog_10_method_42_code 30 = .ok (.iload_n 2, 1) := by decide +kernel
theorem d_M_told_31 : decode prog_10_method_42_code 31 = .ok (.iconst 0, 1) := by decide +kernel
theorem d_M_told_32 : decode prog_10_method_42_code 32 = .ok (.iload_n 1, 1) := by decide +kernel
theorem d_M_told_33 : decode prog_10_method_42_code 33 = .ok (.iconst 2, 1) := by decide +kernel
theorem d_M_told_34 : decode prog_10_method_42_code 34 = .ok (.if_icmp .ge 10, 3) := by decide +kernel
theorem d_M_told_37 : decode prog_10_method_42_code 37 = .ok (.aload_n 0, 1) := by decide +kernel
theorem d_M_told_38 : decode prog_10_method_42_code 38 = .ok (.getfield 103, 3) := by decide +kernel
theorem d_M_told_41 : decode prog_10_method_42_code 41 = .ok (.goto 7, 3) := by decide +kernel
theorem d_M_told_44 : decode prog_10_method_42_code 44 = .ok (.aload_n 0, 1) := by decide +kernel
theorem d_M_told_45 : decode prog_10_method_42_code 45 = .ok (.getfield 99, 3) := by decide +kernel
theorem d_M_told_48 : decode prog_10_method_42_code 48 = .ok (.iconst 1, 1) := by decide +kernel
theorem d_M_told_49 : decode prog_10_method_42_code 49 = .ok (.isub, 1) := by decide +kernel
theorem d_M_told_50 : decode prog_10_method_42_code 50 = .ok (.invokestatic 125, 3) := by decide +kernel
theorem d_M_told_53 : decode prog_10_method_42_code 53 = .ok (.ifCond .ne 7, 3) := by decide +kernel
theorem d_M_told_56 : decode prog_10_method_42_code 56 = .ok (.iconst 3, 1) := by decide +kernel
theorem d_M_told_57 : decode prog_10_method_42_code 57 = .ok (.goto 4, 3) := by decide +kernel
theorem d_M_told_60 : decode prog_10_method_42_code 60 = .ok (.iconst 0, 1) := by decide +kernel
theorem d_M_told_61 : decode prog_10_method_42_code 61 = .ok (.putfield 122, 3) := by decide +kernel
theorem d_M_told_64 : decode prog_10_method_42_code 64 = .ok (.aload_n 0, 1) := by decide +kernel
theorem d_M_told_65 : decode prog_10_method_42_code 65 = .ok (.getfield 122, 3) := by decide +kernel
theorem d_M_told_68 : decode prog_10_method_42_code 68 = .ok (.ifCond .le 5, 3) := by decide +kernel
theorem d_M_told_71 : decode prog_10_method_42_code 71 = .ok (.dconst 0, 1) := by decide +kernel
theorem d_M_told_72 : decode prog_10_method_42_code 72 = .ok (.dreturn, 1) := by decide +kernel
theorem d_M_told_73 : decode prog_10_method_42_code 73 = .ok (.iload_n 1, 1) := by decide +kernel
theorem d_M_told_74 : decode prog_10_method_42_code 74 = .ok (.ifCond .ne 12, 3) := by decide +kernel
theorem d_M_told_77 : decode prog_10_method_42_code 77 = .ok (.aload_n 0, 1) := by decide +kernel
theorem d_M_told_78 : decode prog_10_method_42_code 78 = .ok (.getfield 34, 3) := by decide +kernel
theorem d_M_told_81 : decode prog_10_method_42_code 81 = .ok (.iload_n 2, 1) := by decide +kernel
theorem d_M_told_82 : decode prog_10_method_42_code 82 = .ok (.daload, 1) := by decide +kernel
theorem d_M_told_83 : decode prog_10_method_42_code 83 = .ok (.goto 36, 3) := by decide +kernel
theorem d_M_told_86 : decode prog_10_method_42_code 86 = .ok (.iload_n 1, 1) := by decide +kernel
theorem d_M_told_87 : decode prog_10_method_42_code 87 = .ok (.iconst 1, 1) := by decide +kernel
theorem d_M_told_88 : decode prog_10_method_42_code 88 = .ok (.if_icmp .ne 12, 3) := by decide +kernel
theorem d_M_told_91 : decode prog_10_method_42_code 91 = .ok (.aload_n 0, 1) := by decide +kernel
theorem d_M_told_92 : decode prog_10_method_42_code 92 = .ok (.getfield 37, 3) := by decide +kernel
theorem d_M_told_95 : decode prog_10_method_42_code 95 = .ok (.iload_n 2, 1) := by decide +kernel
theorem d_M_told_96 : decode prog_10_method_42_code 96 = .ok (.daload, 1) := by decide +kernel
theorem d_M_told_97 : decode prog_10_method_42_code 97 = .ok (.goto 22, 3) := by decide +kernel
theorem d_M_told_100 : decode prog_10_method_42_code 100 = .ok (.iload_n 1, 1) := by decide +kernel
theorem d_M_told_101 : decode prog_10_method_42_code 101 = .ok (.iconst 2, 1) := by decide +kernel
theorem d_M_told_102 : decode prog_10_method_42_code 102 = .ok (.if_icmp .ne 12, 3) := by decide +kernel
theorem d_M_told_105 : decode prog_10_method_42_code 105 = .ok (.aload_n 0, 1) := by decide +kernel
theorem d_M_told_106 : decode prog_10_method_42_code 106 = .ok (.getfield 40, 3) := by decide +kernel
theorem d_M_told_109 : decode prog_10_method_42_code 109 = .ok (.iload_n 2, 1) := by decide +kernel
theorem d_M_told_110 : decode prog_10_method_42_code 110 = .ok (.daload, 1) := by decide +kernel
theorem d_M_told_111 : decode prog_10_method_42_code 111 = .ok (.goto 8, 3) := by decide +kernel
theorem d_M_told_114 : decode prog_10_method_42_code 114 = .ok (.aload_n 0, 1) := by decide +kernel
theorem d_M_told_115 : decode prog_10_method_42_code 115 = .ok (.iload_n 1, 1) := by decide +kernel
theorem d_M_told_116 : decode prog_10_method_42_code 116 = .ok (.invokevirtual 298, 3) := by decide +kernel
theorem d_M_told_119 : decode prog_10_method_42_code 119 = .ok (.dreturn, 1) := by decide +kernel
abbrev w_M_told (T : Nat → ClassId) (q0 : Nat) (q0_a : Nat) (q0_b : Nat) (q0_c : Nat) (q0_rowScale : Nat) (q0_columnScale : Nat) (q0_sa : Nat) (q0_sb : Nat) (q0_sc : Nat) (q0_x : Nat) (q0_s : Nat) (q0_y : Nat) (q0_p : Nat) (q0_d : Nat) (q0_h : Nat) (q0_f : Nat) (q0_mm : Nat) (q0_low : Nat) (q0_dd : Nat) (q0_r : Nat) (q0_big : Nat) (q0_dt : Nat) (q0_dx : Nat) (q0_t : Nat) (q0_cost : Nat) (q0_rowScaleNow : Nat) (q0_columnScaleNow : Nat) (q0_basic : Nat) (q0_text : Nat) (q0_turned : Nat) (q0_na : Nat) (q0_nb : Nat) (q0_nc : Nat) (vq0_m : Int32) (vq0_n : Int32) (vq0_length : Int32) (vq0_where : Int32) (vq0_effort : Int32) (vq0_thrown : Int32) (vq0_at : Int32) (vq0_scaled : Int32) (vq0_solved : Int32) (vq0_second : Int32) (vq0_nm : Int32) (vq0_nn : Int32) (vq0_number : UInt64) (vq0_bad : Int32) (vq0_b : Nat → UInt64) (vq0_c : Nat → UInt64) (vq0_x : Nat → UInt64) (vq0_s : Nat → UInt64) (vq0_y : Nat → UInt64) : va_W := [(q0, .inr (8, [.ref q0_a, .ref q0_b, .ref q0_c, .ref q0_rowScale, .ref q0_columnScale, .ref q0_sa, .ref q0_sb, .ref q0_sc, .ref q0_x, .ref q0_s, .ref q0_y, .ref q0_p, .ref q0_d, .ref q0_h, .ref q0_f, .ref q0_mm, .ref q0_low, .ref q0_dd, .ref q0_r, .ref q0_big, .ref q0_dt, .ref q0_dx, .ref q0_t, .ref q0_cost, .ref q0_rowScaleNow, .ref q0_columnScaleNow, .ref q0_basic, .ref q0_text, .ref q0_turned, .int vq0_m, .int vq0_n, .int vq0_length, .int vq0_where, .int vq0_effort, .int vq0_thrown, .int vq0_at, .int vq0_scaled, .int vq0_solved, .int vq0_second, .ref q0_na, .ref q0_nb, .ref q0_nc, .int vq0_nm, .int vq0_nn, .double vq0_number, .int vq0_bad])), (q0_b, .inl (T 0, 5, .inr (.inr (.inr (.inl vq0_b))))), (q0_c, .inl (T 0, 8, .inr (.inr (.inr (.inl vq0_c))))), (q0_x, .inl (T 0, 8, .inr (.inr (.inr (.inl vq0_x))))), (q0_s, .inl (T 0, 8, .inr (.inr (.inr (.inl vq0_s))))), (q0_y, .inl (T 0, 5, .inr (.inr (.inr (.inl vq0_y)))))]
def s_M_told (vq0_m : Int32) (vq0_n : Int32) (vq0_length : Int32) (vq0_where : Int32) (vq0_effort : Int32) (vq0_thrown : Int32) (vq0_at : Int32) (vq0_scaled : Int32) (vq0_solved : Int32) (vq0_second : Int32) (vq0_nm : Int32) (vq0_nn : Int32) (vq0_number : UInt64) (vq0_bad : Int32) (vq0_b : Nat → UInt64) (vq0_c : Nat → UInt64) (vq0_x : Nat → UInt64) (vq0_s : Nat → UInt64) (vq0_y : Nat → UInt64) (x1 : Int32) (x2 : Int32) : Option (UInt64 × Int32) :=
  (s_M_in x1 0 4).bind fun u1 => if u1 = 0 then (if 1 ≤ 0 then (if x1 = 0 then (gd (inb x2 8) <| some (vq0_x x2.toNatClampNeg, 1)) else (if x1 = 1 then (gd (inb x2 8) <| some (vq0_s x2.toNatClampNeg, 1)) else (if x1 = 2 then (gd (inb x2 5) <| some (vq0_y x2.toNatClampNeg, 1)) else ((s_M_total vq0_m vq0_n vq0_length vq0_where vq0_effort 1 vq0_at vq0_scaled vq0_solved vq0_second vq0_nm vq0_nn vq0_number vq0_bad vq0_b vq0_c vq0_x vq0_y x1).bind fun u62 => some (u62, 1))))) else (some (FP.dconst0, 1))) else (if vq0_solved = 0 then (if 2 ≤ 0 then (if x1 = 0 then (gd (inb x2 8) <| some (vq0_x x2.toNatClampNeg, 2)) else (if x1 = 1 then (gd (inb x2 8) <| some (vq0_s x2.toNatClampNeg, 2)) else (if x1 = 2 then (gd (inb x2 5) <| some (vq0_y x2.toNatClampNeg, 2)) else ((s_M_total vq0_m vq0_n vq0_length vq0_where vq0_effort 2 vq0_at vq0_scaled vq0_solved vq0_second vq0_nm vq0_nn vq0_number vq0_bad vq0_b vq0_c vq0_x vq0_y x1).bind fun u54 => some (u54, 2))))) else (some (FP.dconst0, 2))) else (if 3 ≤ x1 then (if 0 ≤ 0 then (if x1 = 0 then (gd (inb x2 8) <| some (vq0_x x2.toNatClampNeg, 0)) else (if x1 = 1 then (gd (inb x2 8) <| some (vq0_s x2.toNatClampNeg, 0)) else (if x1 = 2 then (gd (inb x2 5) <| some (vq0_y x2.toNatClampNeg, 0)) else ((s_M_total vq0_m vq0_n vq0_length vq0_where vq0_effort 0 vq0_at vq0_scaled vq0_solved vq0_second vq0_nm vq0_nn vq0_number vq0_bad vq0_b vq0_c vq0_x vq0_y x1).bind fun u9 => some (u9, 0))))) else (some (FP.dconst0, 0))) else (if 2 ≤ x1 then ((s_M_in x2 0 (vq0_m - 1)).bind fun u14 => if u14 = 0 then (if 3 ≤ 0 then (if x1 = 0 then (gd (inb x2 8) <| some (vq0_x x2.toNatClampNeg, 3)) else (if x1 = 1 then (gd (inb x2 8) <| some (vq0_s x2.toNatClampNeg, 3)) else (if x1 = 2 then (gd (inb x2 5) <| some (vq0_y x2.toNatClampNeg, 3)) else ((s_M_total vq0_m vq0_n vq0_length vq0_where vq0_effort 3 vq0_at vq0_scaled vq0_solved vq0_second vq0_nm vq0_nn vq0_number vq0_bad vq0_b vq0_c vq0_x vq0_y x1).bind fun u28 => some (u28, 3))))) else (some (FP.dconst0, 3))) else (if 0 ≤ 0 then (if x1 = 0 then (gd (inb x2 8) <| some (vq0_x x2.toNatClampNeg, 0)) else (if x1 = 1 then (gd (inb x2 8) <| some (vq0_s x2.toNatClampNeg, 0)) else (if x1 = 2 then (gd (inb x2 5) <| some (vq0_y x2.toNatClampNeg, 0)) else ((s_M_total vq0_m vq0_n vq0_length vq0_where vq0_effort 0 vq0_at vq0_scaled vq0_solved vq0_second vq0_nm vq0_nn vq0_number vq0_bad vq0_b vq0_c vq0_x vq0_y x1).bind fun u20 => some (u20, 0))))) else (some (FP.dconst0, 0)))) else ((s_M_in x2 0 (vq0_n - 1)).bind fun u32 => if u32 = 0 then (if 3 ≤ 0 then (if x1 = 0 then (gd (inb x2 8) <| some (vq0_x x2.toNatClampNeg, 3)) else (if x1 = 1 then (gd (inb x2 8) <| some (vq0_s x2.toNatClampNeg, 3)) else (if x1 = 2 then (gd (inb x2 5) <| some (vq0_y x2.toNatClampNeg, 3)) else ((s_M_total vq0_m vq0_n vq0_length vq0_where vq0_effort 3 vq0_at vq0_scaled vq0_solved vq0_second vq0_nm vq0_nn vq0_number vq0_bad vq0_b vq0_c vq0_x vq0_y x1).bind fun u46 => some (u46, 3))))) else (some (FP.dconst0, 3))) else (if 0 ≤ 0 then (if x1 = 0 then (gd (inb x2 8) <| some (vq0_x x2.toNatClampNeg, 0)) else (if x1 = 1 then (gd (inb x2 8) <| some (vq0_s x2.toNatClampNeg, 0)) else (if x1 = 2 then (gd (inb x2 5) <| some (vq0_y x2.toNatClampNeg, 0)) else ((s_M_total vq0_m vq0_n vq0_length vq0_where vq0_effort 0 vq0_at vq0_scaled vq0_solved vq0_second vq0_nm vq0_nn vq0_number vq0_bad vq0_b vq0_c vq0_x vq0_y x1).bind fun u38 => some (u38, 0))))) else (some (FP.dconst0, 0)))))))
set_option maxHeartbeats 4000000 in
set_option maxRecDepth 100000 in
theorem c_M_told (l : Launch) (D : va_G) (T : Nat → ClassId) (q0 : Nat) (q0_a : Nat) (q0_b : Nat) (q0_c : Nat) (q0_rowScale : Nat) (q0_columnScale : Nat) (q0_sa : Nat) (q0_sb : Nat) (q0_sc : Nat) (q0_x : Nat) (q0_s : Nat) (q0_y : Nat) (q0_p : Nat) (q0_d : Nat) (q0_h : Nat) (q0_f : Nat) (q0_mm : Nat) (q0_low : Nat) (q0_dd : Nat) (q0_r : Nat) (q0_big : Nat) (q0_dt : Nat) (q0_dx : Nat) (q0_t : Nat) (q0_cost : Nat) (q0_rowScaleNow : Nat) (q0_columnScaleNow : Nat) (q0_basic : Nat) (q0_text : Nat) (q0_turned : Nat) (q0_na : Nat) (q0_nb : Nat) (q0_nc : Nat) (vq0_m : Int32) (vq0_n : Int32) (vq0_length : Int32) (vq0_where : Int32) (vq0_effort : Int32) (vq0_thrown : Int32) (vq0_at : Int32) (vq0_scaled : Int32) (vq0_solved : Int32) (vq0_second : Int32) (vq0_nm : Int32) (vq0_nn : Int32) (vq0_number : UInt64) (vq0_bad : Int32) (vq0_b : Nat → UInt64) (vq0_c : Nat → UInt64) (vq0_x : Nat → UInt64) (vq0_s : Nat → UInt64) (vq0_y : Nat → UInt64) (x1 : Int32) (x2 : Int32) (rm : UInt64 × Int32) (h : s_M_told vq0_m vq0_n vq0_length vq0_where vq0_effort vq0_thrown vq0_at vq0_scaled vq0_solved vq0_second vq0_nm vq0_nn vq0_number vq0_bad vq0_b vq0_c vq0_x vq0_s vq0_y x1 x2 = some rm) : CtD l y_M_told (Cond.code y_M_told prog_10_method_42_code 3 (some .double) :: BIG) 1 24 D T [.ref q0, .int x1, .int x2] (w_M_told T q0 q0_a q0_b q0_c q0_rowScale q0_columnScale q0_sa q0_sb q0_sc q0_x q0_s q0_y q0_p q0_d q0_h q0_f q0_mm q0_low q0_dd q0_r q0_big q0_dt q0_dx q0_t q0_cost q0_rowScaleNow q0_columnScaleNow q0_basic q0_text q0_turned q0_na q0_nb q0_nc vq0_m vq0_n vq0_length vq0_where vq0_effort vq0_thrown vq0_at vq0_scaled vq0_solved vq0_second vq0_nm vq0_nn vq0_number vq0_bad vq0_b vq0_c vq0_x vq0_s vq0_y) (fun r => r.1) (fun r => (w_M_told T q0 q0_a q0_b q0_c q0_rowScale q0_columnScale q0_sa q0_sb q0_sc q0_x q0_s q0_y q0_p q0_d q0_h q0_f q0_mm q0_low q0_dd q0_r q0_big q0_dt q0_dx q0_t q0_cost q0_rowScaleNow q0_columnScaleNow q0_basic q0_text q0_turned q0_na q0_nb q0_nc vq0_m vq0_n vq0_length vq0_where vq0_effort r.2 vq0_at vq0_scaled vq0_solved vq0_second vq0_nm vq0_nn vq0_number vq0_bad vq0_b vq0_c vq0_x vq0_s vq0_y)) rm := by
  refine cf_entry (y := y_M_told) (cc := prog_10_method_42_code) (nL := 3) (ret := (some .double)) (fr := 1) (lo := 24) (T := T) (av := [.ref q0, .int x1, .int x2]) (w := (w_M_told T q0 q0_a q0_b q0_c q0_rowScale q0_columnScale q0_sa q0_sb q0_sc q0_x q0_s q0_y q0_p q0_d q0_h q0_f q0_mm q0_low q0_dd q0_r q0_big q0_dt q0_dx q0_t q0_cost q0_rowScaleNow q0_columnScaleNow q0_basic q0_text q0_turned q0_na q0_nb q0_nc vq0_m vq0_n vq0_length vq0_where vq0_effort vq0_thrown vq0_at vq0_scaled vq0_solved vq0_second vq0_nm vq0_nn vq0_number vq0_bad vq0_b vq0_c vq0_x vq0_s vq0_y)) (Qc := cfQd D (fun r => r.1) (fun r => (w_M_told T q0 q0_a q0_b q0_c q0_rowScale q0_columnScale q0_sa q0_sb q0_sc q0_x q0_s q0_y q0_p q0_d q0_h q0_f q0_mm q0_low q0_dd q0_r q0_big q0_dt q0_dx q0_t q0_cost q0_rowScaleNow q0_columnScaleNow q0_basic q0_text q0_turned q0_na q0_nb q0_nc vq0_m vq0_n vq0_length vq0_where vq0_effort r.2 vq0_at vq0_scaled vq0_solved vq0_second vq0_nm vq0_nn vq0_number vq0_bad vq0_b vq0_c vq0_x vq0_s vq0_y)) rm) (by decide) rfl (Nat.le_of_ble_eq_true rfl) ?_
  intro p e s m args below meth c A Q H locs ls hx hb hr hlocks hml hown hts hNW hK hA hQ hP hD hS hl
  have hown : s.vm.findClass "ConeForgeModel" = some m.cls := hown
  have hl : lv_has ls 3 [(0, .ref q0), (1, .int x1), (2, .int x2)] := hl
  unfold s_M_told at h
  refine lv_aload_n hx hb d_M_told_0 rfl (lv_at hl 0 rfl) ?_
  refine lv_iload_n hx hb d_M_told_1 rfl (lv_at hl 1 rfl) ?_
  refine lv_iconst (v := 0) hx hb d_M_told_2 (by decide) ?_
  refine lv_iconst (v := 4) hx hb d_M_told_3 (by decide) ?_
  obtain ⟨u1, hu1, h⟩ := bi_some h
  refine kI (v := u1) (wc := (w_M_in T  )) (wc' := (w_M_in T  )) (runOS (As := [.int x1, .int 0, .int 4]) (rest := [.ref q0]) ((c_M_in l D T   x1 0 4 u1 hu1) H.size) ⟨hx, hb, hml, hown, hts⟩ (cwOS bw785 bw786 bw105 bw787 dd_M_in hts ⟨Nat.le_of_ble_eq_true rfl, Nat.le_of_ble_eq_true rfl⟩)  hNW hK hP hD [] rfl (by decide) rfl hl.1 rfl (lv_room (Nat.le_of_ble_eq_true rfl)) d_M_told_4 ⟨Nat.le_of_ble_eq_true rfl, Nat.le_of_ble_eq_true rfl⟩) hP hD hS hA [] rfl rfl (fun H locs hP hD hS => ?_)
  have hP : va_P D CL (w_M_told T q0 q0_a q0_b q0_c q0_rowScale q0_columnScale q0_sa q0_sb q0_sc q0_x q0_s q0_y q0_p q0_d q0_h q0_f q0_mm q0_low q0_dd q0_r q0_big q0_dt q0_dx q0_t q0_cost q0_rowScaleNow q0_columnScaleNow q0_basic q0_text q0_turned q0_na q0_nb q0_nc vq0_m vq0_n vq0_length vq0_where vq0_effort vq0_thrown vq0_at vq0_scaled vq0_solved vq0_second vq0_nm vq0_nn vq0_number vq0_bad vq0_b vq0_c vq0_x vq0_s vq0_y) H := hP
  have hD : va_D A (w_M_told T q0 q0_a q0_b q0_c q0_rowScale q0_columnScale q0_sa q0_sb q0_sc q0_x q0_s q0_y q0_p q0_d q0_h q0_f q0_mm q0_low q0_dd q0_r q0_big q0_dt q0_dx q0_t q0_cost q0_rowScaleNow q0_columnScaleNow q0_basic q0_text q0_turned q0_na q0_nb q0_nc vq0_m vq0_n vq0_length vq0_where vq0_effort vq0_thrown vq0_at vq0_scaled vq0_solved vq0_second vq0_nm vq0_nn vq0_number vq0_bad vq0_b vq0_c vq0_x vq0_s vq0_y) := hD
  refine lv_if_ne (tgt := 14) hx hb d_M_told_7 (by decide) (fun c2 => ?_) (fun c2 => ?_)
  · have h := it_f c2 h
    refine lv_aload_n hx hb d_M_told_14 rfl (lv_at hl 0 rfl) ?_
    refine va_get (D := D) (ci := 8) (v := .int vq0_solved) (C := "ConeForgeModel") (T := FM) (N := 46) hx hb hts iM hown hK hP 0 rfl rfl 37 (by decide) (hts _ (bgc bw721)) (fun _ h9 => h9) rfl d_M_told_15 ?_
    refine lv_if_ne (tgt := 25) hx hb d_M_told_18 (by decide) (fun c3 => ?_) (fun c3 => ?_)
    · have h := it_f c3 h
      refine lv_iload_n hx hb d_M_told_25 rfl (lv_at hl 1 rfl) ?_
      refine lv_iconst (v := 3) hx hb d_M_told_26 (by decide) ?_
      refine lv_icmp_ge (tgt := 60) hx hb d_M_told_27 (by decide) (fun c4 => ?_) (fun c4 => ?_)
      · have h := it_t c4 h
        refine lv_iconst (v := 0) hx hb d_M_told_60 (by decide) ?_
        refine va_put (D := D) (ci := 8) (v := .int 0) (ty := .int) (C := "ConeForgeModel") (T := FM) (N := 46) hx hb hts iM tM tM_ok nmM hown hK hP hD hS 0 rfl rfl 34 (by decide) (hts _ (bgc bw718)) (fun _ h9 => h9) rfl (by decide +kernel) rfl rfl (Nat.le_of_ble_eq_true rfl) d_M_told_61 (fun H locs hP hD hS => ?_)
        have hP : va_P D CL (w_M_told T q0 q0_a q0_b q0_c q0_rowScale q0_columnScale q0_sa q0_sb q0_sc q0_x q0_s q0_y q0_p q0_d q0_h q0_f q0_mm q0_low q0_dd q0_r q0_big q0_dt q0_dx q0_t q0_cost q0_rowScaleNow q0_columnScaleNow q0_basic q0_text q0_turned q0_na q0_nb q0_nc vq0_m vq0_n vq0_length vq0_where vq0_effort 0 vq0_at vq0_scaled vq0_solved vq0_second vq0_nm vq0_nn vq0_number vq0_bad vq0_b vq0_c vq0_x vq0_s vq0_y) H := hP
        have hD : va_D A (w_M_told T q0 q0_a q0_b q0_c q0_rowScale q0_columnScale q0_sa q0_sb q0_sc q0_x q0_s q0_y q0_p q0_d q0_h q0_f q0_mm q0_low q0_dd q0_r q0_big q0_dt q0_dx q0_t q0_cost q0_rowScaleNow q0_columnScaleNow q0_basic q0_text q0_turned q0_na q0_nb q0_nc vq0_m vq0_n vq0_length vq0_where vq0_effort 0 vq0_at vq0_scaled vq0_solved vq0_second vq0_nm vq0_nn vq0_number vq0_bad vq0_b vq0_c vq0_x vq0_s vq0_y) := hD
        refine lv_aload_n hx hb d_M_told_64 rfl (lv_at hl 0 rfl) ?_
        refine va_get (D := D) (ci := 8) (v := .int 0) (C := "ConeForgeModel") (T := FM) (N := 46) hx hb hts iM hown hK hP 0 rfl rfl 34 (by decide) (hts _ (bgc bw718)) (fun _ h9 => h9) rfl d_M_told_65 ?_
        refine lv_if_le (tgt := 73) hx hb d_M_told_68 (by decide) (fun c5 => ?_) (fun c5 => ?_)
        · have h := it_t c5 h
          refine lv_iload_n hx hb d_M_told_73 rfl (lv_at hl 1 rfl) ?_
          refine lv_if_ne (tgt := 86) hx hb d_M_told_74 (by decide) (fun c6 => ?_) (fun c6 => ?_)
          · have h := it_f c6 h
            refine lv_iload_n hx hb d_M_told_86 rfl (lv_at hl 1 rfl) ?_
            refine lv_iconst (v := 1) hx hb d_M_told_87 (by decide) ?_
            refine lv_icmp_ne (tgt := 100) hx hb d_M_told_88 (by decide) (fun c7 => ?_) (fun c7 => ?_)
            · have h := it_f c7 h
              refine lv_iload_n hx hb d_M_told_100 rfl (lv_at hl 1 rfl) ?_
              refine lv_iconst (v := 2) hx hb d_M_told_101 (by decide) ?_
              refine lv_icmp_ne (tgt := 114) hx hb d_M_told_102 (by decide) (fun c8 => ?_) (fun c8 => ?_)
              · have h := it_f c8 h
                refine lv_aload_n hx hb d_M_told_114 rfl (lv_at hl 0 rfl) ?_
                refine lv_iload_n hx hb d_M_told_115 rfl (lv_at hl 1 rfl) ?_
                obtain ⟨u9, hu9, h⟩ := bi_some h
                refine kD (v := u9) (wc := (w_M_total T q0 q0_a q0_b q0_c q0_rowScale q0_columnScale q0_sa q0_sb q0_sc q0_x q0_s q0_y q0_p q0_d q0_h q0_f q0_mm q0_low q0_dd q0_r q0_big q0_dt q0_dx q0_t q0_cost q0_rowScaleNow q0_columnScaleNow q0_basic q0_text q0_turned q0_na q0_nb q0_nc vq0_m vq0_n vq0_length vq0_where vq0_effort 0 vq0_at vq0_scaled vq0_solved vq0_second vq0_nm vq0_nn vq0_number vq0_bad vq0_b vq0_c vq0_x vq0_y)) (wc' := (w_M_total T q0 q0_a q0_b q0_c q0_rowScale q0_columnScale q0_sa q0_sb q0_sc q0_x q0_s q0_y q0_p q0_d q0_h q0_f q0_mm q0_low q0_dd q0_r q0_big q0_dt q0_dx q0_t q0_cost q0_rowScaleNow q0_columnScaleNow q0_basic q0_text q0_turned q0_na q0_nb q0_nc vq0_m vq0_n vq0_length vq0_where vq0_effort 0 vq0_at vq0_scaled vq0_solved vq0_second vq0_nm vq0_nn vq0_number vq0_bad vq0_b vq0_c vq0_x vq0_y)) (runOV (As := [.int x1]) (rest := []) ((c_M_total l D T q0 q0_a q0_b q0_c q0_rowScale q0_columnScale q0_sa q0_sb q0_sc q0_x q0_s q0_y q0_p q0_d q0_h q0_f q0_mm q0_low q0_dd q0_r q0_big q0_dt q0_dx q0_t q0_cost q0_rowScaleNow q0_columnScaleNow q0_basic q0_text q0_turned q0_na q0_nb q0_nc vq0_m vq0_n vq0_length vq0_where vq0_effort 0 vq0_at vq0_scaled vq0_solved vq0_second vq0_nm vq0_nn vq0_number vq0_bad vq0_b vq0_c vq0_x vq0_y x1 u9 hu9) H.size) ⟨hx, hb, hml, hown, hts⟩ (cwOV bw927 bw928 bw91 bw105 bw929 dd_M_total hts ⟨Nat.le_of_ble_eq_true rfl, Nat.le_of_ble_eq_true rfl⟩) (va_recv hK hP (ci := 8) (q0 := 0) rfl rfl) hNW hK hP hD [0, 1, 2, 3, 5] rfl (by decide) rfl hl.1 rfl (lv_room (Nat.le_of_ble_eq_true rfl)) d_M_told_116 ⟨Nat.le_of_ble_eq_true rfl, Nat.le_of_ble_eq_true rfl⟩) hP hD hS hA [0, 1, 2, 3, 5] rfl rfl (fun H locs hP hD hS => ?_)
                have hP : va_P D CL (w_M_told T q0 q0_a q0_b q0_c q0_rowScale q0_columnScale q0_sa q0_sb q0_sc q0_x q0_s q0_y q0_p q0_d q0_h q0_f q0_mm q0_low q0_dd q0_r q0_big q0_dt q0_dx q0_t q0_cost q0_rowScaleNow q0_columnScaleNow q0_basic q0_text q0_turned q0_na q0_nb q0_nc vq0_m vq0_n vq0_length vq0_where vq0_effort 0 vq0_at vq0_scaled vq0_solved vq0_second vq0_nm vq0_nn vq0_number vq0_bad vq0_b vq0_c vq0_x vq0_s vq0_y) H := hP
                have hD : va_D A (w_M_told T q0 q0_a q0_b q0_c q0_rowScale q0_columnScale q0_sa q0_sb q0_sc q0_x q0_s q0_y q0_p q0_d q0_h q0_f q0_mm q0_low q0_dd q0_r q0_big q0_dt q0_dx q0_t q0_cost q0_rowScaleNow q0_columnScaleNow q0_basic q0_text q0_turned q0_na q0_nb q0_nc vq0_m vq0_n vq0_length vq0_where vq0_effort 0 vq0_at vq0_scaled vq0_solved vq0_second vq0_nm vq0_nn vq0_number vq0_bad vq0_b vq0_c vq0_x vq0_s vq0_y) := hD
                exact rtD hx hb hr hlocks hQ (Option.some.inj h) hP hS d_M_told_119 rfl rfl
              · have h := it_t c8 h
                refine lv_aload_n hx hb d_M_told_105 rfl (lv_at hl 0 rfl) ?_
                refine va_get (D := D) (ci := 8) (v := .ref q0_y) (C := "ConeForgeModel") (T := FM) (N := 46) hx hb hts iM hown hK hP 0 rfl rfl 10 (by decide) (hts _ (bgc bw694)) (fun _ h9 => h9) rfl d_M_told_106 ?_
                refine lv_iload_n hx hb d_M_told_109 rfl (lv_at hl 2 rfl) ?_
                obtain ⟨g10, h⟩ := gd_some h
                refine va_dald hx hb hK hP 5 0 rfl rfl (inb_in g10) d_M_told_110 ?_
                refine lv_goto (tgt := 119) hx hb d_M_told_111 (by decide) ?_
                exact rtD hx hb hr hlocks hQ (Option.some.inj h) hP hS d_M_told_119 rfl rfl
            · have h := it_t c7 h
              refine lv_aload_n hx hb d_M_told_91 rfl (lv_at hl 0 rfl) ?_
              refine va_get (D := D) (ci := 8) (v := .ref q0_s) (C := "ConeForgeModel") (T := FM) (N := 46) hx hb hts iM hown hK hP 0 rfl rfl 9 (by decide) (hts _ (bgc bw693)) (fun _ h9 => h9) rfl d_M_told_92 ?_
              refine lv_iload_n hx hb d_M_told_95 rfl (lv_at hl 2 rfl) ?_
              obtain ⟨g11, h⟩ := gd_some h
              refine va_dald hx hb hK hP 4 0 rfl rfl (inb_in g11) d_M_told_96 ?_
              refine lv_goto (tgt := 119) hx hb d_M_told_97 (by decide) ?_
              exact rtD hx hb hr hlocks hQ (Option.some.inj h) hP hS d_M_told_119 rfl rfl
          · have h := it_t c6 h
            refine lv_aload_n hx hb d_M_told_77 rfl (lv_at hl 0 rfl) ?_
            refine va_get (D := D) (ci := 8) (v := .ref q0_x) (C := "ConeForgeModel") (T := FM) (N := 46) hx hb hts iM hown hK hP 0 rfl rfl 8 (by decide) (hts _ (bgc bw692)) (fun _ h9 => h9) rfl d_M_told_78 ?_
            refine lv_iload_n hx hb d_M_told_81 rfl (lv_at hl 2 rfl) ?_
            obtain ⟨g12, h⟩ := gd_some h
            refine va_dald hx hb hK hP 3 0 rfl rfl (inb_in g12) d_M_told_82 ?_
            refine lv_goto (tgt := 119) hx hb d_M_told_83 (by decide) ?_
            exact rtD hx hb hr hlocks hQ (Option.some.inj h) hP hS d_M_told_119 rfl rfl
        · have h := it_f c5 h
          refine lv_dconst0 hx hb d_M_told_71 ?_
          exact rtD hx hb hr hlocks hQ (Option.some.inj h) hP hS d_M_told_72 rfl rfl
      · have h := it_f c4 h
        refine lv_iload_n hx hb d_M_told_30 rfl (lv_at hl 2 rfl) ?_
        refine lv_iconst (v := 0) hx hb d_M_told_31 (by decide) ?_
        refine lv_iload_n hx hb d_M_told_32 rfl (lv_at hl 1 rfl) ?_
        refine lv_iconst (v := 2) hx hb d_M_told_33 (by decide) ?_
        refine lv_icmp_ge (tgt := 44) hx hb d_M_told_34 (by decide) (fun c13 => ?_) (fun c13 => ?_)
        · have h := it_t c13 h
          refine lv_aload_n hx hb d_M_told_44 rfl (lv_at hl 0 rfl) ?_
          refine va_get (D := D) (ci := 8) (v := .int vq0_m) (C := "ConeForgeModel") (T := FM) (N := 46) hx hb hts iM hown hK hP 0 rfl rfl 29 (by decide) (hts _ (bgc bw713)) (fun _ h9 => h9) rfl d_M_told_45 ?_
          refine lv_iconst (v := 1) hx hb d_M_told_48 (by decide) ?_
          refine lv_isub hx hb d_M_told_49 ?_
          obtain ⟨u14, hu14, h⟩ := bi_some h
          refine kI (v := u14) (wc := (w_M_in T  )) (wc' := (w_M_in T  )) (runOS (As := [.int x2, .int 0, .int (vq0_m - 1)]) (rest := [.ref q0]) ((c_M_in l D T   x2 0 (vq0_m - 1) u14 hu14) H.size) ⟨hx, hb, hml, hown, hts⟩ (cwOS bw785 bw786 bw105 bw787 dd_M_in hts ⟨Nat.le_of_ble_eq_true rfl, Nat.le_of_ble_eq_true rfl⟩)  hNW hK hP hD [] rfl (by decide) rfl hl.1 rfl (lv_room (Nat.le_of_ble_eq_true rfl)) d_M_told_50 ⟨Nat.le_of_ble_eq_true rfl, Nat.le_of_ble_eq_true rfl⟩) hP hD hS hA [] rfl rfl (fun H locs hP hD hS => ?_)
          have hP : va_P D CL (w_M_told T q0 q0_a q0_b q0_c q0_rowScale q0_columnScale q0_sa q0_sb q0_sc q0_x q0_s q0_y q0_p q0_d q0_h q0_f q0_mm q0_low q0_dd q0_r q0_big q0_dt q0_dx q0_t q0_cost q0_rowScaleNow q0_columnScaleNow q0_basic q0_text q0_turned q0_na q0_nb q0_nc vq0_m vq0_n vq0_length vq0_where vq0_effort vq0_thrown vq0_at vq0_scaled vq0_solved vq0_second vq0_nm vq0_nn vq0_number vq0_bad vq0_b vq0_c vq0_x vq0_s vq0_y) H := hP
          have hD : va_D A (w_M_told T q0 q0_a q0_b q0_c q0_rowScale q0_columnScale q0_sa q0_sb q0_sc q0_x q0_s q0_y q0_p q0_d q0_h q0_f q0_mm q0_low q0_dd q0_r q0_big q0_dt q0_dx q0_t q0_cost q0_rowScaleNow q0_columnScaleNow q0_basic q0_text q0_turned q0_na q0_nb q0_nc vq0_m vq0_n vq0_length vq0_where vq0_effort vq0_thrown vq0_at vq0_scaled vq0_solved vq0_second vq0_nm vq0_nn vq0_number vq0_bad vq0_b vq0_c vq0_x vq0_s vq0_y) := hD
          refine lv_if_ne (tgt := 60) hx hb d_M_told_53 (by decide) (fun c15 => ?_) (fun c15 => ?_)
          · have h := it_f c15 h
            refine lv_iconst (v := 0) hx hb d_M_told_60 (by decide) ?_
            refine va_put (D := D) (ci := 8) (v := .int 0) (ty := .int) (C := "ConeForgeModel") (T := FM) (N := 46) hx hb hts iM tM tM_ok nmM hown hK hP hD hS 0 rfl rfl 34 (by decide) (hts _ (bgc bw718)) (fun _ h9 => h9) rfl (by decide +kernel) rfl rfl (Nat.le_of_ble_eq_true rfl) d_M_told_61 (fun H locs hP hD hS => ?_)
            have hP : va_P D CL (w_M_told T q0 q0_a q0_b q0_c q0_rowScale q0_columnScale q0_sa q0_sb q0_sc q0_x q0_s q0_y q0_p q0_d q0_h q0_f q0_mm q0_low q0_dd q0_r q0_big q0_dt q0_dx q0_t q0_cost q0_rowScaleNow q0_columnScaleNow q0_basic q0_text q0_turned q0_na q0_nb q0_nc vq0_m vq0_n vq0_length vq0_where vq0_effort 0 vq0_at vq0_scaled vq0_solved vq0_second vq0_nm vq0_nn vq0_number vq0_bad vq0_b vq0_c vq0_x vq0_s vq0_y) H := hP
            have hD : va_D A (w_M_told T q0 q0_a q0_b q0_c q0_rowScale q0_columnScale q0_sa q0_sb q0_sc q0_x q0_s q0_y q0_p q0_d q0_h q0_f q0_mm q0_low q0_dd q0_r q0_big q0_dt q0_dx q0_t q0_cost q0_rowScaleNow q0_columnScaleNow q0_basic q0_text q0_turned q0_na q0_nb q0_nc vq0_m vq0_n vq0_length vq0_where vq0_effort 0 vq0_at vq0_scaled vq0_solved vq0_second vq0_nm vq0_nn vq0_number vq0_bad vq0_b vq0_c vq0_x vq0_s vq0_y) := hD
            refine lv_aload_n hx hb d_M_told_64 rfl (lv_at hl 0 rfl) ?_
            refine va_get (D := D) (ci := 8) (v := .int 0) (C := "ConeForgeModel") (T := FM) (N := 46) hx hb hts iM hown hK hP 0 rfl rfl 34 (by decide) (hts _ (bgc bw718)) (fun _ h9 => h9) rfl d_M_told_65 ?_
            refine lv_if_le (tgt := 73) hx hb d_M_told_68 (by decide) (fun c16 => ?_) (fun c16 => ?_)
            · have h := it_t c16 h
              refine lv_iload_n hx hb d_M_told_73 rfl (lv_at hl 1 rfl) ?_
              refine lv_if_ne (tgt := 86) hx hb d_M_told_74 (by decide) (fun c17 => ?_) (fun c17 => ?_)
              · have h := it_f c17 h
                refine lv_iload_n hx hb d_M_told_86 rfl (lv_at hl 1 rfl) ?_
                refine lv_iconst (v := 1) hx hb d_M_told_87 (by decide) ?_
                refine lv_icmp_ne (tgt := 100) hx hb d_M_told_88 (by decide) (fun c18 => ?_) (fun c18 => ?_)
                · have h := it_f c18 h
                  refine lv_iload_n hx hb d_M_told_100 rfl (lv_at hl 1 rfl) ?_
                  refine lv_iconst (v := 2) hx hb d_M_told_101 (by decide) ?_
                  refine lv_icmp_ne (tgt := 114) hx hb d_M_told_102 (by decide) (fun c19 => ?_) (fun c19 => ?_)
                  · have h := it_f c19 h
                    refine lv_aload_n hx hb d_M_told_114 rfl (lv_at hl 0 rfl) ?_
                    refine lv_iload_n hx hb d_M_told_115 rfl (lv_at hl 1 rfl) ?_
                    obtain ⟨u20, hu20, h⟩ := bi_some h
                    refine kD (v := u20) (wc := (w_M_total T q0 q0_a q0_b q0_c q0_rowScale q0_columnScale q0_sa q0_sb q0_sc q0_x q0_s q0_y q0_p q0_d q0_h q0_f q0_mm q0_low q0_dd q0_r q0_big q0_dt q0_dx q0_t q0_cost q0_rowScaleNow q0_columnScaleNow q0_basic q0_text q0_turned q0_na q0_nb q0_nc vq0_m vq0_n vq0_length vq0_where vq0_effort 0 vq0_at vq0_scaled vq0_solved vq0_second vq0_nm vq0_nn vq0_number vq0_bad vq0_b vq0_c vq0_x vq0_y)) (wc' := (w_M_total T q0 q0_a q0_b q0_c q0_rowScale q0_columnScale q0_sa q0_sb q0_sc q0_x q0_s q0_y q0_p q0_d q0_h q0_f q0_mm q0_low q0_dd q0_r q0_big q0_dt q0_dx q0_t q0_cost q0_rowScaleNow q0_columnScaleNow q0_basic q0_text q0_turned q0_na q0_nb q0_nc vq0_m vq0_n vq0_length vq0_where vq0_effort 0 vq0_at vq0_scaled vq0_solved vq0_second vq0_nm vq0_nn vq0_number vq0_bad vq0_b vq0_c vq0_x vq0_y)) (runOV (As := [.int x1]) (rest := []) ((c_M_total l D T q0 q0_a q0_b q0_c q0_rowScale q0_columnScale q0_sa q0_sb q0_sc q0_x q0_s q0_y q0_p q0_d q0_h q0_f q0_mm q0_low q0_dd q0_r q0_big q0_dt q0_dx q0_t q0_cost q0_rowScaleNow q0_columnScaleNow q0_basic q0_text q0_turned q0_na q0_nb q0_nc vq0_m vq0_n vq0_length vq0_where vq0_effort 0 vq0_at vq0_scaled vq0_solved vq0_second vq0_nm vq0_nn vq0_number vq0_bad vq0_b vq0_c vq0_x vq0_y x1 u20 hu20) H.size) ⟨hx, hb, hml, hown, hts⟩ (cwOV bw927 bw928 bw91 bw105 bw929 dd_M_total hts ⟨Nat.le_of_ble_eq_true rfl, Nat.le_of_ble_eq_true rfl⟩) (va_recv hK hP (ci := 8) (q0 := 0) rfl rfl) hNW hK hP hD [0, 1, 2, 3, 5] rfl (by decide) rfl hl.1 rfl (lv_room (Nat.le_of_ble_eq_true rfl)) d_M_told_116 ⟨Nat.le_of_ble_eq_true rfl, Nat.le_of_ble_eq_true rfl⟩) hP hD hS hA [0, 1, 2, 3, 5] rfl rfl (fun H locs hP hD hS => ?_)
                    have hP : va_P D CL (w_M_told T q0 q0_a q0_b q0_c q0_rowScale q0_columnScale q0_sa q0_sb q0_sc q0_x q0_s q0_y q0_p q0_d q0_h q0_f q0_mm q0_low q0_dd q0_r q0_big q0_dt q0_dx q0_t q0_cost q0_rowScaleNow q0_columnScaleNow q0_basic q0_text q0_turned q0_na q0_nb q0_nc vq0_m vq0_n vq0_length vq0_where vq0_effort 0 vq0_at vq0_scaled vq0_solved vq0_second vq0_nm vq0_nn vq0_number vq0_bad vq0_b vq0_c vq0_x vq0_s vq0_y) H := hP
                    have hD : va_D A (w_M_told T q0 q0_a q0_b q0_c q0_rowScale q0_columnScale q0_sa q0_sb q0_sc q0_x q0_s q0_y q0_p q0_d q0_h q0_f q0_mm q0_low q0_dd q0_r q0_big q0_dt q0_dx q0_t q0_cost q0_rowScaleNow q0_columnScaleNow q0_basic q0_text q0_turned q0_na q0_nb q0_nc vq0_m vq0_n vq0_length vq0_where vq0_effort 0 vq0_at vq0_scaled vq0_solved vq0_second vq0_nm vq0_nn vq0_number vq0_bad vq0_b vq0_c vq0_x vq0_s vq0_y) := hD
                    exact rtD hx hb hr hlocks hQ (Option.some.inj h) hP hS d_M_told_119 rfl rfl
                  · have h := it_t c19 h
                    refine lv_aload_n hx hb d_M_told_105 rfl (lv_at hl 0 rfl) ?_
                    refine va_get (D := D) (ci := 8) (v := .ref q0_y) (C := "ConeForgeModel") (T := FM) (N := 46) hx hb hts iM hown hK hP 0 rfl rfl 10 (by decide) (hts _ (bgc bw694)) (fun _ h9 => h9) rfl d_M_told_106 ?_
                    refine lv_iload_n hx hb d_M_told_109 rfl (lv_at hl 2 rfl) ?_
                    obtain ⟨g21, h⟩ := gd_some h
                    refine va_dald hx hb hK hP 5 0 rfl rfl (inb_in g21) d_M_told_110 ?_
                    refine lv_goto (tgt := 119) hx hb d_M_told_111 (by decide) ?_
                    exact rtD hx hb hr hlocks hQ (Option.some.inj h) hP hS d_M_told_119 rfl rfl
                · have h := it_t c18 h
                  refine lv_aload_n hx hb d_M_told_91 rfl (lv_at hl 0 rfl) ?_
                  refine va_get (D := D) (ci := 8) (v := .ref q0_s) (C := "ConeForgeModel") (T := FM) (N := 46) hx hb hts iM hown hK hP 0 rfl rfl 9 (by decide) (hts _ (bgc bw693)) (fun _ h9 => h9) rfl d_M_told_92 ?_
                  refine lv_iload_n hx hb d_M_told_95 rfl (lv_at hl 2 rfl) ?_
                  obtain ⟨g22, h⟩ := gd_some h
                  refine va_dald hx hb hK hP 4 0 rfl rfl (inb_in g22) d_M_told_96 ?_
                  refine lv_goto (tgt := 119) hx hb d_M_told_97 (by decide) ?_
                  exact rtD hx hb hr hlocks hQ (Option.some.inj h) hP hS d_M_told_119 rfl rfl
              · have h := it_t c17 h
                refine lv_aload_n hx hb d_M_told_77 rfl (lv_at hl 0 rfl) ?_
                refine va_get (D := D) (ci := 8) (v := .ref q0_x) (C := "ConeForgeModel") (T := FM) (N := 46) hx hb hts iM hown hK hP 0 rfl rfl 8 (by decide) (hts _ (bgc bw692)) (fun _ h9 => h9) rfl d_M_told_78 ?_
                refine lv_iload_n hx hb d_M_told_81 rfl (lv_at hl 2 rfl) ?_
                obtain ⟨g23, h⟩ := gd_some h
                refine va_dald hx hb hK hP 3 0 rfl rfl (inb_in g23) d_M_told_82 ?_
                refine lv_goto (tgt := 119) hx hb d_M_told_83 (by decide) ?_
                exact rtD hx hb hr hlocks hQ (Option.some.inj h) hP hS d_M_told_119 rfl rfl
            · have h := it_f c16 h
              refine lv_dconst0 hx hb d_M_told_71 ?_
              exact rtD hx hb hr hlocks hQ (Option.some.inj h) hP hS d_M_told_72 rfl rfl
          · have h := it_t c15 h
            refine lv_iconst (v := 3) hx hb d_M_told_56 (by decide) ?_
            refine lv_goto (tgt := 61) hx hb d_M_told_57 (by decide) ?_
            refine va_put (D := D) (ci := 8) (v := .int 3) (ty := .int) (C := "ConeForgeModel") (T := FM) (N := 46) hx hb hts iM tM tM_ok nmM hown hK hP hD hS 0 rfl rfl 34 (by decide) (hts _ (bgc bw718)) (fun _ h9 => h9) rfl (by decide +kernel) rfl rfl (Nat.le_of_ble_eq_true rfl) d_M_told_61 (fun H locs hP hD hS => ?_)
            have hP : va_P D CL (w_M_told T q0 q0_a q0_b q0_c q0_rowScale q0_columnScale q0_sa q0_sb q0_sc q0_x q0_s q0_y q0_p q0_d q0_h q0_f q0_mm q0_low q0_dd q0_r q0_big q0_dt q0_dx q0_t q0_cost q0_rowScaleNow q0_columnScaleNow q0_basic q0_text q0_turned q0_na q0_nb q0_nc vq0_m vq0_n vq0_length vq0_where vq0_effort 3 vq0_at vq0_scaled vq0_solved vq0_second vq0_nm vq0_nn vq0_number vq0_bad vq0_b vq0_c vq0_x vq0_s vq0_y) H := hP
            have hD : va_D A (w_M_told T q0 q0_a q0_b q0_c q0_rowScale q0_columnScale q0_sa q0_sb q0_sc q0_x q0_s q0_y q0_p q0_d q0_h q0_f q0_mm q0_low q0_dd q0_r q0_big q0_dt q0_dx q0_t q0_cost q0_rowScaleNow q0_columnScaleNow q0_basic q0_text q0_turned q0_na q0_nb q0_nc vq0_m vq0_n vq0_length vq0_where vq0_effort 3 vq0_at vq0_scaled vq0_solved vq0_second vq0_nm vq0_nn vq0_number vq0_bad vq0_b vq0_c vq0_x vq0_s vq0_y) := hD
            refine lv_aload_n hx hb d_M_told_64 rfl (lv_at hl 0 rfl) ?_
            refine va_get (D := D) (ci := 8) (v := .int 3) (C := "ConeForgeModel") (T := FM) (N := 46) hx hb hts iM hown hK hP 0 rfl rfl 34 (by decide) (hts _ (bgc bw718)) (fun _ h9 => h9) rfl d_M_told_65 ?_
            refine lv_if_le (tgt := 73) hx hb d_M_told_68 (by decide) (fun c24 => ?_) (fun c24 => ?_)
            · have h := it_t c24 h
              refine lv_iload_n hx hb d_M_told_73 rfl (lv_at hl 1 rfl) ?_
              refine lv_if_ne (tgt := 86) hx hb d_M_told_74 (by decide) (fun c25 => ?_) (fun c25 => ?_)
              · have h := it_f c25 h
                refine lv_iload_n hx hb d_M_told_86 rfl (lv_at hl 1 rfl) ?_
                refine lv_iconst (v := 1) hx hb d_M_told_87 (by decide) ?_
                refine lv_icmp_ne (tgt := 100) hx hb d_M_told_88 (by decide) (fun c26 => ?_) (fun c26 => ?_)
                · have h := it_f c26 h
                  refine lv_iload_n hx hb d_M_told_100 rfl (lv_at hl 1 rfl) ?_
                  refine lv_iconst (v := 2) hx hb d_M_told_101 (by decide) ?_
                  refine lv_icmp_ne (tgt := 114) hx hb d_M_told_102 (by decide) (fun c27 => ?_) (fun c27 => ?_)
                  · have h := it_f c27 h
                    refine lv_aload_n hx hb d_M_told_114 rfl (lv_at hl 0 rfl) ?_
                    refine lv_iload_n hx hb d_M_told_115 rfl (lv_at hl 1 rfl) ?_
                    obtain ⟨u28, hu28, h⟩ := bi_some h
                    refine kD (v := u28) (wc := (w_M_total T q0 q0_a q0_b q0_c q0_rowScale q0_columnScale q0_sa q0_sb q0_sc q0_x q0_s q0_y q0_p q0_d q0_h q0_f q0_mm q0_low q0_dd q0_r q0_big q0_dt q0_dx q0_t q0_cost q0_rowScaleNow q0_columnScaleNow q0_basic q0_text q0_turned q0_na q0_nb q0_nc vq0_m vq0_n vq0_length vq0_where vq0_effort 3 vq0_at vq0_scaled vq0_solved vq0_second vq0_nm vq0_nn vq0_number vq0_bad vq0_b vq0_c vq0_x vq0_y)) (wc' := (w_M_total T q0 q0_a q0_b q0_c q0_rowScale q0_columnScale q0_sa q0_sb q0_sc q0_x q0_s q0_y q0_p q0_d q0_h q0_f q0_mm q0_low q0_dd q0_r q0_big q0_dt q0_dx q0_t q0_cost q0_rowScaleNow q0_columnScaleNow q0_basic q0_text q0_turned q0_na q0_nb q0_nc vq0_m vq0_n vq0_length vq0_where vq0_effort 3 vq0_at vq0_scaled vq0_solved vq0_second vq0_nm vq0_nn vq0_number vq0_bad vq0_b vq0_c vq0_x vq0_y)) (runOV (As := [.int x1]) (rest := []) ((c_M_total l D T q0 q0_a q0_b q0_c q0_rowScale q0_columnScale q0_sa q0_sb q0_sc q0_x q0_s q0_y q0_p q0_d q0_h q0_f q0_mm q0_low q0_dd q0_r q0_big q0_dt q0_dx q0_t q0_cost q0_rowScaleNow q0_columnScaleNow q0_basic q0_text q0_turned q0_na q0_nb q0_nc vq0_m vq0_n vq0_length vq0_where vq0_effort 3 vq0_at vq0_scaled vq0_solved vq0_second vq0_nm vq0_nn vq0_number vq0_bad vq0_b vq0_c vq0_x vq0_y x1 u28 hu28) H.size) ⟨hx, hb, hml, hown, hts⟩ (cwOV bw927 bw928 bw91 bw105 bw929 dd_M_total hts ⟨Nat.le_of_ble_eq_true rfl, Nat.le_of_ble_eq_true rfl⟩) (va_recv hK hP (ci := 8) (q0 := 0) rfl rfl) hNW hK hP hD [0, 1, 2, 3, 5] rfl (by decide) rfl hl.1 rfl (lv_room (Nat.le_of_ble_eq_true rfl)) d_M_told_116 ⟨Nat.le_of_ble_eq_true rfl, Nat.le_of_ble_eq_true rfl⟩) hP hD hS hA [0, 1, 2, 3, 5] rfl rfl (fun H locs hP hD hS => ?_)
                    have hP : va_P D CL (w_M_told T q0 q0_a q0_b q0_c q0_rowScale q0_columnScale q0_sa q0_sb q0_sc q0_x q0_s q0_y q0_p q0_d q0_h q0_f q0_mm q0_low q0_dd q0_r q0_big q0_dt q0_dx q0_t q0_cost q0_rowScaleNow q0_columnScaleNow q0_basic q0_text q0_turned q0_na q0_nb q0_nc vq0_m vq0_n vq0_length vq0_where vq0_effort 3 vq0_at vq0_scaled vq0_solved vq0_second vq0_nm vq0_nn vq0_number vq0_bad vq0_b vq0_c vq0_x vq0_s vq0_y) H := hP
                    have hD : va_D A (w_M_told T q0 q0_a q0_b q0_c q0_rowScale q0_columnScale q0_sa q0_sb q0_sc q0_x q0_s q0_y q0_p q0_d q0_h q0_f q0_mm q0_low q0_dd q0_r q0_big q0_dt q0_dx q0_t q0_cost q0_rowScaleNow q0_columnScaleNow q0_basic q0_text q0_turned q0_na q0_nb q0_nc vq0_m vq0_n vq0_length vq0_where vq0_effort 3 vq0_at vq0_scaled vq0_solved vq0_second vq0_nm vq0_nn vq0_number vq0_bad vq0_b vq0_c vq0_x vq0_s vq0_y) := hD
                    exact rtD hx hb hr hlocks hQ (Option.some.inj h) hP hS d_M_told_119 rfl rfl
                  · have h := it_t c27 h
                    refine lv_aload_n hx hb d_M_told_105 rfl (lv_at hl 0 rfl) ?_
                    refine va_get (D := D) (ci := 8) (v := .ref q0_y) (C := "ConeForgeModel") (T := FM) (N := 46) hx hb hts iM hown hK hP 0 rfl rfl 10 (by decide) (hts _ (bgc bw694)) (fun _ h9 => h9) rfl d_M_told_106 ?_
                    refine lv_iload_n hx hb d_M_told_109 rfl (lv_at hl 2 rfl) ?_
                    obtain ⟨g29, h⟩ := gd_some h
                    refine va_dald hx hb hK hP 5 0 rfl rfl (inb_in g29) d_M_told_110 ?_
                    refine lv_goto (tgt := 119) hx hb d_M_told_111 (by decide) ?_
                    exact rtD hx hb hr hlocks hQ (Option.some.inj h) hP hS d_M_told_119 rfl rfl
                · have h := it_t c26 h
                  refine lv_aload_n hx hb d_M_told_91 rfl (lv_at hl 0 rfl) ?_
                  refine va_get (D := D) (ci := 8) (v := .ref q0_s) (C := "ConeForgeModel") (T := FM) (N := 46) hx hb hts iM hown hK hP 0 rfl rfl 9 (by decide) (hts _ (bgc bw693)) (fun _ h9 => h9) rfl d_M_told_92 ?_
                  refine lv_iload_n hx hb d_M_told_95 rfl (lv_at hl 2 rfl) ?_
                  obtain ⟨g30, h⟩ := gd_some h
                  refine va_dald hx hb hK hP 4 0 rfl rfl (inb_in g30) d_M_told_96 ?_
                  refine lv_goto (tgt := 119) hx hb d_M_told_97 (by decide) ?_
                  exact rtD hx hb hr hlocks hQ (Option.some.inj h) hP hS d_M_told_119 rfl rfl
              · have h := it_t c25 h
                refine lv_aload_n hx hb d_M_told_77 rfl (lv_at hl 0 rfl) ?_
                refine va_get (D := D) (ci := 8) (v := .ref q0_x) (C := "ConeForgeModel") (T := FM) (N := 46) hx hb hts iM hown hK hP 0 rfl rfl 8 (by decide) (hts _ (bgc bw692)) (fun _ h9 => h9) rfl d_M_told_78 ?_
                refine lv_iload_n hx hb d_M_told_81 rfl (lv_at hl 2 rfl) ?_
                obtain ⟨g31, h⟩ := gd_some h
                refine va_dald hx hb hK hP 3 0 rfl rfl (inb_in g31) d_M_told_82 ?_
                refine lv_goto (tgt := 119) hx hb d_M_told_83 (by decide) ?_
                exact rtD hx hb hr hlocks hQ (Option.some.inj h) hP hS d_M_told_119 rfl rfl
            · have h := it_f c24 h
              refine lv_dconst0 hx hb d_M_told_71 ?_
              exact rtD hx hb hr hlocks hQ (Option.some.inj h) hP hS d_M_told_72 rfl rfl
        · have h := it_f c13 h
          refine lv_aload_n hx hb d_M_told_37 rfl (lv_at hl 0 rfl) ?_
          refine va_get (D := D) (ci := 8) (v := .int vq0_n) (C := "ConeForgeModel") (T := FM) (N := 46) hx hb hts iM hown hK hP 0 rfl rfl 30 (by decide) (hts _ (bgc bw714)) (fun _ h9 => h9) rfl d_M_told_38 ?_
          refine lv_goto (tgt := 48) hx hb d_M_told_41 (by decide) ?_
          refine lv_iconst (v := 1) hx hb d_M_told_48 (by decide) ?_
          refine lv_isub hx hb d_M_told_49 ?_
          obtain ⟨u32, hu32, h⟩ := bi_some h
          refine kI (v := u32) (wc := (w_M_in T  )) (wc' := (w_M_in T  )) (runOS (As := [.int x2, .int 0, .int (vq0_n - 1)]) (rest := [.ref q0]) ((c_M_in l D T   x2 0 (vq0_n - 1) u32 hu32) H.size) ⟨hx, hb, hml, hown, hts⟩ (cwOS bw785 bw786 bw105 bw787 dd_M_in hts ⟨Nat.le_of_ble_eq_true rfl, Nat.le_of_ble_eq_true rfl⟩)  hNW hK hP hD [] rfl (by decide) rfl hl.1 rfl (lv_room (Nat.le_of_ble_eq_true rfl)) d_M_told_50 ⟨Nat.le_of_ble_eq_true rfl, Nat.le_of_ble_eq_true rfl⟩) hP hD hS hA [] rfl rfl (fun H locs hP hD hS => ?_)
          have hP : va_P D CL (w_M_told T q0 q0_a q0_b q0_c q0_rowScale q0_columnScale q0_sa q0_sb q0_sc q0_x q0_s q0_y q0_p q0_d q0_h q0_f q0_mm q0_low q0_dd q0_r q0_big q0_dt q0_dx q0_t q0_cost q0_rowScaleNow q0_columnScaleNow q0_basic q0_text q0_turned q0_na q0_nb q0_nc vq0_m vq0_n vq0_length vq0_where vq0_effort vq0_thrown vq0_at vq0_scaled vq0_solved vq0_second vq0_nm vq0_nn vq0_number vq0_bad vq0_b vq0_c vq0_x vq0_s vq0_y) H := hP
          have hD : va_D A (w_M_told T q0 q0_a q0_b q0_c q0_rowScale q0_columnScale q0_sa q0_sb q0_sc q0_x q0_s q0_y q0_p q0_d q0_h q0_f q0_mm q0_low q0_dd q0_r q0_big q0_dt q0_dx q0_t q0_cost q0_rowScaleNow q0_columnScaleNow q0_basic q0_text q0_turned q0_na q0_nb q0_nc vq0_m vq0_n vq0_length vq0_where vq0_effort vq0_thrown vq0_at vq0_scaled vq0_solved vq0_second vq0_nm vq0_nn vq0_number vq0_bad vq0_b vq0_c vq0_x vq0_s vq0_y) := hD
          refine lv_if_ne (tgt := 60) hx hb d_M_told_53 (by decide) (fun c33 => ?_) (fun c33 => ?_)
          · have h := it_f c33 h
            refine lv_iconst (v := 0) hx hb d_M_told_60 (by decide) ?_
            refine va_put (D := D) (ci := 8) (v := .int 0) (ty := .int) (C := "ConeForgeModel") (T := FM) (N := 46) hx hb hts iM tM tM_ok nmM hown hK hP hD hS 0 rfl rfl 34 (by decide) (hts _ (bgc bw718)) (fun _ h9 => h9) rfl (by decide +kernel) rfl rfl (Nat.le_of_ble_eq_true rfl) d_M_told_61 (fun H locs hP hD hS => ?_)
            have hP : va_P D CL (w_M_told T q0 q0_a q0_b q0_c q0_rowScale q0_columnScale q0_sa q0_sb q0_sc q0_x q0_s q0_y q0_p q0_d q0_h q0_f q0_mm q0_low q0_dd q0_r q0_big q0_dt q0_dx q0_t q0_cost q0_rowScaleNow q0_columnScaleNow q0_basic q0_text q0_turned q0_na q0_nb q0_nc vq0_m vq0_n vq0_length vq0_where vq0_effort 0 vq0_at vq0_scaled vq0_solved vq0_second vq0_nm vq0_nn vq0_number vq0_bad vq0_b vq0_c vq0_x vq0_s vq0_y) H := hP
            have hD : va_D A (w_M_told T q0 q0_a q0_b q0_c q0_rowScale q0_columnScale q0_sa q0_sb q0_sc q0_x q0_s q0_y q0_p q0_d q0_h q0_f q0_mm q0_low q0_dd q0_r q0_big q0_dt q0_dx q0_t q0_cost q0_rowScaleNow q0_columnScaleNow q0_basic q0_text q0_turned q0_na q0_nb q0_nc vq0_m vq0_n vq0_length vq0_where vq0_effort 0 vq0_at vq0_scaled vq0_solved vq0_second vq0_nm vq0_nn vq0_number vq0_bad vq0_b vq0_c vq0_x vq0_s vq0_y) := hD
            refine lv_aload_n hx hb d_M_told_64 rfl (lv_at hl 0 rfl) ?_
            refine va_get (D := D) (ci := 8) (v := .int 0) (C := "ConeForgeModel") (T := FM) (N := 46) hx hb hts iM hown hK hP 0 rfl rfl 34 (by decide) (hts _ (bgc bw718)) (fun _ h9 => h9) rfl d_M_told_65 ?_
            refine lv_if_le (tgt := 73) hx hb d_M_told_68 (by decide) (fun c34 => ?_) (fun c34 => ?_)
            · have h := it_t c34 h
              refine lv_iload_n hx hb d_M_told_73 rfl (lv_at hl 1 rfl) ?_
              refine lv_if_ne (tgt := 86) hx hb d_M_told_74 (by decide) (fun c35 => ?_) (fun c35 => ?_)
              · have h := it_f c35 h
                refine lv_iload_n hx hb d_M_told_86 rfl (lv_at hl 1 rfl) ?_
                refine lv_iconst (v := 1) hx hb d_M_told_87 (by decide) ?_
                refine lv_icmp_ne (tgt := 100) hx hb d_M_told_88 (by decide) (fun c36 => ?_) (fun c36 => ?_)
                · have h := it_f c36 h
                  refine lv_iload_n hx hb d_M_told_100 rfl (lv_at hl 1 rfl) ?_
                  refine lv_iconst (v := 2) hx hb d_M_told_101 (by decide) ?_
                  refine lv_icmp_ne (tgt := 114) hx hb d_M_told_102 (by decide) (fun c37 => ?_) (fun c37 => ?_)
                  · have h := it_f c37 h
                    refine lv_aload_n hx hb d_M_told_114 rfl (lv_at hl 0 rfl) ?_
                    refine lv_iload_n hx hb d_M_told_115 rfl (lv_at hl 1 rfl) ?_
                    obtain ⟨u38, hu38, h⟩ := bi_some h
                    refine kD (v := u38) (wc := (w_M_total T q0 q0_a q0_b q0_c q0_rowScale q0_columnScale q0_sa q0_sb q0_sc q0_x q0_s q0_y q0_p q0_d q0_h q0_f q0_mm q0_low q0_dd q0_r q0_big q0_dt q0_dx q0_t q0_cost q0_rowScaleNow q0_columnScaleNow q0_basic q0_text q0_turned q0_na q0_nb q0_nc vq0_m vq0_n vq0_length vq0_where vq0_effort 0 vq0_at vq0_scaled vq0_solved vq0_second vq0_nm vq0_nn vq0_number vq0_bad vq0_b vq0_c vq0_x vq0_y)) (wc' := (w_M_total T q0 q0_a q0_b q0_c q0_rowScale q0_columnScale q0_sa q0_sb q0_sc q0_x q0_s q0_y q0_p q0_d q0_h q0_f q0_mm q0_low q0_dd q0_r q0_big q0_dt q0_dx q0_t q0_cost q0_rowScaleNow q0_columnScaleNow q0_basic q0_text q0_turned q0_na q0_nb q0_nc vq0_m vq0_n vq0_length vq0_where vq0_effort 0 vq0_at vq0_scaled vq0_solved vq0_second vq0_nm vq0_nn vq0_number vq0_bad vq0_b vq0_c vq0_x vq0_y)) (runOV (As := [.int x1]) (rest := []) ((c_M_total l D T q0 q0_a q0_b q0_c q0_rowScale q0_columnScale q0_sa q0_sb q0_sc q0_x q0_s q0_y q0_p q0_d q0_h q0_f q0_mm q0_low q0_dd q0_r q0_big q0_dt q0_dx q0_t q0_cost q0_rowScaleNow q0_columnScaleNow q0_basic q0_text q0_turned q0_na q0_nb q0_nc vq0_m vq0_n vq0_length vq0_where vq0_effort 0 vq0_at vq0_scaled vq0_solved vq0_second vq0_nm vq0_nn vq0_number vq0_bad vq0_b vq0_c vq0_x vq0_y x1 u38 hu38) H.size) ⟨hx, hb, hml, hown, hts⟩ (cwOV bw927 bw928 bw91 bw105 bw929 dd_M_total hts ⟨Nat.le_of_ble_eq_true rfl, Nat.le_of_ble_eq_true rfl⟩) (va_recv hK hP (ci := 8) (q0 := 0) rfl rfl) hNW hK hP hD [0, 1, 2, 3, 5] rfl (by decide) rfl hl.1 rfl (lv_room (Nat.le_of_ble_eq_true rfl)) d_M_told_116 ⟨Nat.le_of_ble_eq_true rfl, Nat.le_of_ble_eq_true rfl⟩) hP hD hS hA [0, 1, 2, 3, 5] rfl rfl (fun H locs hP hD hS => ?_)
                    have hP : va_P D CL (w_M_told T q0 q0_a q0_b q0_c q0_rowScale q0_columnScale q0_sa q0_sb q0_sc q0_x q0_s q0_y q0_p q0_d q0_h q0_f q0_mm q0_low q0_dd q0_r q0_big q0_dt q0_dx q0_t q0_cost q0_rowScaleNow q0_columnScaleNow q0_basic q0_text q0_turned q0_na q0_nb q0_nc vq0_m vq0_n vq0_length vq0_where vq0_effort 0 vq0_at vq0_scaled vq0_solved vq0_second vq0_nm vq0_nn vq0_number vq0_bad vq0_b vq0_c vq0_x vq0_s vq0_y) H := hP
                    have hD : va_D A (w_M_told T q0 q0_a q0_b q0_c q0_rowScale q0_columnScale q0_sa q0_sb q0_sc q0_x q0_s q0_y q0_p q0_d q0_h q0_f q0_mm q0_low q0_dd q0_r q0_big q0_dt q0_dx q0_t q0_cost q0_rowScaleNow q0_columnScaleNow q0_basic q0_text q0_turned q0_na q0_nb q0_nc vq0_m vq0_n vq0_length vq0_where vq0_effort 0 vq0_at vq0_scaled vq0_solved vq0_second vq0_nm vq0_nn vq0_number vq0_bad vq0_b vq0_c vq0_x vq0_s vq0_y) := hD
                    exact rtD hx hb hr hlocks hQ (Option.some.inj h) hP hS d_M_told_119 rfl rfl
                  · have h := it_t c37 h
                    refine lv_aload_n hx hb d_M_told_105 rfl (lv_at hl 0 rfl) ?_
                    refine va_get (D := D) (ci := 8) (v := .ref q0_y) (C := "ConeForgeModel") (T := FM) (N := 46) hx hb hts iM hown hK hP 0 rfl rfl 10 (by decide) (hts _ (bgc bw694)) (fun _ h9 => h9) rfl d_M_told_106 ?_
                    refine lv_iload_n hx hb d_M_told_109 rfl (lv_at hl 2 rfl) ?_
                    obtain ⟨g39, h⟩ := gd_some h
                    refine va_dald hx hb hK hP 5 0 rfl rfl (inb_in g39) d_M_told_110 ?_
                    refine lv_goto (tgt := 119) hx hb d_M_told_111 (by decide) ?_
                    exact rtD hx hb hr hlocks hQ (Option.some.inj h) hP hS d_M_told_119 rfl rfl
                · have h := it_t c36 h
                  refine lv_aload_n hx hb d_M_told_91 rfl (lv_at hl 0 rfl) ?_
                  refine va_get (D := D) (ci := 8) (v := .ref q0_s) (C := "ConeForgeModel") (T := FM) (N := 46) hx hb hts iM hown hK hP 0 rfl rfl 9 (by decide) (hts _ (bgc bw693)) (fun _ h9 => h9) rfl d_M_told_92 ?_
                  refine lv_iload_n hx hb d_M_told_95 rfl (lv_at hl 2 rfl) ?_
                  obtain ⟨g40, h⟩ := gd_some h
                  refine va_dald hx hb hK hP 4 0 rfl rfl (inb_in g40) d_M_told_96 ?_
                  refine lv_goto (tgt := 119) hx hb d_M_told_97 (by decide) ?_
                  exact rtD hx hb hr hlocks hQ (Option.some.inj h) hP hS d_M_told_119 rfl rfl
              · have h := it_t c35 h
                refine lv_aload_n hx hb d_M_told_77 rfl (lv_at hl 0 rfl) ?_
                refine va_get (D := D) (ci := 8) (v := .ref q0_x) (C := "ConeForgeModel") (T := FM) (N := 46) hx hb hts iM hown hK hP 0 rfl rfl 8 (by decide) (hts _ (bgc bw692)) (fun _ h9 => h9) rfl d_M_told_78 ?_
                refine lv_iload_n hx hb d_M_told_81 rfl (lv_at hl 2 rfl) ?_
                obtain ⟨g41, h⟩ := gd_some h
                refine va_dald hx hb hK hP 3 0 rfl rfl (inb_in g41) d_M_told_82 ?_
                refine lv_goto (tgt := 119) hx hb d_M_told_83 (by decide) ?_
                exact rtD hx hb hr hlocks hQ (Option.some.inj h) hP hS d_M_told_119 rfl rfl
            · have h := it_f c34 h
              refine lv_dconst0 hx hb d_M_told_71 ?_
              exact rtD hx hb hr hlocks hQ (Option.some.inj h) hP hS d_M_told_72 rfl rfl
          · have h := it_t c33 h
            refine lv_iconst (v := 3) hx hb d_M_told_56 (by decide) ?_
            refine lv_goto (tgt := 61) hx hb d_M_told_57 (by decide) ?_
            refine va_put (D := D) (ci := 8) (v := .int 3) (ty := .int) (C := "ConeForgeModel") (T := FM) (N := 46) hx hb hts iM tM tM_ok nmM hown hK hP hD hS 0 rfl rfl 34 (by decide) (hts _ (bgc bw718)) (fun _ h9 => h9) rfl (by decide +kernel) rfl rfl (Nat.le_of_ble_eq_true rfl) d_M_told_61 (fun H locs hP hD hS => ?_)
            have hP : va_P D CL (w_M_told T q0 q0_a q0_b q0_c q0_rowScale q0_columnScale q0_sa q0_sb q0_sc q0_x q0_s q0_y q0_p q0_d q0_h q0_f q0_mm q0_low q0_dd q0_r q0_big q0_dt q0_dx q0_t q0_cost q0_rowScaleNow q0_columnScaleNow q0_basic q0_text q0_turned q0_na q0_nb q0_nc vq0_m vq0_n vq0_length vq0_where vq0_effort 3 vq0_at vq0_scaled vq0_solved vq0_second vq0_nm vq0_nn vq0_number vq0_bad vq0_b vq0_c vq0_x vq0_s vq0_y) H := hP
            have hD : va_D A (w_M_told T q0 q0_a q0_b q0_c q0_rowScale q0_columnScale q0_sa q0_sb q0_sc q0_x q0_s q0_y q0_p q0_d q0_h q0_f q0_mm q0_low q0_dd q0_r q0_big q0_dt q0_dx q0_t q0_cost q0_rowScaleNow q0_columnScaleNow q0_basic q0_text q0_turned q0_na q0_nb q0_nc vq0_m vq0_n vq0_length vq0_where vq0_effort 3 vq0_at vq0_scaled vq0_solved vq0_second vq0_nm vq0_nn vq0_number vq0_bad vq0_b vq0_c vq0_x vq0_s vq0_y) := hD
            refine lv_aload_n hx hb d_M_told_64 rfl (lv_at hl 0 rfl) ?_
            refine va_get (D := D) (ci := 8) (v := .int 3) (C := "ConeForgeModel") (T := FM) (N := 46) hx hb hts iM hown hK hP 0 rfl rfl 34 (by decide) (hts _ (bgc bw718)) (fun _ h9 => h9) rfl d_M_told_65 ?_
            refine lv_if_le (tgt := 73) hx hb d_M_told_68 (by decide) (fun c42 => ?_) (fun c42 => ?_)
            · have h := it_t c42 h
              refine lv_iload_n hx hb d_M_told_73 rfl (lv_at hl 1 rfl) ?_
              refine lv_if_ne (tgt := 86) hx hb d_M_told_74 (by decide) (fun c43 => ?_) (fun c43 => ?_)
              · have h := it_f c43 h
                refine lv_iload_n hx hb d_M_told_86 rfl (lv_at hl 1 rfl) ?_
                refine lv_iconst (v := 1) hx hb d_M_told_87 (by decide) ?_
                refine lv_icmp_ne (tgt := 100) hx hb d_M_told_88 (by decide) (fun c44 => ?_) (fun c44 => ?_)
                · have h := it_f c44 h
                  refine lv_iload_n hx hb d_M_told_100 rfl (lv_at hl 1 rfl) ?_
                  refine lv_iconst (v := 2) hx hb d_M_told_101 (by decide) ?_
                  refine lv_icmp_ne (tgt := 114) hx hb d_M_told_102 (by decide) (fun c45 => ?_) (fun c45 => ?_)
                  · have h := it_f c45 h
                    refine lv_aload_n hx hb d_M_told_114 rfl (lv_at hl 0 rfl) ?_
                    refine lv_iload_n hx hb d_M_told_115 rfl (lv_at hl 1 rfl) ?_
                    obtain ⟨u46, hu46, h⟩ := bi_some h
                    refine kD (v := u46) (wc := (w_M_total T q0 q0_a q0_b q0_c q0_rowScale q0_columnScale q0_sa q0_sb q0_sc q0_x q0_s q0_y q0_p q0_d q0_h q0_f q0_mm q0_low q0_dd q0_r q0_big q0_dt q0_dx q0_t q0_cost q0_rowScaleNow q0_columnScaleNow q0_basic q0_text q0_turned q0_na q0_nb q0_nc vq0_m vq0_n vq0_length vq0_where vq0_effort 3 vq0_at vq0_scaled vq0_solved vq0_second vq0_nm vq0_nn vq0_number vq0_bad vq0_b vq0_c vq0_x vq0_y)) (wc' := (w_M_total T q0 q0_a q0_b q0_c q0_rowScale q0_columnScale q0_sa q0_sb q0_sc q0_x q0_s q0_y q0_p q0_d q0_h q0_f q0_mm q0_low q0_dd q0_r q0_big q0_dt q0_dx q0_t q0_cost q0_rowScaleNow q0_columnScaleNow q0_basic q0_text q0_turned q0_na q0_nb q0_nc vq0_m vq0_n vq0_length vq0_where vq0_effort 3 vq0_at vq0_scaled vq0_solved vq0_second vq0_nm vq0_nn vq0_number vq0_bad vq0_b vq0_c vq0_x vq0_y)) (runOV (As := [.int x1]) (rest := []) ((c_M_total l D T q0 q0_a q0_b q0_c q0_rowScale q0_columnScale q0_sa q0_sb q0_sc q0_x q0_s q0_y q0_p q0_d q0_h q0_f q0_mm q0_low q0_dd q0_r q0_big q0_dt q0_dx q0_t q0_cost q0_rowScaleNow q0_columnScaleNow q0_basic q0_text q0_turned q0_na q0_nb q0_nc vq0_m vq0_n vq0_length vq0_where vq0_effort 3 vq0_at vq0_scaled vq0_solved vq0_second vq0_nm vq0_nn vq0_number vq0_bad vq0_b vq0_c vq0_x vq0_y x1 u46 hu46) H.size) ⟨hx, hb, hml, hown, hts⟩ (cwOV bw927 bw928 bw91 bw105 bw929 dd_M_total hts ⟨Nat.le_of_ble_eq_true rfl, Nat.le_of_ble_eq_true rfl⟩) (va_recv hK hP (ci := 8) (q0 := 0) rfl rfl) hNW hK hP hD [0, 1, 2, 3, 5] rfl (by decide) rfl hl.1 rfl (lv_room (Nat.le_of_ble_eq_true rfl)) d_M_told_116 ⟨Nat.le_of_ble_eq_true rfl, Nat.le_of_ble_eq_true rfl⟩) hP hD hS hA [0, 1, 2, 3, 5] rfl rfl (fun H locs hP hD hS => ?_)
                    have hP : va_P D CL (w_M_told T q0 q0_a q0_b q0_c q0_rowScale q0_columnScale q0_sa q0_sb q0_sc q0_x q0_s q0_y q0_p q0_d q0_h q0_f q0_mm q0_low q0_dd q0_r q0_big q0_dt q0_dx q0_t q0_cost q0_rowScaleNow q0_columnScaleNow q0_basic q0_text q0_turned q0_na q0_nb q0_nc vq0_m vq0_n vq0_length vq0_where vq0_effort 3 vq0_at vq0_scaled vq0_solved vq0_second vq0_nm vq0_nn vq0_number vq0_bad vq0_b vq0_c vq0_x vq0_s vq0_y) H := hP
                    have hD : va_D A (w_M_told T q0 q0_a q0_b q0_c q0_rowScale q0_columnScale q0_sa q0_sb q0_sc q0_x q0_s q0_y q0_p q0_d q0_h q0_f q0_mm q0_low q0_dd q0_r q0_big q0_dt q0_dx q0_t q0_cost q0_rowScaleNow q0_columnScaleNow q0_basic q0_text q0_turned q0_na q0_nb q0_nc vq0_m vq0_n vq0_length vq0_where vq0_effort 3 vq0_at vq0_scaled vq0_solved vq0_second vq0_nm vq0_nn vq0_number vq0_bad vq0_b vq0_c vq0_x vq0_s vq0_y) := hD
                    exact rtD hx hb hr hlocks hQ (Option.some.inj h) hP hS d_M_told_119 rfl rfl
                  · have h := it_t c45 h
                    refine lv_aload_n hx hb d_M_told_105 rfl (lv_at hl 0 rfl) ?_
                    refine va_get (D := D) (ci := 8) (v := .ref q0_y) (C := "ConeForgeModel") (T := FM) (N := 46) hx hb hts iM hown hK hP 0 rfl rfl 10 (by decide) (hts _ (bgc bw694)) (fun _ h9 => h9) rfl d_M_told_106 ?_
                    refine lv_iload_n hx hb d_M_told_109 rfl (lv_at hl 2 rfl) ?_
                    obtain ⟨g47, h⟩ := gd_some h
                    refine va_dald hx hb hK hP 5 0 rfl rfl (inb_in g47) d_M_told_110 ?_
                    refine lv_goto (tgt := 119) hx hb d_M_told_111 (by decide) ?_
                    exact rtD hx hb hr hlocks hQ (Option.some.inj h) hP hS d_M_told_119 rfl rfl
                · have h := it_t c44 h
                  refine lv_aload_n hx hb d_M_told_91 rfl (lv_at hl 0 rfl) ?_
                  refine va_get (D := D) (ci := 8) (v := .ref q0_s) (C := "ConeForgeModel") (T := FM) (N := 46) hx hb hts iM hown hK hP 0 rfl rfl 9 (by decide) (hts _ (bgc bw693)) (fun _ h9 => h9) rfl d_M_told_92 ?_
                  refine lv_iload_n hx hb d_M_told_95 rfl (lv_at hl 2 rfl) ?_
                  obtain ⟨g48, h⟩ := gd_some h
                  refine va_dald hx hb hK hP 4 0 rfl rfl (inb_in g48) d_M_told_96 ?_
                  refine lv_goto (tgt := 119) hx hb d_M_told_97 (by decide) ?_
                  exact rtD hx hb hr hlocks hQ (Option.some.inj h) hP hS d_M_told_119 rfl rfl
              · have h := it_t c43 h
                refine lv_aload_n hx hb d_M_told_77 rfl (lv_at hl 0 rfl) ?_
                refine va_get (D := D) (ci := 8) (v := .ref q0_x) (C := "ConeForgeModel") (T := FM) (N := 46) hx hb hts iM hown hK hP 0 rfl rfl 8 (by decide) (hts _ (bgc bw692)) (fun _ h9 => h9) rfl d_M_told_78 ?_
                refine lv_iload_n hx hb d_M_told_81 rfl (lv_at hl 2 rfl) ?_
                obtain ⟨g49, h⟩ := gd_some h
                refine va_dald hx hb hK hP 3 0 rfl rfl (inb_in g49) d_M_told_82 ?_
                refine lv_goto (tgt := 119) hx hb d_M_told_83 (by decide) ?_
                exact rtD hx hb hr hlocks hQ (Option.some.inj h) hP hS d_M_told_119 rfl rfl
            · have h := it_f c42 h
              refine lv_dconst0 hx hb d_M_told_71 ?_
              exact rtD hx hb hr hlocks hQ (Option.some.inj h) hP hS d_M_told_72 rfl rfl
    · have h := it_t c3 h
      refine lv_iconst (v := 2) hx hb d_M_told_21 (by decide) ?_
      refine lv_goto (tgt := 61) hx hb d_M_told_22 (by decide) ?_
      refine va_put (D := D) (ci := 8) (v := .int 2) (ty := .int) (C := "ConeForgeModel") (T := FM) (N := 46) hx hb hts iM tM tM_ok nmM hown hK hP hD hS 0 rfl rfl 34 (by decide) (hts _ (bgc bw718)) (fun _ h9 => h9) rfl (by decide +kernel) rfl rfl (Nat.le_of_ble_eq_true rfl) d_M_told_61 (fun H locs hP hD hS => ?_)
      have hP : va_P D CL (w_M_told T q0 q0_a q0_b q0_c q0_rowScale q0_columnScale q0_sa q0_sb q0_sc q0_x q0_s q0_y q0_p q0_d q0_h q0_f q0_mm q0_low q0_dd q0_r q0_big q0_dt q0_dx q0_t q0_cost q0_rowScaleNow q0_columnScaleNow q0_basic q0_text q0_turned q0_na q0_nb q0_nc vq0_m vq0_n vq0_length vq0_where vq0_effort 2 vq0_at vq0_scaled vq0_solved vq0_second vq0_nm vq0_nn vq0_number vq0_bad vq0_b vq0_c vq0_x vq0_s vq0_y) H := hP
      have hD : va_D A (w_M_told T q0 q0_a q0_b q0_c q0_rowScale q0_columnScale q0_sa q0_sb q0_sc q0_x q0_s q0_y q0_p q0_d q0_h q0_f q0_mm q0_low q0_dd q0_r q0_big q0_dt q0_dx q0_t q0_cost q0_rowScaleNow q0_columnScaleNow q0_basic q0_text q0_turned q0_na q0_nb q0_nc vq0_m vq0_n vq0_length vq0_where vq0_effort 2 vq0_at vq0_scaled vq0_solved vq0_second vq0_nm vq0_nn vq0_number vq0_bad vq0_b vq0_c vq0_x vq0_s vq0_y) := hD
      refine lv_aload_n hx hb d_M_told_64 rfl (lv_at hl 0 rfl) ?_
      refine va_get (D := D) (ci := 8) (v := .int 2) (C := "ConeForgeModel") (T := FM) (N := 46) hx hb hts iM hown hK hP 0 rfl rfl 34 (by decide) (hts _ (bgc bw718)) (fun _ h9 => h9) rfl d_M_told_65 ?_
      refine lv_if_le (tgt := 73) hx hb d_M_told_68 (by decide) (fun c50 => ?_) (fun c50 => ?_)
      · have h := it_t c50 h
        refine lv_iload_n hx hb d_M_told_73 rfl (lv_at hl 1 rfl) ?_
        refine lv_if_ne (tgt := 86) hx hb d_M_told_74 (by decide) (fun c51 => ?_) (fun c51 => ?_)
        · have h := it_f c51 h
          refine lv_iload_n hx hb d_M_told_86 rfl (lv_at hl 1 rfl) ?_
          refine lv_iconst (v := 1) hx hb d_M_told_87 (by decide) ?_
          refine lv_icmp_ne (tgt := 100) hx hb d_M_told_88 (by decide) (fun c52 => ?_) (fun c52 => ?_)
          · have h := it_f c52 h
            refine lv_iload_n hx hb d_M_told_100 rfl (lv_at hl 1 rfl) ?_
            refine lv_iconst (v := 2) hx hb d_M_told_101 (by decide) ?_
            refine lv_icmp_ne (tgt := 114) hx hb d_M_told_102 (by decide) (fun c53 => ?_) (fun c53 => ?_)
            · have h := it_f c53 h
              refine lv_aload_n hx hb d_M_told_114 rfl (lv_at hl 0 rfl) ?_
              refine lv_iload_n hx hb d_M_told_115 rfl (lv_at hl 1 rfl) ?_
              obtain ⟨u54, hu54, h⟩ := bi_some h
              refine kD (v := u54) (wc := (w_M_total T q0 q0_a q0_b q0_c q0_rowScale q0_columnScale q0_sa q0_sb q0_sc q0_x q0_s q0_y q0_p q0_d q0_h q0_f q0_mm q0_low q0_dd q0_r q0_big q0_dt q0_dx q0_t q0_cost q0_rowScaleNow q0_columnScaleNow q0_basic q0_text q0_turned q0_na q0_nb q0_nc vq0_m vq0_n vq0_length vq0_where vq0_effort 2 vq0_at vq0_scaled vq0_solved vq0_second vq0_nm vq0_nn vq0_number vq0_bad vq0_b vq0_c vq0_x vq0_y)) (wc' := (w_M_total T q0 q0_a q0_b q0_c q0_rowScale q0_columnScale q0_sa q0_sb q0_sc q0_x q0_s q0_y q0_p q0_d q0_h q0_f q0_mm q0_low q0_dd q0_r q0_big q0_dt q0_dx q0_t q0_cost q0_rowScaleNow q0_columnScaleNow q0_basic q0_text q0_turned q0_na q0_nb q0_nc vq0_m vq0_n vq0_length vq0_where vq0_effort 2 vq0_at vq0_scaled vq0_solved vq0_second vq0_nm vq0_nn vq0_number vq0_bad vq0_b vq0_c vq0_x vq0_y)) (runOV (As := [.int x1]) (rest := []) ((c_M_total l D T q0 q0_a q0_b q0_c q0_rowScale q0_columnScale q0_sa q0_sb q0_sc q0_x q0_s q0_y q0_p q0_d q0_h q0_f q0_mm q0_low q0_dd q0_r q0_big q0_dt q0_dx q0_t q0_cost q0_rowScaleNow q0_columnScaleNow q0_basic q0_text q0_turned q0_na q0_nb q0_nc vq0_m vq0_n vq0_length vq0_where vq0_effort 2 vq0_at vq0_scaled vq0_solved vq0_second vq0_nm vq0_nn vq0_number vq0_bad vq0_b vq0_c vq0_x vq0_y x1 u54 hu54) H.size) ⟨hx, hb, hml, hown, hts⟩ (cwOV bw927 bw928 bw91 bw105 bw929 dd_M_total hts ⟨Nat.le_of_ble_eq_true rfl, Nat.le_of_ble_eq_true rfl⟩) (va_recv hK hP (ci := 8) (q0 := 0) rfl rfl) hNW hK hP hD [0, 1, 2, 3, 5] rfl (by decide) rfl hl.1 rfl (lv_room (Nat.le_of_ble_eq_true rfl)) d_M_told_116 ⟨Nat.le_of_ble_eq_true rfl, Nat.le_of_ble_eq_true rfl⟩) hP hD hS hA [0, 1, 2, 3, 5] rfl rfl (fun H locs hP hD hS => ?_)
              have hP : va_P D CL (w_M_told T q0 q0_a q0_b q0_c q0_rowScale q0_columnScale q0_sa q0_sb q0_sc q0_x q0_s q0_y q0_p q0_d q0_h q0_f q0_mm q0_low q0_dd q0_r q0_big q0_dt q0_dx q0_t q0_cost q0_rowScaleNow q0_columnScaleNow q0_basic q0_text q0_turned q0_na q0_nb q0_nc vq0_m vq0_n vq0_length vq0_where vq0_effort 2 vq0_at vq0_scaled vq0_solved vq0_second vq0_nm vq0_nn vq0_number vq0_bad vq0_b vq0_c vq0_x vq0_s vq0_y) H := hP
              have hD : va_D A (w_M_told T q0 q0_a q0_b q0_c q0_rowScale q0_columnScale q0_sa q0_sb q0_sc q0_x q0_s q0_y q0_p q0_d q0_h q0_f q0_mm q0_low q0_dd q0_r q0_big q0_dt q0_dx q0_t q0_cost q0_rowScaleNow q0_columnScaleNow q0_basic q0_text q0_turned q0_na q0_nb q0_nc vq0_m vq0_n vq0_length vq0_where vq0_effort 2 vq0_at vq0_scaled vq0_solved vq0_second vq0_nm vq0_nn vq0_number vq0_bad vq0_b vq0_c vq0_x vq0_s vq0_y) := hD
              exact rtD hx hb hr hlocks hQ (Option.some.inj h) hP hS d_M_told_119 rfl rfl
            · have h := it_t c53 h
              refine lv_aload_n hx hb d_M_told_105 rfl (lv_at hl 0 rfl) ?_
              refine va_get (D := D) (ci := 8) (v := .ref q0_y) (C := "ConeForgeModel") (T := FM) (N := 46) hx hb hts iM hown hK hP 0 rfl rfl 10 (by decide) (hts _ (bgc bw694)) (fun _ h9 => h9) rfl d_M_told_106 ?_
              refine lv_iload_n hx hb d_M_told_109 rfl (lv_at hl 2 rfl) ?_
              obtain ⟨g55, h⟩ := gd_some h
              refine va_dald hx hb hK hP 5 0 rfl rfl (inb_in g55) d_M_told_110 ?_
              refine lv_goto (tgt := 119) hx hb d_M_told_111 (by decide) ?_
              exact rtD hx hb hr hlocks hQ (Option.some.inj h) hP hS d_M_told_119 rfl rfl
          · have h := it_t c52 h
            refine lv_aload_n hx hb d_M_told_91 rfl (lv_at hl 0 rfl) ?_
            refine va_get (D := D) (ci := 8) (v := .ref q0_s) (C := "ConeForgeModel") (T := FM) (N := 46) hx hb hts iM hown hK hP 0 rfl rfl 9 (by decide) (hts _ (bgc bw693)) (fun _ h9 => h9) rfl d_M_told_92 ?_
            refine lv_iload_n hx hb d_M_told_95 rfl (lv_at hl 2 rfl) ?_
            obtain ⟨g56, h⟩ := gd_some h
            refine va_dald hx hb hK hP 4 0 rfl rfl (inb_in g56) d_M_told_96 ?_
            refine lv_goto (tgt := 119) hx hb d_M_told_97 (by decide) ?_
            exact rtD hx hb hr hlocks hQ (Option.some.inj h) hP hS d_M_told_119 rfl rfl
        · have h := it_t c51 h
          refine lv_aload_n hx hb d_M_told_77 rfl (lv_at hl 0 rfl) ?_
          refine va_get (D := D) (ci := 8) (v := .ref q0_x) (C := "ConeForgeModel") (T := FM) (N := 46) hx hb hts iM hown hK hP 0 rfl rfl 8 (by decide) (hts _ (bgc bw692)) (fun _ h9 => h9) rfl d_M_told_78 ?_
          refine lv_iload_n hx hb d_M_told_81 rfl (lv_at hl 2 rfl) ?_
          obtain ⟨g57, h⟩ := gd_some h
          refine va_dald hx hb hK hP 3 0 rfl rfl (inb_in g57) d_M_told_82 ?_
          refine lv_goto (tgt := 119) hx hb d_M_told_83 (by decide) ?_
          exact rtD hx hb hr hlocks hQ (Option.some.inj h) hP hS d_M_told_119 rfl rfl
      · have h := it_f c50 h
        refine lv_dconst0 hx hb d_M_told_71 ?_
        exact rtD hx hb hr hlocks hQ (Option.some.inj h) hP hS d_M_told_72 rfl rfl
  · have h := it_t c2 h
    refine lv_iconst (v := 1) hx hb d_M_told_10 (by decide) ?_
    refine lv_goto (tgt := 61) hx hb d_M_told_11 (by decide) ?_
    refine va_put (D := D) (ci := 8) (v := .int 1) (ty := .int) (C := "ConeForgeModel") (T := FM) (N := 46) hx hb hts iM tM tM_ok nmM hown hK hP hD hS 0 rfl rfl 34 (by decide) (hts _ (bgc bw718)) (fun _ h9 => h9) rfl (by decide +kernel) rfl rfl (Nat.le_of_ble_eq_true rfl) d_M_told_61 (fun H locs hP hD hS => ?_)
    have hP : va_P D CL (w_M_told T q0 q0_a q0_b q0_c q0_rowScale q0_columnScale q0_sa q0_sb q0_sc q0_x q0_s q0_y q0_p q0_d q0_h q0_f q0_mm q0_low q0_dd q0_r q0_big q0_dt q0_dx q0_t q0_cost q0_rowScaleNow q0_columnScaleNow q0_basic q0_text q0_turned q0_na q0_nb q0_nc vq0_m vq0_n vq0_length vq0_where vq0_effort 1 vq0_at vq0_scaled vq0_solved vq0_second vq0_nm vq0_nn vq0_number vq0_bad vq0_b vq0_c vq0_x vq0_s vq0_y) H := hP
    have hD : va_D A (w_M_told T q0 q0_a q0_b q0_c q0_rowScale q0_columnScale q0_sa q0_sb q0_sc q0_x q0_s q0_y q0_p q0_d q0_h q0_f q0_mm q0_low q0_dd q0_r q0_big q0_dt q0_dx q0_t q0_cost q0_rowScaleNow q0_columnScaleNow q0_basic q0_text q0_turned q0_na q0_nb q0_nc vq0_m vq0_n vq0_length vq0_where vq0_effort 1 vq0_at vq0_scaled vq0_solved vq0_second vq0_nm vq0_nn vq0_number vq0_bad vq0_b vq0_c vq0_x vq0_s vq0_y) := hD
    refine lv_aload_n hx hb d_M_told_64 rfl (lv_at hl 0 rfl) ?_
    refine va_get (D := D) (ci := 8) (v := .int 1) (C := "ConeForgeModel") (T := FM) (N := 46) hx hb hts iM hown hK hP 0 rfl rfl 34 (by decide) (hts _ (bgc bw718)) (fun _ h9 => h9) rfl d_M_told_65 ?_
    refine lv_if_le (tgt := 73) hx hb d_M_told_68 (by decide) (fun c58 => ?_) (fun c58 => ?_)
    · have h := it_t c58 h
      refine lv_iload_n hx hb d_M_told_73 rfl (lv_at hl 1 rfl) ?_
      refine lv_if_ne (tgt := 86) hx hb d_M_told_74 (by decide) (fun c59 => ?_) (fun c59 => ?_)
      · have h := it_f c59 h
        refine lv_iload_n hx hb d_M_told_86 rfl (lv_at hl 1 rfl) ?_
        refine lv_iconst (v := 1) hx hb d_M_told_87 (by decide) ?_
        refine lv_icmp_ne (tgt := 100) hx hb d_M_told_88 (by decide) (fun c60 => ?_) (fun c60 => ?_)
        · have h := it_f c60 h
          refine lv_iload_n hx hb d_M_told_100 rfl (lv_at hl 1 rfl) ?_
          refine lv_iconst (v := 2) hx hb d_M_told_101 (by decide) ?_
          refine lv_icmp_ne (tgt := 114) hx hb d_M_told_102 (by decide) (fun c61 => ?_) (fun c61 => ?_)
          · have h := it_f c61 h
            refine lv_aload_n hx hb d_M_told_114 rfl (lv_at hl 0 rfl) ?_
            refine lv_iload_n hx hb d_M_told_115 rfl (lv_at hl 1 rfl) ?_
            obtain ⟨u62, hu62, h⟩ := bi_some h
            refine kD (v := u62) (wc := (w_M_total T q0 q0_a q0_b q0_c q0_rowScale q0_columnScale q0_sa q0_sb q0_sc q0_x q0_s q0_y q0_p q0_d q0_h q0_f q0_mm q0_low q0_dd q0_r q0_big q0_dt q0_dx q0_t q0_cost q0_rowScaleNow q0_columnScaleNow q0_basic q0_text q0_turned q0_na q0_nb q0_nc vq0_m vq0_n vq0_length vq0_where vq0_effort 1 vq0_at vq0_scaled vq0_solved vq0_second vq0_nm vq0_nn vq0_number vq0_bad vq0_b vq0_c vq0_x vq0_y)) (wc' := (w_M_total T q0 q0_a q0_b q0_c q0_rowScale q0_columnScale q0_sa q0_sb q0_sc q0_x q0_s q0_y q0_p q0_d q0_h q0_f q0_mm q0_low q0_dd q0_r q0_big q0_dt q0_dx q0_t q0_cost q0_rowScaleNow q0_columnScaleNow q0_basic q0_text q0_turned q0_na q0_nb q0_nc vq0_m vq0_n vq0_length vq0_where vq0_effort 1 vq0_at vq0_scaled vq0_solved vq0_second vq0_nm vq0_nn vq0_number vq0_bad vq0_b vq0_c vq0_x vq0_y)) (runOV (As := [.int x1]) (rest := []) ((c_M_total l D T q0 q0_a q0_b q0_c q0_rowScale q0_columnScale q0_sa q0_sb q0_sc q0_x q0_s q0_y q0_p q0_d q0_h q0_f q0_mm q0_low q0_dd q0_r q0_big q0_dt q0_dx q0_t q0_cost q0_rowScaleNow q0_columnScaleNow q0_basic q0_text q0_turned q0_na q0_nb q0_nc vq0_m vq0_n vq0_length vq0_where vq0_effort 1 vq0_at vq0_scaled vq0_solved vq0_second vq0_nm vq0_nn vq0_number vq0_bad vq0_b vq0_c vq0_x vq0_y x1 u62 hu62) H.size) ⟨hx, hb, hml, hown, hts⟩ (cwOV bw927 bw928 bw91 bw105 bw929 dd_M_total hts ⟨Nat.le_of_ble_eq_true rfl, Nat.le_of_ble_eq_true rfl⟩) (va_recv hK hP (ci := 8) (q0 := 0) rfl rfl) hNW hK hP hD [0, 1, 2, 3, 5] rfl (by decide) rfl hl.1 rfl (lv_room (Nat.le_of_ble_eq_true rfl)) d_M_told_116 ⟨Nat.le_of_ble_eq_true rfl, Nat.le_of_ble_eq_true rfl⟩) hP hD hS hA [0, 1, 2, 3, 5] rfl rfl (fun H locs hP hD hS => ?_)
            have hP : va_P D CL (w_M_told T q0 q0_a q0_b q0_c q0_rowScale q0_columnScale q0_sa q0_sb q0_sc q0_x q0_s q0_y q0_p q0_d q0_h q0_f q0_mm q0_low q0_dd q0_r q0_big q0_dt q0_dx q0_t q0_cost q0_rowScaleNow q0_columnScaleNow q0_basic q0_text q0_turned q0_na q0_nb q0_nc vq0_m vq0_n vq0_length vq0_where vq0_effort 1 vq0_at vq0_scaled vq0_solved vq0_second vq0_nm vq0_nn vq0_number vq0_bad vq0_b vq0_c vq0_x vq0_s vq0_y) H := hP
            have hD : va_D A (w_M_told T q0 q0_a q0_b q0_c q0_rowScale q0_columnScale q0_sa q0_sb q0_sc q0_x q0_s q0_y q0_p q0_d q0_h q0_f q0_mm q0_low q0_dd q0_r q0_big q0_dt q0_dx q0_t q0_cost q0_rowScaleNow q0_columnScaleNow q0_basic q0_text q0_turned q0_na q0_nb q0_nc vq0_m vq0_n vq0_length vq0_where vq0_effort 1 vq0_at vq0_scaled vq0_solved vq0_second vq0_nm vq0_nn vq0_number vq0_bad vq0_b vq0_c vq0_x vq0_s vq0_y) := hD
            exact rtD hx hb hr hlocks hQ (Option.some.inj h) hP hS d_M_told_119 rfl rfl
          · have h := it_t c61 h
            refine lv_aload_n hx hb d_M_told_105 rfl (lv_at hl 0 rfl) ?_
            refine va_get (D := D) (ci := 8) (v := .ref q0_y) (C := "ConeForgeModel") (T := FM) (N := 46) hx hb hts iM hown hK hP 0 rfl rfl 10 (by decide) (hts _ (bgc bw694)) (fun _ h9 => h9) rfl d_M_told_106 ?_
            refine lv_iload_n hx hb d_M_told_109 rfl (lv_at hl 2 rfl) ?_
            obtain ⟨g63, h⟩ := gd_some h
            refine va_dald hx hb hK hP 5 0 rfl rfl (inb_in g63) d_M_told_110 ?_
            refine lv_goto (tgt := 119) hx hb d_M_told_111 (by decide) ?_
            exact rtD hx hb hr hlocks hQ (Option.some.inj h) hP hS d_M_told_119 rfl rfl
        · have h := it_t c60 h
          refine lv_aload_n hx hb d_M_told_91 rfl (lv_at hl 0 rfl) ?_
          refine va_get (D := D) (ci := 8) (v := .ref q0_s) (C := "ConeForgeModel") (T := FM) (N := 46) hx hb hts iM hown hK hP 0 rfl rfl 9 (by decide) (hts _ (bgc bw693)) (fun _ h9 => h9) rfl d_M_told_92 ?_
          refine lv_iload_n hx hb d_M_told_95 rfl (lv_at hl 2 rfl) ?_
          obtain ⟨g64, h⟩ := gd_some h
          refine va_dald hx hb hK hP 4 0 rfl rfl (inb_in g64) d_M_told_96 ?_
          refine lv_goto (tgt := 119) hx hb d_M_told_97 (by decide) ?_
          exact rtD hx hb hr hlocks hQ (Option.some.inj h) hP hS d_M_told_119 rfl rfl
      · have h := it_t c59 h
        refine lv_aload_n hx hb d_M_told_77 rfl (lv_at hl 0 rfl) ?_
        refine va_get (D := D) (ci := 8) (v := .ref q0_x) (C := "ConeForgeModel") (T := FM) (N := 46) hx hb hts iM hown hK hP 0 rfl rfl 8 (by decide) (hts _ (bgc bw692)) (fun _ h9 => h9) rfl d_M_told_78 ?_
        refine lv_iload_n hx hb d_M_told_81 rfl (lv_at hl 2 rfl) ?_
        obtain ⟨g65, h⟩ := gd_some h
        refine va_dald hx hb hK hP 3 0 rfl rfl (inb_in g65) d_M_told_82 ?_
        refine lv_goto (tgt := 119) hx hb d_M_told_83 (by decide) ?_
        exact rtD hx hb hr hlocks hQ (Option.some.inj h) hP hS d_M_told_119 rfl rfl
    · have h := it_f c58 h
      refine lv_dconst0 hx hb d_M_told_71 ?_
      exact rtD hx hb hr hlocks hQ (Option.some.inj h) hP hS d_M_told_72 rfl rfl
theorem d_M_effort_0 : decode prog_10_method_43_code 0 = .ok (.aload_n 0, 1) := by decide +kernel
theorem d_M_effort_1 : decode prog_10_method_43_code 1 = .ok (.iconst 0, 1) := by decide +kernel
theorem d_M_effort_2 : decode prog_10_method_43_code 2 = .ok (.putfield 122, 3) := by decide +kernel
theorem d_M_effort_5 : decode prog_10_method_43_code 5 = .ok (.aload_n 0, 1) := by decide +kernel
theorem d_M_effort_6 : decode prog_10_method_43_code 6 = .ok (.getfield 221, 3) := by decide +kernel
theorem d_M_effort_9 : decode prog_10_method_43_code 9 = .ok (.ireturn, 1) := by decide +kernel
abbrev w_M_effort (T : Nat → ClassId) (q0 : Nat) (q0_a : Nat) (q0_b : Nat) (q0_c : Nat) (q0_rowScale : Nat) (q0_columnScale : Nat) (q0_sa : Nat) (q0_sb : Nat) (q0_sc : Nat) (q0_x : Nat) (q0_s : Nat) (q0_y : Nat) (q0_p : Nat) (q0_d : Nat) (q0_h : Nat) (q0_f : Nat) (q0_mm : Nat) (q0_low : Nat) (q0_dd : Nat) (q0_r : Nat) (q0_big : Nat) (q0_dt : Nat) (q0_dx : Nat) (q0_t : Nat) (q0_cost : Nat) (q0_rowScaleNow : Nat) (q0_columnScaleNow : Nat) (q0_basic : Nat) (q0_text : Nat) (q0_turned : Nat) (q0_na : Nat) (q0_nb : Nat) (q0_nc : Nat) (vq0_m : Int32) (vq0_n : Int32) (vq0_length : Int32) (vq0_where : Int32) (vq0_effort : Int32) (vq0_thrown : Int32) (vq0_at : Int32) (vq0_scaled : Int32) (vq0_solved : Int32) (vq0_second : Int32) (vq0_nm : Int32) (vq0_nn : Int32) (vq0_number : UInt64) (vq0_bad : Int32) : va_W := [(q0, .inr (8, [.ref q0_a, .ref q0_b, .ref q0_c, .ref q0_rowScale, .ref q0_columnScale, .ref q0_sa, .ref q0_sb, .ref q0_sc, .ref q0_x, .ref q0_s, .ref q0_y, .ref q0_p, .ref q0_d, .ref q0_h, .ref q0_f, .ref q0_mm, .ref q0_low, .ref q0_dd, .ref q0_r, .ref q0_big, .ref q0_dt, .ref q0_dx, .ref q0_t, .ref q0_cost, .ref q0_rowScaleNow, .ref q0_columnScaleNow, .ref q0_basic, .ref q0_text, .ref q0_turned, .int vq0_m, .int vq0_n, .int vq0_length, .int vq0_where, .int vq0_effort, .int vq0_thrown, .int vq0_at, .int vq0_scaled, .int vq0_solved, .int vq0_second, .ref q0_na, .ref q0_nb, .ref q0_nc, .int vq0_nm, .int vq0_nn, .double vq0_number, .int vq0_bad]))]
def s_M_effort (vq0_m : Int32) (vq0_n : Int32) (vq0_length : Int32) (vq0_where : Int32) (vq0_effort : Int32) (vq0_thrown : Int32) (vq0_at : Int32) (vq0_scaled : Int32) (vq0_solved : Int32) (vq0_second : Int32) (vq0_nm : Int32) (vq0_nn : Int32) (vq0_number : UInt64) (vq0_bad : Int32) : Option (Int32 × Int32) :=
  some (vq0_effort, 0)
set_option maxHeartbeats 4000000 in
set_option maxRecDepth 100000 in
theorem c_M_effort (l : Launch) (D : va_G) (T : Nat → ClassId) (q0 : Nat) (q0_a : Nat) (q0_b : Nat) (q0_c : Nat) (q0_rowScale : Nat) (q0_columnScale : Nat) (q0_sa : Nat) (q0_sb : Nat) (q0_sc : Nat) (q0_x : Nat) (q0_s : Nat) (q0_y : Nat) (q0_p : Nat) (q0_d : Nat) (q0_h : Nat) (q0_f : Nat) (q0_mm : Nat) (q0_low : Nat) (q0_dd : Nat) (q0_r : Nat) (q0_big : Nat) (q0_dt : Nat) (q0_dx : Nat) (q0_t : Nat) (q0_cost : Nat) (q0_rowScaleNow : Nat) (q0_columnScaleNow : Nat) (q0_basic : Nat) (q0_text : Nat) (q0_turned : Nat) (q0_na : Nat) (q0_nb : Nat) (q0_nc : Nat) (vq0_m : Int32) (vq0_n : Int32) (vq0_length : Int32) (vq0_where : Int32) (vq0_effort : Int32) (vq0_thrown : Int32) (vq0_at : Int32) (vq0_scaled : Int32) (vq0_solved : Int32) (vq0_second : Int32) (vq0_nm : Int32) (vq0_nn : Int32) (vq0_number : UInt64) (vq0_bad : Int32) (rm : Int32 × Int32) (h : s_M_effort vq0_m vq0_n vq0_length vq0_where vq0_effort vq0_thrown vq0_at vq0_scaled vq0_solved vq0_second vq0_nm vq0_nn vq0_number vq0_bad = some rm) : CtI l y_M_effort (Cond.code y_M_effort prog_10_method_43_code 1 (some .int) :: BIG) 0 0 D T [.ref q0] (w_M_effort T q0 q0_a q0_b q0_c q0_rowScale q0_columnScale q0_sa q0_sb q0_sc q0_x q0_s q0_y q0_p q0_d q0_h q0_f q0_mm q0_low q0_dd q0_r q0_big q0_dt q0_dx q0_t q0_cost q0_rowScaleNow q0_columnScaleNow q0_basic q0_text q0_turned q0_na q0_nb q0_nc vq0_m vq0_n vq0_length vq0_where vq0_effort vq0_thrown vq0_at vq0_scaled vq0_solved vq0_second vq0_nm vq0_nn vq0_number vq0_bad) (fun r => r.1) (fun r => (w_M_effort T q0 q0_a q0_b q0_c q0_rowScale q0_columnScale q0_sa q0_sb q0_sc q0_x q0_s q0_y q0_p q0_d q0_h q0_f q0_mm q0_low q0_dd q0_r q0_big q0_dt q0_dx q0_t q0_cost q0_rowScaleNow q0_columnScaleNow q0_basic q0_text q0_turned q0_na q0_nb q0_nc vq0_m vq0_n vq0_length vq0_where vq0_effort r.2 vq0_at vq0_scaled vq0_solved vq0_second vq0_nm vq0_nn vq0_number vq0_bad)) rm := by
  refine cf_entry (y := y_M_effort) (cc := prog_10_method_43_code) (nL := 1) (ret := (some .int)) (fr := 0) (lo := 0) (T := T) (av := [.ref q0]) (w := (w_M_effort T q0 q0_a q0_b q0_c q0_rowScale q0_columnScale q0_sa q0_sb q0_sc q0_x q0_s q0_y q0_p q0_d q0_h q0_f q0_mm q0_low q0_dd q0_r q0_big q0_dt q0_dx q0_t q0_cost q0_rowScaleNow q0_columnScaleNow q0_basic q0_text q0_turned q0_na q0_nb q0_nc vq0_m vq0_n vq0_length vq0_where vq0_effort vq0_thrown vq0_at vq0_scaled vq0_solved vq0_second vq0_nm vq0_nn vq0_number vq0_bad)) (Qc := cfQi D (fun r => r.1) (fun r => (w_M_effort T q0 q0_a q0_b q0_c q0_rowScale q0_columnScale q0_sa q0_sb q0_sc q0_x q0_s q0_y q0_p q0_d q0_h q0_f q0_mm q0_low q0_dd q0_r q0_big q0_dt q0_dx q0_t q0_cost q0_rowScaleNow q0_columnScaleNow q0_basic q0_text q0_turned q0_na q0_nb q0_nc vq0_m vq0_n vq0_length vq0_where vq0_effort r.2 vq0_at vq0_scaled vq0_solved vq0_second vq0_nm vq0_nn vq0_number vq0_bad)) rm) (by decide) rfl (Nat.le_of_ble_eq_true rfl) ?_
  intro p e s m args below meth c A Q H locs ls hx hb hr hlocks hml hown hts hNW hK hA hQ hP hD hS hl
  have hown : s.vm.findClass "ConeForgeModel" = some m.cls := hown
  have hl : lv_has ls 1 [(0, .ref q0)] := hl
  unfold s_M_effort at h
  refine lv_aload_n hx hb d_M_effort_0 rfl (lv_at hl 0 rfl) ?_
  refine lv_iconst (v := 0) hx hb d_M_effort_1 (by decide) ?_
  refine va_put (D := D) (ci := 8) (v := .int 0) (ty := .int) (C := "ConeForgeModel") (T := FM) (N := 46) hx hb hts iM tM tM_ok nmM hown hK hP hD hS 0 rfl rfl 34 (by decide) (hts _ (bgc bw718)) (fun _ h9 => h9) rfl (by decide +kernel) rfl rfl (Nat.le_of_ble_eq_true rfl) d_M_effort_2 (fun H locs hP hD hS => ?_)
  have hP : va_P D CL (w_M_effort T q0 q0_a q0_b q0_c q0_rowScale q0_columnScale q0_sa q0_sb q0_sc q0_x q0_s q0_y q0_p q0_d q0_h q0_f q0_mm q0_low q0_dd q0_r q0_big q0_dt q0_dx q0_t q0_cost q0_rowScaleNow q0_columnScaleNow q0_basic q0_text q0_turned q0_na q0_nb q0_nc vq0_m vq0_n vq0_length vq0_where vq0_effort 0 vq0_at vq0_scaled vq0_solved vq0_second vq0_nm vq0_nn vq0_number vq0_bad) H := hP
  have hD : va_D A (w_M_effort T q0 q0_a q0_b q0_c q0_rowScale q0_columnScale q0_sa q0_sb q0_sc q0_x q0_s q0_y q0_p q0_d q0_h q0_f q0_mm q0_low q0_dd q0_r q0_big q0_dt q0_dx q0_t q0_cost q0_rowScaleNow q0_columnScaleNow q0_basic q0_text q0_turned q0_na q0_nb q0_nc vq0_m vq0_n vq0_length vq0_where vq0_effort 0 vq0_at vq0_scaled vq0_solved vq0_second vq0_nm vq0_nn vq0_number vq0_bad) := hD
  refine lv_aload_n hx hb d_M_effort_5 rfl (lv_at hl 0 rfl) ?_
  refine va_get (D := D) (ci := 8) (v := .int vq0_effort) (C := "ConeForgeModel") (T := FM) (N := 46) hx hb hts iM hown hK hP 0 rfl rfl 33 (by decide) (hts _ (bgc bw717)) (fun _ h9 => h9) rfl d_M_effort_6 ?_
  exact rtI hx hb hr hlocks hQ (Option.some.inj h) hP hS d_M_effort_9 rfl rfl
theorem d_M_far_0 : decode prog_10_method_44_code 0 = .ok (.dconst 0, 1) := by decide +kernel
theorem d_M_far_1 : decode prog_10_method_44_code 1 = .ok (.dstore_n 2, 1) := by decide +kernel
theorem d_M_far_2 : decode prog_10_method_44_code 2 = .ok (.iload_n 1, 1) := by decide +kernel
theorem d_M_far_3 : decode prog_10_method_44_code 3 = .ok (.ifCond .ne 86, 3) := by decide +kernel
theorem d_M_far_6 : decode prog_10_method_44_code 6 = .ok (.iconst 0, 1) := by decide +kernel
theorem d_M_far_7 : decode prog_10_method_44_code 7 = .ok (.istore 4, 2) := by decide +kernel
theorem d_M_far_9 : decode prog_10_method_44_code 9 = .ok (.iload 4, 2) := by decide +kernel
theorem d_M_far_11 : decode prog_10_method_44_code 11 = .ok (.aload_n 0, 1) := by decide +kernel
theorem d_M_far_12 : decode prog_10_method_44_code 12 = .ok (.getfield 99, 3) := by decide +kernel
theorem d_M_far_15 : decode prog_10_method_44_code 15 = .ok (.if_icmp .ge 72, 3) := by decide +kernel
theorem d_M_far_18 : decode prog_10_method_44_code 18 = .ok (.aload_n 0, 1) := by decide +kernel
theorem d_M_far_19 : decode prog_10_method_44_code 19 = .ok (.getfield 13, 3) := by decide +kernel
theorem d_M_far_22 : decode prog_10_method_44_code 22 = .ok (.iload 4, 2) := by decide +kernel
theorem d_M_far_24 : decode prog_10_method_44_code 24 = .ok (.daload, 1) := by decide +kernel
theorem d_M_far_25 : decode prog_10_method_44_code 25 = .ok (.dstore 5, 2) := by decide +kernel
theorem d_M_far_27 : decode prog_10_method_44_code 27 = .ok (.iconst 0, 1) := by decide +kernel
theorem d_M_far_28 : decode prog_10_method_44_code 28 = .ok (.istore 7, 2) := by decide +kernel
theorem d_M_far_30 : decode prog_10_method_44_code 30 = .ok (.iload 7, 2) := by decide +kernel
theorem d_M_far_32 : decode prog_10_method_44_code 32 = .ok (.aload_n 0, 1) := by decide +kernel
theorem d_M_far_33 : decode prog_10_method_44_code 33 = .ok (.getfield 103, 3) := by decide +kernel
theorem d_M_far_36 : decode prog_10_method_44_code 36 = .ok (.if_icmp .ge 35, 3) := by decide +kernel
theorem d_M_far_39 : decode prog_10_method_44_code 39 = .ok (.dload 5, 2) := by decide +kernel
theorem d_M_far_41 : decode prog_10_method_44_code 41 = .ok (.aload_n 0, 1) := by decide +kernel
theorem d_M_far_42 : decode prog_10_method_44_code 42 = .ok (.getfield 7, 3) := by decide +kernel
theorem d_M_far_45 : decode prog_10_method_44_code 45 = .ok (.bipush 8, 2) := by decide +kernel
theorem d_M_far_47 : decode prog_10_method_44_code 47 = .ok (.iload 4, 2) := by decide +kernel
theorem d_M_far_49 : decode prog_10_method_44_code 49 = .ok (.imul, 1) := by decide +kernel
theorem d_M_far_50 : decode prog_10_method_44_code 50 = .ok (.iload 7, 2) := by decide +kernel
theorem d_M_far_52 : decode prog_10_method_44_code 52 = .ok (.iadd, 1) := by decide +kernel
theorem d_M_far_53 : decode prog_10_method_44_code 53 = .ok (.daload, 1) := by decide +kernel
theorem d_M_far_54 : decode prog_10_method_44_code 54 = .ok (.aload_n 0, 1) := by decide +kernel
theorem d_M_far_55 : decode prog_10_method_44_code 55 = .ok (.getfield 34, 3) := by decide +kernel
theorem d_M_far_58 : decode prog_10_method_44_code 58 = .ok (.iload 7, 2) := by decide +kernel
theorem d_M_far_60 : decode prog_10_method_44_code 60 = .ok (.daload, 1) := by decide +kernel
theorem d_M_far_61 : decode prog_10_method_44_code 61 = .ok (.dmul, 1) := by decide +kernel
theorem d_M_far_62 : decode prog_10_method_44_code 62 = .ok (.dsub, 1) := by decide +kernel
theorem d_M_far_63 : decode prog_10_method_44_code 63 = .ok (.dstore 5, 2) := by decide +kernel
theorem d_M_far_65 : decode prog_10_method_44_code 65 = .ok (.iinc 7 1, 3) := by decide +kernel
theorem d_M_far_68 : decode prog_10_method_44_code 68 = .ok (.goto (-38), 3) := by decide +kernel
theorem d_M_far_71 : decode prog_10_method_44_code 71 = .ok (.dload_n 2, 1) := by decide +kernel
theorem d_M_far_72 : decode prog_10_method_44_code 72 = .ok (.dload 5, 2) := by decide +kernel
theorem d_M_far_74 : decode prog_10_method_44_code 74 = .ok (.invokestatic 197, 3) := by decide +kernel
theorem d_M_far_77 : decode prog_10_method_44_code 77 = .ok (.invokestatic 201, 3) := by decide +kernel
theorem d_M_far_80 : decode prog_10_method_44_code 80 = .ok (.dstore_n 2, 1) := by decide +kernel
theorem d_M_far_81 : decode prog_10_method_44_code 81 = .ok (.iinc 4 1, 3) := by decide +kernel
theorem d_M_far_84 : decode prog_10_method_44_code 84 = .ok (.goto (-75), 3) := by decide +kernel
theorem d_M_far_87 : decode prog_10_method_44_code 87 = .ok (.dload_n 2, 1) := by decide +kernel
theorem d_M_far_88 : decode prog_10_method_44_code 88 = .ok (.dreturn, 1) := by decide +kernel
theorem d_M_far_89 : decode prog_10_method_44_code 89 = .ok (.iconst 0, 1) := by decide +kernel
theorem d_M_far_90 : decode prog_10_method_44_code 90 = .ok (.istore 4, 2) := by decide +kernel
theorem d_M_far_92 : decode prog_10_method_44_code 92 = .ok (.iload 4, 2) := by decide +kernel
theorem d_M_far_94 : decode prog_10_method_44_code 94 = .ok (.aload_n 0, 1) := by decide +kernel
theorem d_M_far_95 : decode prog_10_method_44_code 95 = .ok (.getfield 103, 3) := by decide +kernel
theorem d_M_far_98 : decode prog_10_method_44_code 98 = .ok (.if_icmp .ge 140, 3) := by decide +kernel
theorem d_M_far_101 : decode prog_10_method_44_code 101 = .ok (.iload_n 1, 1) := by decide +kernel
theorem d_M_far_102 : decode prog_10_method_44_code 102 = .ok (.iconst 2, 1) := by decide +kernel
theorem d_M_far_103 : decode prog_10_method_44_code 103 = .ok (.if_icmp .ne 24, 3) := by decide +kernel
theorem d_M_far_106 : decode prog_10_method_44_code 106 = .ok (.dload_n 2, 1) := by decide +kernel
theorem d_M_far_107 : decode prog_10_method_44_code 107 = .ok (.aload_n 0, 1) := by decide +kernel
theorem d_M_far_108 : decode prog_10_method_44_code 108 = .ok (.getfield 34, 3) := by decide +kernel
theorem d_M_far_111 : decode prog_10_method_44_code 111 = .ok (.iload 4, 2) := by decide +kernel
theorem d_M_far_113 : decode prog_10_method_44_code 113 = .ok (.daload, 1) := by decide +kernel
theorem d_M_far_114 : decode prog_10_method_44_code 114 = .ok (.aload_n 0, 1) := by decide +kernel
theorem d_M_far_115 : decode prog_10_method_44_code 115 = .ok (.getfield 37, 3) := by decide +kernel
theorem d_M_far_118 : decode prog_10_method_44_code 118 = .ok (.iload 4, 2) := by decide +kernel
theorem d_M_far_120 : decode prog_10_method_44_code 120 = .ok (.daload, 1) := by decide +kernel
theorem d_M_far_121 : decode prog_10_method_44_code 121 = .ok (.dmul, 1) := by decide +kernel
theorem d_M_far_122 : decode prog_10_method_44_code 122 = .ok (.dadd, 1) := by decide +kernel
theorem d_M_far_123 : decode prog_10_method_44_code 123 = .ok (.dstore_n 2, 1) := by decide +kernel
theorem d_M_far_124 : decode prog_10_method_44_code 124 = .ok (.goto 108, 3) := by decide +kernel
theorem d_M_far_127 : decode prog_10_method_44_code 127 = .ok (.iload_n 1, 1) := by decide +kernel
theorem d_M_far_128 : decode prog_10_method_44_code 128 = .ok (.iconst 3, 1) := by decide +kernel
theorem d_M_far_129 : decode prog_10_method_44_code 129 = .ok (.if_icmp .ne 32, 3) := by decide +kernel
theorem d_M_far_132 : decode prog_10_method_44_code 132 = .ok (.dload_n 2, 1) := by decide +kernel
theorem d_M_far_133 : decode prog_10_method_44_code 133 = .ok (.aload_n 0, 1) := by decide +kernel
theorem d_M_far_134 : decode prog_10_method_44_code 134 = .ok (.getfield 34, 3) := by decide +kernel
theorem d_M_far_137 : decode prog_10_method_44_code 137 = .ok (.iload 4, 2) := by decide +kernel
theorem d_M_far_139 : decode prog_10_method_44_code 139 = .ok (.daload, 1) := by decide +kernel
theorem d_M_far_140 : decode prog_10_method_44_code 140 = .ok (.dneg, 1) := by decide +kernel
theorem d_M_far_141 : decode prog_10_method_44_code 141 = .ok (.invokestatic 201, 3) := by decide +kernel
theorem d_M_far_144 : decode prog_10_method_44_code 144 = .ok (.dstore_n 2, 1) := by decide +kernel
theorem d_M_far_145 : decode prog_10_method_44_code 145 = .ok (.dload_n 2, 1) := by decide +kernel
theorem d_M_far_146 : decode prog_10_method_44_code 146 = .ok (.aload_n 0, 1) := by decide +kernel
theorem d_M_far_147 : decode prog_10_method_44_code 147 = .ok (.getfield 37, 3) := by decide +kernel
theorem d_M_far_150 : decode prog_10_method_44_code 150 = .ok (.iload 4, 2) := by decide +kernel
theorem d_M_far_152 : decode prog_10_method_44_code 152 = .ok (.daload, 1) := by decide +kernel
theorem d_M_far_153 : decode prog_10_method_44_code 153 = .ok (.dneg, 1) := by decide +kernel
theorem d_M_far_154 : decode prog_10_method_44_code 154 = .ok (.invokestatic 201, 3) := by decide +kernel
theorem d_M_far_157 : decode prog_10_method_44_code 157 = .ok (.dstore_n 2, 1) := by decide +kernel
theorem d_M_far_158 : decode prog_10_method_44_code 158 = .ok (.goto 74, 3) := by decide +kernel
theorem d_M_far_161 : decode prog_10_method_44_code 161 = .ok (.aload_n 0, 1) := by decide +kernel
theorem d_M_far_162 : decode prog_10_method_44_code 162 = .ok (.getfield 16, 3) := by decide +kernel
theorem d_M_far_165 : decode prog_10_method_44_code 165 = .ok (.iload 4, 2) := by decide +kernel
theorem d_M_far_167 : decode prog_10_method_44_code 167 = .ok (.daload, 1) := by decide +kernel
theorem d_M_far_168 : decode prog_10_method_44_code 168 = .ok (.dstore 5, 2) := by decide +kernel
theorem d_M_far_170 : decode prog_10_method_44_code 170 = .ok (.iconst 0, 1) := by decide +kernel
theorem d_M_far_171 : decode prog_10_method_44_code 171 = .ok (.istore 7, 2) := by decide +kernel
theorem d_M_far_173 : decode prog_10_method_44_code 173 = .ok (.iload 7, 2) := by decide +kernel
theorem d_M_far_175 : decode prog_10_method_44_code 175 = .ok (.aload_n 0, 1) := by decide +kernel
theorem d_M_far_176 : decode prog_10_method_44_code 176 = .ok (.getfield 99, 3) := by decide +kernel
theorem d_M_far_179 : decode prog_10_method_44_code 179 = .ok (.if_icmp .ge 35, 3) := by decide +kernel
theorem d_M_far_182 : decode prog_10_method_44_code 182 = .ok (.dload 5, 2) := by decide +kernel
theorem d_M_far_184 : decode prog_10_method_44_code 184 = .ok (.aload_n 0, 1) := by decide +kernel
theorem d_M_far_185 : decode prog_10_method_44_code 185 = .ok (.getfield 7, 3) := by decide +kernel
theorem d_M_far_188 : decode prog_10_method_44_code 188 = .ok (.bipush 8, 2) := by decide +kernel
theorem d_M_far_190 : decode prog_10_method_44_code 190 = .ok (.iload 7, 2) := by decide +kernel
theorem d_M_far_192 : decode prog_10_method_44_code 192 = .ok (.imul, 1) := by decide +kernel
theorem d_M_far_193 : decode prog_10_method_44_code 193 = .ok (.iload 4, 2) := by decide +kernel
theorem d_M_far_195 : decode prog_10_method_44_code 195 = .ok (.iadd, 1) := by decide +kernel
theorem d_M_far_196 : decode prog_10_method_44_code 196 = .ok (.daload, 1) := by decide +kernel
theorem d_M_far_197 : decode prog_10_method_44_code 197 = .ok (.aload_n 0, 1) := by decide +kernel
theorem d_M_far_198 : decode prog_10_method_44_code 198 = .ok (.getfield 40, 3) := by decide +kernel
theorem d_M_far_201 : decode prog_10_method_44_code 201 = .ok (.iload 7, 2) := by decide +kernel
theorem d_M_far_203 : decode prog_10_method_44_code 203 = .ok (.daload, 1) := by decide +kernel
theorem d_M_far_204 : decode prog_10_method_44_code 204 = .ok (.dmul, 1) := by decide +kernel
theorem d_M_far_205 : decode prog_10_method_44_code 205 = .ok (.dsub, 1) := by decide +kernel
theorem d_M_far_206 : decode prog_10_method_44_code 206 = .ok (.dstore 5, 2) := by decide +kernel
theorem d_M_far_208 : decode prog_10_method_44_code 208 = .ok (.iinc 7 1, 3) := by decide +kernel
theorem d_M_far_211 : decode prog_10_method_44_code 211 = .ok (.goto (-38), 3) := by decide +kernel
theorem d_M_far_214 : decode prog_10_method_44_code 214 = .ok (.dload_n 2, 1) := by decide +kernel
theorem d_M_far_215 : decode prog_10_method_44_code 215 = .ok (.dload 5, 2) := by decide +kernel
theorem d_M_far_217 : decode prog_10_method_44_code 217 = .ok (.aload_n 0, 1) := by decide +kernel
theorem d_M_far_218 : decode prog_10_method_44_code 218 = .ok (.getfield 37, 3) := by decide +kernel
theorem d_M_far_221 : decode prog_10_method_44_code 221 = .ok (.iload 4, 2) := by decide +kernel
theorem d_M_far_223 : decode prog_10_method_44_code 223 = .ok (.daload, 1) := by decide +kernel
theorem d_M_far_224 : decode prog_10_method_44_code 224 = .ok (.dsub, 1) := by decide +kernel
theorem d_M_far_225 : decode prog_10_method_44_code 225 = .ok (.invokestatic 197, 3) := by decide +kernel
theorem d_M_far_228 : decode prog_10_method_44_code 228 = .ok (.invokestatic 201, 3) := by decide +kernel
theorem d_M_far_231 : decode prog_10_method_44_code 231 = .ok (.dstore_n 2, 1) := by decide +kernel
theorem d_M_far_232 : decode prog_10_method_44_code 232 = .ok (.iinc 4 1, 3) := by decide +kernel
theorem d_M_far_235 : decode prog_10_method_44_code 235 = .ok (.goto (-143), 3) := by decide +kernel
theorem d_M_far_238 : decode prog_10_method_44_code 238 = .ok (.dload_n 2, 1) := by decide +kernel
theorem d_M_far_239 : decode prog_10_method_44_code 239 = .ok (.dreturn, 1) := by decide +kernel
abbrev w_M_far (T : Nat → ClassId) (q0 : Nat) (q0_a : Nat) (q0_b : Nat) (q0_c : Nat) (q0_rowScale : Nat) (q0_columnScale : Nat) (q0_sa : Nat) (q0_sb : Nat) (q0_sc : Nat) (q0_x : Nat) (q0_s : Nat) (q0_y : Nat) (q0_p : Nat) (q0_d : Nat) (q0_h : Nat) (q0_f : Nat) (q0_mm : Nat) (q0_low : Nat) (q0_dd : Nat) (q0_r : Nat) (q0_big : Nat) (q0_dt : Nat) (q0_dx : Nat) (q0_t : Nat) (q0_cost : Nat) (q0_rowScaleNow : Nat) (q0_columnScaleNow : Nat) (q0_basic : Nat) (q0_text : Nat) (q0_turned : Nat) (q0_na : Nat) (q0_nb : Nat) (q0_nc : Nat) (vq0_m : Int32) (vq0_n : Int32) (vq0_length : Int32) (vq0_where : Int32) (vq0_effort : Int32) (vq0_thrown : Int32) (vq0_at : Int32) (vq0_scaled : Int32) (vq0_solved : Int32) (vq0_second : Int32) (vq0_nm : Int32) (vq0_nn : Int32) (vq0_number : UInt64) (vq0_bad : Int32) (vq0_a : Nat → UInt64) (vq0_b : Nat → UInt64) (vq0_c : Nat → UInt64) (vq0_x : Nat → UInt64) (vq0_s : Nat → UInt64) (vq0_y : Nat → UInt64) : va_W := [(q0, .inr (8, [.ref q0_a, .ref q0_b, .ref q0_c, .ref q0_rowScale, .ref q0_columnScale, .ref q0_sa, .ref q0_sb, .ref q0_sc, .ref q0_x, .ref q0_s, .ref q0_y, .ref q0_p, .ref q0_d, .ref q0_h, .ref q0_f, .ref q0_mm, .ref q0_low, .ref q0_dd, .ref q0_r, .ref q0_big, .ref q0_dt, .ref q0_dx, .ref q0_t, .ref q0_cost, .ref q0_rowScaleNow, .ref q0_columnScaleNow, .ref q0_basic, .ref q0_text, .ref q0_turned, .int vq0_m, .int vq0_n, .int vq0_length, .int vq0_where, .int vq0_effort, .int vq0_thrown, .int vq0_at, .int vq0_scaled, .int vq0_solved, .int vq0_second, .ref q0_na, .ref q0_nb, .ref q0_nc, .int vq0_nm, .int vq0_nn, .double vq0_number, .int vq0_bad])), (q0_a, .inl (T 0, 40, .inr (.inr (.inr (.inl vq0_a))))), (q0_b, .inl (T 0, 5, .inr (.inr (.inr (.inl vq0_b))))), (q0_c, .inl (T 0, 8, .inr (.inr (.inr (.inl vq0_c))))), (q0_x, .inl (T 0, 8, .inr (.inr (.inr (.inl vq0_x))))), (q0_s, .inl (T 0, 8, .inr (.inr (.inr (.inl vq0_s))))), (q0_y, .inl (T 0, 5, .inr (.inr (.inr (.inl vq0_y)))))]
def s_M_far_J232 (vq0_m : Int32) (vq0_n : Int32) (vq0_length : Int32) (vq0_where : Int32) (vq0_effort : Int32) (vq0_thrown : Int32) (vq0_at : Int32) (vq0_scaled : Int32) (vq0_solved : Int32) (vq0_second : Int32) (vq0_nm : Int32) (vq0_nn : Int32) (vq0_number : UInt64) (vq0_bad : Int32) (vq0_a : Nat → UInt64) (vq0_b : Nat → UInt64) (vq0_c : Nat → UInt64) (vq0_x : Nat → UInt64) (vq0_s : Nat → UInt64) (vq0_y : Nat → UInt64) (x1 : Int32) (x2 : UInt64) (x4 : Int32) : Option ((UInt64 × Int32) ⊕ (UInt64)) :=
  some (.inl (x2, x4 + 1))
def s_M_far_B173 (vq0_m : Int32) (vq0_n : Int32) (vq0_length : Int32) (vq0_where : Int32) (vq0_effort : Int32) (vq0_thrown : Int32) (vq0_at : Int32) (vq0_scaled : Int32) (vq0_solved : Int32) (vq0_second : Int32) (vq0_nm : Int32) (vq0_nn : Int32) (vq0_number : UInt64) (vq0_bad : Int32) (vq0_a : Nat → UInt64) (vq0_b : Nat → UInt64) (vq0_c : Nat → UInt64) (vq0_x : Nat → UInt64) (vq0_s : Nat → UInt64) (vq0_y : Nat → UInt64) (x1 : Int32) (x2 : UInt64) (x4 : Int32) (x5 : UInt64) (x7 : Int32) : Option ((UInt64 × Int32) ⊕ (UInt64)) :=
  if vq0_m ≤ x7 then (some (.inr x5)) else (gd (inb ((8 * x7) + x4) 40) <| gd (inb x7 5) <| gd (isn (FP.dmul (vq0_a ((8 * x7) + x4).toNatClampNeg) (vq0_y x7.toNatClampNeg))) <| gd (isn (FP.dsub x5 (FP.dmul (vq0_a ((8 * x7) + x4).toNatClampNeg) (vq0_y x7.toNatClampNeg)))) <| some (.inl (FP.dsub x5 (FP.dmul (vq0_a ((8 * x7) + x4).toNatClampNeg) (vq0_y x7.toNatClampNeg)), x7 + 1)))
def s_M_far_L173 (vq0_m : Int32) (vq0_n : Int32) (vq0_length : Int32) (vq0_where : Int32) (vq0_effort : Int32) (vq0_thrown : Int32) (vq0_at : Int32) (vq0_scaled : Int32) (vq0_solved : Int32) (vq0_second : Int32) (vq0_nm : Int32) (vq0_nn : Int32) (vq0_number : UInt64) (vq0_bad : Int32) (vq0_a : Nat → UInt64) (vq0_b : Nat → UInt64) (vq0_c : Nat → UInt64) (vq0_x : Nat → UInt64) (vq0_s : Nat → UInt64) (vq0_y : Nat → UInt64) (x1 : Int32) (x2 : UInt64) (x4 : Int32) (x5 : UInt64) (x7 : Int32) : Option ((UInt64 × Int32) ⊕ (UInt64)) :=
  (loopO (fun (st : UInt64 × Int32) => s_M_far_B173 vq0_m vq0_n vq0_length vq0_where vq0_effort vq0_thrown vq0_at vq0_scaled vq0_solved vq0_second vq0_nm vq0_nn vq0_number vq0_bad vq0_a vq0_b vq0_c vq0_x vq0_s vq0_y x1 x2 x4 st.1 st.2) 2000 (x5, x7)).bind fun u173 => gd (inb x4 8) <| gd (isn (FP.dsub u173 (vq0_s x4.toNatClampNeg))) <| (s_M_abs (FP.dsub u173 (vq0_s x4.toNatClampNeg))).bind fun u8 => (s_M_max x2 u8).bind fun u9 => s_M_far_J232 vq0_m vq0_n vq0_length vq0_where vq0_effort vq0_thrown vq0_at vq0_scaled vq0_solved vq0_second vq0_nm vq0_nn vq0_number vq0_bad vq0_a vq0_b vq0_c vq0_x vq0_s vq0_y x1 u9 x4
def s_M_far_B92 (vq0_m : Int32) (vq0_n : Int32) (vq0_length : Int32) (vq0_where : Int32) (vq0_effort : Int32) (vq0_thrown : Int32) (vq0_at : Int32) (vq0_scaled : Int32) (vq0_solved : Int32) (vq0_second : Int32) (vq0_nm : Int32) (vq0_nn : Int32) (vq0_number : UInt64) (vq0_bad : Int32) (vq0_a : Nat → UInt64) (vq0_b : Nat → UInt64) (vq0_c : Nat → UInt64) (vq0_x : Nat → UInt64) (vq0_s : Nat → UInt64) (vq0_y : Nat → UInt64) (x1 : Int32) (x2 : UInt64) (x4 : Int32) : Option ((UInt64 × Int32) ⊕ (UInt64)) :=
  if vq0_n ≤ x4 then (some (.inr x2)) else (if x1 = 2 then (gd (inb x4 8) <| gd (inb x4 8) <| gd (isn (FP.dmul (vq0_x x4.toNatClampNeg) (vq0_s x4.toNatClampNeg))) <| gd (isn (FP.dadd x2 (FP.dmul (vq0_x x4.toNatClampNeg) (vq0_s x4.toNatClampNeg)))) <| s_M_far_J232 vq0_m vq0_n vq0_length vq0_where vq0_effort vq0_thrown vq0_at vq0_scaled vq0_solved vq0_second vq0_nm vq0_nn vq0_number vq0_bad vq0_a vq0_b vq0_c vq0_x vq0_s vq0_y x1 (FP.dadd x2 (FP.dmul (vq0_x x4.toNatClampNeg) (vq0_s x4.toNatClampNeg))) x4) else (if x1 = 3 then (gd (inb x4 8) <| (s_M_max x2 (FP.dneg (vq0_x x4.toNatClampNeg))).bind fun u15 => gd (inb x4 8) <| (s_M_max u15 (FP.dneg (vq0_s x4.toNatClampNeg))).bind fun u17 => s_M_far_J232 vq0_m vq0_n vq0_length vq0_where vq0_effort vq0_thrown vq0_at vq0_scaled vq0_solved vq0_second vq0_nm vq0_nn vq0_number vq0_bad vq0_a vq0_b vq0_c vq0_x vq0_s vq0_y x1 u17 x4) else (gd (inb x4 8) <| s_M_far_L173 vq0_m vq0_n vq0_length vq0_where vq0_effort vq0_thrown vq0_at vq0_scaled vq0_solved vq0_second vq0_nm vq0_nn vq0_number vq0_bad vq0_a vq0_b vq0_c vq0_x vq0_s vq0_y x1 x2 x4 (vq0_c x4.toNatClampNeg) 0)))
def s_M_far_L92 (vq0_m : Int32) (vq0_n : Int32) (vq0_length : Int32) (vq0_where : Int32) (vq0_effort : Int32) (vq0_thrown : Int32) (vq0_at : Int32) (vq0_scaled : Int32) (vq0_solved : Int32) (vq0_second : Int32) (vq0_nm : Int32) (vq0_nn : Int32) (vq0_number : UInt64) (vq0_bad : Int32) (vq0_a : Nat → UInt64) (vq0_b : Nat → UInt64) (vq0_c : Nat → UInt64) (vq0_x : Nat → UInt64) (vq0_s : Nat → UInt64) (vq0_y : Nat → UInt64) (x1 : Int32) (x2 : UInt64) (x4 : Int32) : Option (UInt64) :=
  (loopO (fun (st : UInt64 × Int32) => s_M_far_B92 vq0_m vq0_n vq0_length vq0_where vq0_effort vq0_thrown vq0_at vq0_scaled vq0_solved vq0_second vq0_nm vq0_nn vq0_number vq0_bad vq0_a vq0_b vq0_c vq0_x vq0_s vq0_y x1 st.1 st.2) 2000 (x2, x4)).bind fun u92 => some u92
def s_M_far_B30 (vq0_m : Int32) (vq0_n : Int32) (vq0_length : Int32) (vq0_where : Int32) (vq0_effort : Int32) (vq0_thrown : Int32) (vq0_at : Int32) (vq0_scaled : Int32) (vq0_solved : Int32) (vq0_second : Int32) (vq0_nm : Int32) (vq0_nn : Int32) (vq0_number : UInt64) (vq0_bad : Int32) (vq0_a : Nat → UInt64) (vq0_b : Nat → UInt64) (vq0_c : Nat → UInt64) (vq0_x : Nat → UInt64) (vq0_s : Nat → UInt64) (vq0_y : Nat → UInt64) (x2 : UInt64) (x4 : Int32) (x5 : UInt64) (x7 : Int32) : Option ((UInt64 × Int32) ⊕ (UInt64)) :=
  if vq0_n ≤ x7 then (some (.inr x5)) else (gd (inb ((8 * x4) + x7) 40) <| gd (inb x7 8) <| gd (isn (FP.dmul (vq0_a ((8 * x4) + x7).toNatClampNeg) (vq0_x x7.toNatClampNeg))) <| gd (isn (FP.dsub x5 (FP.dmul (vq0_a ((8 * x4) + x7).toNatClampNeg) (vq0_x x7.toNatClampNeg)))) <| some (.inl (FP.dsub x5 (FP.dmul (vq0_a ((8 * x4) + x7).toNatClampNeg) (vq0_x x7.toNatClampNeg)), x7 + 1)))
def s_M_far_L30 (vq0_m : Int32) (vq0_n : Int32) (vq0_length : Int32) (vq0_where : Int32) (vq0_effort : Int32) (vq0_thrown : Int32) (vq0_at : Int32) (vq0_scaled : Int32) (vq0_solved : Int32) (vq0_second : Int32) (vq0_nm : Int32) (vq0_nn : Int32) (vq0_number : UInt64) (vq0_bad : Int32) (vq0_a : Nat → UInt64) (vq0_b : Nat → UInt64) (vq0_c : Nat → UInt64) (vq0_x : Nat → UInt64) (vq0_s : Nat → UInt64) (vq0_y : Nat → UInt64) (x2 : UInt64) (x4 : Int32) (x5 : UInt64) (x7 : Int32) : Option ((UInt64 × Int32) ⊕ (UInt64)) :=
  (loopO (fun (st : UInt64 × Int32) => s_M_far_B30 vq0_m vq0_n vq0_length vq0_where vq0_effort vq0_thrown vq0_at vq0_scaled vq0_solved vq0_second vq0_nm vq0_nn vq0_number vq0_bad vq0_a vq0_b vq0_c vq0_x vq0_s vq0_y x2 x4 st.1 st.2) 2000 (x5, x7)).bind fun u30 => (s_M_abs u30).bind fun u27 => (s_M_max x2 u27).bind fun u28 => some (.inl (u28, x4 + 1))
def s_M_far_B9 (vq0_m : Int32) (vq0_n : Int32) (vq0_length : Int32) (vq0_where : Int32) (vq0_effort : Int32) (vq0_thrown : Int32) (vq0_at : Int32) (vq0_scaled : Int32) (vq0_solved : Int32) (vq0_second : Int32) (vq0_nm : Int32) (vq0_nn : Int32) (vq0_number : UInt64) (vq0_bad : Int32) (vq0_a : Nat → UInt64) (vq0_b : Nat → UInt64) (vq0_c : Nat → UInt64) (vq0_x : Nat → UInt64) (vq0_s : Nat → UInt64) (vq0_y : Nat → UInt64) (x2 : UInt64) (x4 : Int32) : Option ((UInt64 × Int32) ⊕ (UInt64)) :=
  if vq0_m ≤ x4 then (some (.inr x2)) else (gd (inb x4 5) <| s_M_far_L30 vq0_m vq0_n vq0_length vq0_where vq0_effort vq0_thrown vq0_at vq0_scaled vq0_solved vq0_second vq0_nm vq0_nn vq0_number vq0_bad vq0_a vq0_b vq0_c vq0_x vq0_s vq0_y x2 x4 (vq0_b x4.toNatClampNeg) 0)
def s_M_far_L9 (vq0_m : Int32) (vq0_n : Int32) (vq0_length : Int32) (vq0_where : Int32) (vq0_effort : Int32) (vq0_thrown : Int32) (vq0_at : Int32) (vq0_scaled : Int32) (vq0_solved : Int32) (vq0_second : Int32) (vq0_nm : Int32) (vq0_nn : Int32) (vq0_number : UInt64) (vq0_bad : Int32) (vq0_a : Nat → UInt64) (vq0_b : Nat → UInt64) (vq0_c : Nat → UInt64) (vq0_x : Nat → UInt64) (vq0_s : Nat → UInt64) (vq0_y : Nat → UInt64) (x2 : UInt64) (x4 : Int32) : Option (UInt64) :=
  (loopO (fun (st : UInt64 × Int32) => s_M_far_B9 vq0_m vq0_n vq0_length vq0_where vq0_effort vq0_thrown vq0_at vq0_scaled vq0_solved vq0_second vq0_nm vq0_nn vq0_number vq0_bad vq0_a vq0_b vq0_c vq0_x vq0_s vq0_y st.1 st.2) 2000 (x2, x4)).bind fun u9 => some u9
def s_M_far (vq0_m : Int32) (vq0_n : Int32) (vq0_length : Int32) (vq0_where : Int32) (vq0_effort : Int32) (vq0_thrown : Int32) (vq0_at : Int32) (vq0_scaled : Int32) (vq0_solved : Int32) (vq0_second : Int32) (vq0_nm : Int32) (vq0_nn : Int32) (vq0_number : UInt64) (vq0_bad : Int32) (vq0_a : Nat → UInt64) (vq0_b : Nat → UInt64) (vq0_c : Nat → UInt64) (vq0_x : Nat → UInt64) (vq0_s : Nat → UInt64) (vq0_y : Nat → UInt64) (x1 : Int32) : Option (UInt64) :=
  if x1 = 0 then (s_M_far_L9 vq0_m vq0_n vq0_length vq0_where vq0_effort vq0_thrown vq0_at vq0_scaled vq0_solved vq0_second vq0_nm vq0_nn vq0_number vq0_bad vq0_a vq0_b vq0_c vq0_x vq0_s vq0_y FP.dconst0 0) else (s_M_far_L92 vq0_m vq0_n vq0_length vq0_where vq0_effort vq0_thrown vq0_at vq0_scaled vq0_solved vq0_second vq0_nm vq0_nn vq0_number vq0_bad vq0_a vq0_b vq0_c vq0_x vq0_s vq0_y x1 FP.dconst0 0)
set_option maxHeartbeats 4000000 in
set_option maxRecDepth 100000 in
theorem c_M_far (l : Launch) (D : va_G) (T : Nat → ClassId) (q0 : Nat) (q0_a : Nat) (q0_b : Nat) (q0_c : Nat) (q0_rowScale : Nat) (q0_columnScale : Nat) (q0_sa : Nat) (q0_sb : Nat) (q0_sc : Nat) (q0_x : Nat) (q0_s : Nat) (q0_y : Nat) (q0_p : Nat) (q0_d : Nat) (q0_h : Nat) (q0_f : Nat) (q0_mm : Nat) (q0_low : Nat) (q0_dd : Nat) (q0_r : Nat) (q0_big : Nat) (q0_dt : Nat) (q0_dx : Nat) (q0_t : Nat) (q0_cost : Nat) (q0_rowScaleNow : Nat) (q0_columnScaleNow : Nat) (q0_basic : Nat) (q0_text : Nat) (q0_turned : Nat) (q0_na : Nat) (q0_nb : Nat) (q0_nc : Nat) (vq0_m : Int32) (vq0_n : Int32) (vq0_length : Int32) (vq0_where : Int32) (vq0_effort : Int32) (vq0_thrown : Int32) (vq0_at : Int32) (vq0_scaled : Int32) (vq0_solved : Int32) (vq0_second : Int32) (vq0_nm : Int32) (vq0_nn : Int32) (vq0_number : UInt64) (vq0_bad : Int32) (vq0_a : Nat → UInt64) (vq0_b : Nat → UInt64) (vq0_c : Nat → UInt64) (vq0_x : Nat → UInt64) (vq0_s : Nat → UInt64) (vq0_y : Nat → UInt64) (x1 : Int32) (rm : UInt64) (h : s_M_far vq0_m vq0_n vq0_length vq0_where vq0_effort vq0_thrown vq0_at vq0_scaled vq0_solved vq0_second vq0_nm vq0_nn vq0_number vq0_bad vq0_a vq0_b vq0_c vq0_x vq0_s vq0_y x1 = some rm) : CtD l y_M_far (Cond.code y_M_far prog_10_method_44_code 8 (some .double) :: BIG) 1 23 D T [.ref q0, .int x1] (w_M_far T q0 q0_a q0_b q0_c q0_rowScale q0_columnScale q0_sa q0_sb q0_sc q0_x q0_s q0_y q0_p q0_d q0_h q0_f q0_mm q0_low q0_dd q0_r q0_big q0_dt q0_dx q0_t q0_cost q0_rowScaleNow q0_columnScaleNow q0_basic q0_text q0_turned q0_na q0_nb q0_nc vq0_m vq0_n vq0_length vq0_where vq0_effort vq0_thrown vq0_at vq0_scaled vq0_solved vq0_second vq0_nm vq0_nn vq0_number vq0_bad vq0_a vq0_b vq0_c vq0_x vq0_s vq0_y) (fun r => r) (fun r => (w_M_far T q0 q0_a q0_b q0_c q0_rowScale q0_columnScale q0_sa q0_sb q0_sc q0_x q0_s q0_y q0_p q0_d q0_h q0_f q0_mm q0_low q0_dd q0_r q0_big q0_dt q0_dx q0_t q0_cost q0_rowScaleNow q0_columnScaleNow q0_basic q0_text q0_turned q0_na q0_nb q0_nc vq0_m vq0_n vq0_length vq0_where vq0_effort vq0_thrown vq0_at vq0_scaled vq0_solved vq0_second vq0_nm vq0_nn vq0_number vq0_bad vq0_a vq0_b vq0_c vq0_x vq0_s vq0_y)) rm := by
  refine cf_entry (y := y_M_far) (cc := prog_10_method_44_code) (nL := 8) (ret := (some .double)) (fr := 1) (lo := 23) (T := T) (av := [.ref q0, .int x1]) (w := (w_M_far T q0 q0_a q0_b q0_c q0_rowScale q0_columnScale q0_sa q0_sb q0_sc q0_x q0_s q0_y q0_p q0_d q0_h q0_f q0_mm q0_low q0_dd q0_r q0_big q0_dt q0_dx q0_t q0_cost q0_rowScaleNow q0_columnScaleNow q0_basic q0_text q0_turned q0_na q0_nb q0_nc vq0_m vq0_n vq0_length vq0_where vq0_effort vq0_thrown vq0_at vq0_scaled vq0_solved vq0_second vq0_nm vq0_nn vq0_number vq0_bad vq0_a vq0_b vq0_c vq0_x vq0_s vq0_y)) (Qc := cfQd D (fun r => r) (fun r => (w_M_far T q0 q0_a q0_b q0_c q0_rowScale q0_columnScale q0_sa q0_sb q0_sc q0_x q0_s q0_y q0_p q0_d q0_h q0_f q0_mm q0_low q0_dd q0_r q0_big q0_dt q0_dx q0_t q0_cost q0_rowScaleNow q0_columnScaleNow q0_basic q0_text q0_turned q0_na q0_nb q0_nc vq0_m vq0_n vq0_length vq0_where vq0_effort vq0_thrown vq0_at vq0_scaled vq0_solved vq0_second vq0_nm vq0_nn vq0_number vq0_bad vq0_a vq0_b vq0_c vq0_x vq0_s vq0_y)) rm) (by decide) rfl (Nat.le_of_ble_eq_true rfl) ?_
  intro p e s m args below meth c A Q H locs ls hx hb hr hlocks hml hown hts hNW hK hA hQ hP hD hS hl
  have hown : s.vm.findClass "ConeForgeModel" = some m.cls := hown
  have hl : lv_has ls 8 [(0, .ref q0), (1, .int x1)] := hl
  have L92 : ∀ (x1 : Int32) (x2 : UInt64) (x4 : Int32), ∀ (H : Heap) (locs : List Loc) (ls : Array Slot), va_P D CL (w_M_far T q0 q0_a q0_b q0_c q0_rowScale q0_columnScale q0_sa q0_sb q0_sc q0_x q0_s q0_y q0_p q0_d q0_h q0_f q0_mm q0_low q0_dd q0_r q0_big q0_dt q0_dx q0_t q0_cost q0_rowScaleNow q0_columnScaleNow q0_basic q0_text q0_turned q0_na q0_nb q0_nc vq0_m vq0_n vq0_length vq0_where vq0_effort vq0_thrown vq0_at vq0_scaled vq0_solved vq0_second vq0_nm vq0_nn vq0_number vq0_bad vq0_a vq0_b vq0_c vq0_x vq0_s vq0_y) H → va_D A (w_M_far T q0 q0_a q0_b q0_c q0_rowScale q0_columnScale q0_sa q0_sb q0_sc q0_x q0_s q0_y q0_p q0_d q0_h q0_f q0_mm q0_low q0_dd q0_r q0_big q0_dt q0_dx q0_t q0_cost q0_rowScaleNow q0_columnScaleNow q0_basic q0_text q0_turned q0_na q0_nb q0_nc vq0_m vq0_n vq0_length vq0_where vq0_effort vq0_thrown vq0_at vq0_scaled vq0_solved vq0_second vq0_nm vq0_nn vq0_number vq0_bad vq0_a vq0_b vq0_c vq0_x vq0_s vq0_y) → va_S A s.heap H locs → lv_has ls 8 [(0, .ref q0), (1, .int x1), (2, .double x2), (4, .int x4)] → s_M_far_L92 vq0_m vq0_n vq0_length vq0_where vq0_effort vq0_thrown vq0_at vq0_scaled vq0_solved vq0_second vq0_nm vq0_nn vq0_number vq0_bad vq0_a vq0_b vq0_c vq0_x vq0_s vq0_y x1 x2 x4 = some rm → W p l e (rmk 1 23) s m args below meth c H locs 0 0 Q (F0 m 92 ls []) := by
    intro x1 x2 x4 H locs ls hP hD hS hl h
    unfold s_M_far_L92 at h
    obtain ⟨u92, hu92, h⟩ := bi_some h
    refine loopO_W (Wh := fun (st : UInt64 × Int32) => ∀ (H : Heap) (locs : List Loc) (ls : Array Slot), va_P D CL (w_M_far T q0 q0_a q0_b q0_c q0_rowScale q0_columnScale q0_sa q0_sb q0_sc q0_x q0_s q0_y q0_p q0_d q0_h q0_f q0_mm q0_low q0_dd q0_r q0_big q0_dt q0_dx q0_t q0_cost q0_rowScaleNow q0_columnScaleNow q0_basic q0_text q0_turned q0_na q0_nb q0_nc vq0_m vq0_n vq0_length vq0_where vq0_effort vq0_thrown vq0_at vq0_scaled vq0_solved vq0_second vq0_nm vq0_nn vq0_number vq0_bad vq0_a vq0_b vq0_c vq0_x vq0_s vq0_y) H → va_D A (w_M_far T q0 q0_a q0_b q0_c q0_rowScale q0_columnScale q0_sa q0_sb q0_sc q0_x q0_s q0_y q0_p q0_d q0_h q0_f q0_mm q0_low q0_dd q0_r q0_big q0_dt q0_dx q0_t q0_cost q0_rowScaleNow q0_columnScaleNow q0_basic q0_text q0_turned q0_na q0_nb q0_nc vq0_m vq0_n vq0_length vq0_where vq0_effort vq0_thrown vq0_at vq0_scaled vq0_solved vq0_second vq0_nm vq0_nn vq0_number vq0_bad vq0_a vq0_b vq0_c vq0_x vq0_s vq0_y) → va_S A s.heap H locs → lv_has ls 8 [(0, .ref q0), (1, .int x1), (2, .double st.1), (4, .int st.2)] → W p l e (rmk 1 23) s m args below meth c H locs 0 0 Q (F0 m 92 ls [])) (Wx := fun (e1 : UInt64) => ∀ (H : Heap) (locs : List Loc) (ls : Array Slot), va_P D CL (w_M_far T q0 q0_a q0_b q0_c q0_rowScale q0_columnScale q0_sa q0_sb q0_sc q0_x q0_s q0_y q0_p q0_d q0_h q0_f q0_mm q0_low q0_dd q0_r q0_big q0_dt q0_dx q0_t q0_cost q0_rowScaleNow q0_columnScaleNow q0_basic q0_text q0_turned q0_na q0_nb q0_nc vq0_m vq0_n vq0_length vq0_where vq0_effort vq0_thrown vq0_at vq0_scaled vq0_solved vq0_second vq0_nm vq0_nn vq0_number vq0_bad vq0_a vq0_b vq0_c vq0_x vq0_s vq0_y) H → va_D A (w_M_far T q0 q0_a q0_b q0_c q0_rowScale q0_columnScale q0_sa q0_sb q0_sc q0_x q0_s q0_y q0_p q0_d q0_h q0_f q0_mm q0_low q0_dd q0_r q0_big q0_dt q0_dx q0_t q0_cost q0_rowScaleNow q0_columnScaleNow q0_basic q0_text q0_turned q0_na q0_nb q0_nc vq0_m vq0_n vq0_length vq0_where vq0_effort vq0_thrown vq0_at vq0_scaled vq0_solved vq0_second vq0_nm vq0_nn vq0_number vq0_bad vq0_a vq0_b vq0_c vq0_x vq0_s vq0_y) → va_S A s.heap H locs → lv_has ls 8 [(2, .double e1)] → W p l e (rmk 1 23) s m args below meth c H locs 0 0 Q (F0 m 238 ls [])) ?_ 2000 _ u92 hu92 ?_ H locs ls hP hD hS hl
    · intro st rb92 h kc92 kx92 H locs ls hP hD hS hl
      obtain ⟨x2, x4⟩ := st
      have h : s_M_far_B92 vq0_m vq0_n vq0_length vq0_where vq0_effort vq0_thrown vq0_at vq0_scaled vq0_solved vq0_second vq0_nm vq0_nn vq0_number vq0_bad vq0_a vq0_b vq0_c vq0_x vq0_s vq0_y x1 x2 x4 = some rb92 := h
      have J232 : ∀ (x2 : UInt64) (x4 : Int32), ∀ (H : Heap) (locs : List Loc) (ls : Array Slot), va_P D CL (w_M_far T q0 q0_a q0_b q0_c q0_rowScale q0_columnScale q0_sa q0_sb q0_sc q0_x q0_s q0_y q0_p q0_d q0_h q0_f q0_mm q0_low q0_dd q0_r q0_big q0_dt q0_dx q0_t q0_cost q0_rowScaleNow q0_columnScaleNow q0_basic q0_text q0_turned q0_na q0_nb q0_nc vq0_m vq0_n vq0_length vq0_where vq0_effort vq0_thrown vq0_at vq0_scaled vq0_solved vq0_second vq0_nm vq0_nn vq0_number vq0_bad vq0_a vq0_b vq0_c vq0_x vq0_s vq0_y) H → va_D A (w_M_far T q0 q0_a q0_b q0_c q0_rowScale q0_columnScale q0_sa q0_sb q0_sc q0_x q0_s q0_y q0_p q0_d q0_h q0_f q0_mm q0_low q0_dd q0_r q0_big q0_dt q0_dx q0_t q0_cost q0_rowScaleNow q0_columnScaleNow q0_basic q0_text q0_turned q0_na q0_nb q0_nc vq0_m vq0_n vq0_length vq0_where vq0_effort vq0_thrown vq0_at vq0_scaled vq0_solved vq0_second vq0_nm vq0_nn vq0_number vq0_bad vq0_a vq0_b vq0_c vq0_x vq0_s vq0_y) → va_S A s.heap H locs → lv_has ls 8 [(0, .ref q0), (1, .int x1), (2, .double x2), (4, .int x4)] → s_M_far_J232 vq0_m vq0_n vq0_length vq0_where vq0_effort vq0_thrown vq0_at vq0_scaled vq0_solved vq0_second vq0_nm vq0_nn vq0_number vq0_bad vq0_a vq0_b vq0_c vq0_x vq0_s vq0_y x1 x2 x4 = some rb92 → W p l e (rmk 1 23) s m args below meth c H locs 0 0 Q (F0 m 232 ls []) := by
        intro x2 x4 H locs ls hP hD hS hl h
        unfold s_M_far_J232 at h
        refine lv_iinc (v := x4 + 1) (lv' := [(4, .int (x4 + 1)), (0, .ref q0), (1, .int x1), (2, .double x2)]) hx hb d_M_far_232 hl (k := 3) rfl rfl (by decide) rfl (fun ls hl => ?_)
        refine lv_goto (tgt := 92) hx hb d_M_far_235 (by decide) ?_
        exact kc92 _ (Option.some.inj h).symm H locs ls hP hD hS (lv_sub hl [1, 2, 3, 0] rfl)
      have L173 : ∀ (x2 : UInt64) (x4 : Int32) (x5 : UInt64) (x7 : Int32), ∀ (H : Heap) (locs : List Loc) (ls : Array Slot), va_P D CL (w_M_far T q0 q0_a q0_b q0_c q0_rowScale q0_columnScale q0_sa q0_sb q0_sc q0_x q0_s q0_y q0_p q0_d q0_h q0_f q0_mm q0_low q0_dd q0_r q0_big q0_dt q0_dx q0_t q0_cost q0_rowScaleNow q0_columnScaleNow q0_basic q0_text q0_turned q0_na q0_nb q0_nc vq0_m vq0_n vq0_length vq0_where vq0_effort vq0_thrown vq0_at vq0_scaled vq0_solved vq0_second vq0_nm vq0_nn vq0_number vq0_bad vq0_a vq0_b vq0_c vq0_x vq0_s vq0_y) H → va_D A (w_M_far T q0 q0_a q0_b q0_c q0_rowScale q0_columnScale q0_sa q0_sb q0_sc q0_x q0_s q0_y q0_p q0_d q0_h q0_f q0_mm q0_low q0_dd q0_r q0_big q0_dt q0_dx q0_t q0_cost q0_rowScaleNow q0_columnScaleNow q0_basic q0_text q0_turned q0_na q0_nb q0_nc vq0_m vq0_n vq0_length vq0_where vq0_effort vq0_thrown vq0_at vq0_scaled vq0_solved vq0_second vq0_nm vq0_nn vq0_number vq0_bad vq0_a vq0_b vq0_c vq0_x vq0_s vq0_y) → va_S A s.heap H locs → lv_has ls 8 [(0, .ref q0), (1, .int x1), (2, .double x2), (4, .int x4), (5, .double x5), (7, .int x7)] → s_M_far_L173 vq0_m vq0_n vq0_length vq0_where vq0_effort vq0_thrown vq0_at vq0_scaled vq0_solved vq0_second vq0_nm vq0_nn vq0_number vq0_bad vq0_a vq0_b vq0_c vq0_x vq0_s vq0_y x1 x2 x4 x5 x7 = some rb92 → W p l e (rmk 1 23) s m args below meth c H locs 0 0 Q (F0 m 173 ls []) := by
        intro x2 x4 x5 x7 H locs ls hP hD hS hl h
        unfold s_M_far_L173 at h
        obtain ⟨u173, hu173, h⟩ := bi_some h
        refine loopO_W (Wh := fun (st : UInt64 × Int32) => ∀ (H : Heap) (locs : List Loc) (ls : Array Slot), va_P D CL (w_M_far T q0 q0_a q0_b q0_c q0_rowScale q0_columnScale q0_sa q0_sb q0_sc q0_x q0_s q0_y q0_p q0_d q0_h q0_f q0_mm q0_low q0_dd q0_r q0_big q0_dt q0_dx q0_t q0_cost q0_rowScaleNow q0_columnScaleNow q0_basic q0_text q0_turned q0_na q0_nb q0_nc vq0_m vq0_n vq0_length vq0_where vq0_effort vq0_thrown vq0_at vq0_scaled vq0_solved vq0_second vq0_nm vq0_nn vq0_number vq0_bad vq0_a vq0_b vq0_c vq0_x vq0_s vq0_y) H → va_D A (w_M_far T q0 q0_a q0_b q0_c q0_rowScale q0_columnScale q0_sa q0_sb q0_sc q0_x q0_s q0_y q0_p q0_d q0_h q0_f q0_mm q0_low q0_dd q0_r q0_big q0_dt q0_dx q0_t q0_cost q0_rowScaleNow q0_columnScaleNow q0_basic q0_text q0_turned q0_na q0_nb q0_nc vq0_m vq0_n vq0_length vq0_where vq0_effort vq0_thrown vq0_at vq0_scaled vq0_solved vq0_second vq0_nm vq0_nn vq0_number vq0_bad vq0_a vq0_b vq0_c vq0_x vq0_s vq0_y) → va_S A s.heap H locs → lv_has ls 8 [(0, .ref q0), (1, .int x1), (2, .double x2), (4, .int x4), (5, .double st.1), (7, .int st.2)] → W p l e (rmk 1 23) s m args below meth c H locs 0 0 Q (F0 m 173 ls [])) (Wx := fun (e1 : UInt64) => ∀ (H : Heap) (locs : List Loc) (ls : Array Slot), va_P D CL (w_M_far T q0 q0_a q0_b q0_c q0_rowScale q0_columnScale q0_sa q0_sb q0_sc q0_x q0_s q0_y q0_p q0_d q0_h q0_f q0_mm q0_low q0_dd q0_r q0_big q0_dt q0_dx q0_t q0_cost q0_rowScaleNow q0_columnScaleNow q0_basic q0_text q0_turned q0_na q0_nb q0_nc vq0_m vq0_n vq0_length vq0_where vq0_effort vq0_thrown vq0_at vq0_scaled vq0_solved vq0_second vq0_nm vq0_nn vq0_number vq0_bad vq0_a vq0_b vq0_c vq0_x vq0_s vq0_y) H → va_D A (w_M_far T q0 q0_a q0_b q0_c q0_rowScale q0_columnScale q0_sa q0_sb q0_sc q0_x q0_s q0_y q0_p q0_d q0_h q0_f q0_mm q0_low q0_dd q0_r q0_big q0_dt q0_dx q0_t q0_cost q0_rowScaleNow q0_columnScaleNow q0_basic q0_text q0_turned q0_na q0_nb q0_nc vq0_m vq0_n vq0_length vq0_where vq0_effort vq0_thrown vq0_at vq0_scaled vq0_solved vq0_second vq0_nm vq0_nn vq0_number vq0_bad vq0_a vq0_b vq0_c vq0_x vq0_s vq0_y) → va_S A s.heap H locs → lv_has ls 8 [(0, .ref q0), (1, .int x1), (2, .double x2), (4, .int x4), (5, .double e1)] → W p l e (rmk 1 23) s m args below meth c H locs 0 0 Q (F0 m 214 ls [])) ?_ 2000 _ u173 hu173 ?_ H locs ls hP hD hS hl
        · intro st rb173 h kc173 kx173 H locs ls hP hD hS hl
          obtain ⟨x5, x7⟩ := st
          have h : s_M_far_B173 vq0_m vq0_n vq0_length vq0_where vq0_effort vq0_thrown vq0_at vq0_scaled vq0_solved vq0_second vq0_nm vq0_nn vq0_number vq0_bad vq0_a vq0_b vq0_c vq0_x vq0_s vq0_y x1 x2 x4 x5 x7 = some rb173 := h
          unfold s_M_far_B173 at h
          refine lv_iload hx hb d_M_far_173 (lv_at hl 5 rfl) ?_
          refine lv_aload_n hx hb d_M_far_175 rfl (lv_at hl 0 rfl) ?_
          refine va_get (D := D) (ci := 8) (v := .int vq0_m) (C := "ConeForgeModel") (T := FM) (N := 46) hx hb hts iM hown hK hP 0 rfl rfl 29 (by decide) (hts _ (bgc bw713)) (fun _ h9 => h9) rfl d_M_far_176 ?_
          refine lv_icmp_ge (tgt := 214) hx hb d_M_far_179 (by decide) (fun c1 => ?_) (fun c1 => ?_)
          · have h := it_t c1 h
            exact kx173 _ (Option.some.inj h).symm H locs ls hP hD hS (lv_sub hl [0, 1, 2, 3, 4] rfl)
          · have h := it_f c1 h
            refine lv_dload hx hb d_M_far_182 (lv_at hl 4 rfl) ?_
            refine lv_aload_n hx hb d_M_far_184 rfl (lv_at hl 0 rfl) ?_
            refine va_get (D := D) (ci := 8) (v := .ref q0_a) (C := "ConeForgeModel") (T := FM) (N := 46) hx hb hts iM hown hK hP 0 rfl rfl 0 (by decide) (hts _ (bgc bw684)) (fun _ h9 => h9) rfl d_M_far_185 ?_
            refine lv_bipush (v := 8) hx hb d_M_far_188 (by decide) ?_
            refine lv_iload hx hb d_M_far_190 (lv_at hl 5 rfl) ?_
            refine lv_imul hx hb d_M_far_192 ?_
            refine lv_iload hx hb d_M_far_193 (lv_at hl 3 rfl) ?_
            refine lv_iadd hx hb d_M_far_195 ?_
            obtain ⟨g2, h⟩ := gd_some h
            refine va_dald hx hb hK hP 1 0 rfl rfl (inb_in g2) d_M_far_196 ?_
            refine lv_aload_n hx hb d_M_far_197 rfl (lv_at hl 0 rfl) ?_
            refine va_get (D := D) (ci := 8) (v := .ref q0_y) (C := "ConeForgeModel") (T := FM) (N := 46) hx hb hts iM hown hK hP 0 rfl rfl 10 (by decide) (hts _ (bgc bw694)) (fun _ h9 => h9) rfl d_M_far_198 ?_
            refine lv_iload hx hb d_M_far_201 (lv_at hl 5 rfl) ?_
            obtain ⟨g3, h⟩ := gd_some h
            refine va_dald hx hb hK hP 6 0 rfl rfl (inb_in g3) d_M_far_203 ?_
            obtain ⟨g4, h⟩ := gd_some h
            refine lv_dmul hx hb d_M_far_204 (isn_n g4) ?_
            obtain ⟨g5, h⟩ := gd_some h
            refine lv_dsub hx hb d_M_far_205 (isn_n g5) ?_
            refine lv_dstore (lv' := [(5, .double (FP.dsub x5 (FP.dmul (vq0_a ((8 * x7) + x4).toNatClampNeg) (vq0_y x7.toNatClampNeg)))), (0, .ref q0), (1, .int x1), (2, .double x2), (4, .int x4), (7, .int x7)]) hx hb d_M_far_206 hl (by decide) rfl (fun ls hl => ?_)
            refine lv_iinc (v := x7 + 1) (lv' := [(7, .int (x7 + 1)), (5, .double (FP.dsub x5 (FP.dmul (vq0_a ((8 * x7) + x4).toNatClampNeg) (vq0_y x7.toNatClampNeg)))), (0, .ref q0), (1, .int x1), (2, .double x2), (4, .int x4)]) hx hb d_M_far_208 hl (k := 5) rfl rfl (by decide) rfl (fun ls hl => ?_)
            refine lv_goto (tgt := 173) hx hb d_M_far_211 (by decide) ?_
            exact kc173 _ (Option.some.inj h).symm H locs ls hP hD hS (lv_sub hl [2, 3, 4, 5, 1, 0] rfl)
        · intro H locs ls hP hD hS hl
          refine lv_dload_n hx hb d_M_far_214 rfl (lv_at hl 2 rfl) ?_
          refine lv_dload hx hb d_M_far_215 (lv_at hl 4 rfl) ?_
          refine lv_aload_n hx hb d_M_far_217 rfl (lv_at hl 0 rfl) ?_
          refine va_get (D := D) (ci := 8) (v := .ref q0_s) (C := "ConeForgeModel") (T := FM) (N := 46) hx hb hts iM hown hK hP 0 rfl rfl 9 (by decide) (hts _ (bgc bw693)) (fun _ h9 => h9) rfl d_M_far_218 ?_
          refine lv_iload hx hb d_M_far_221 (lv_at hl 3 rfl) ?_
          obtain ⟨g6, h⟩ := gd_some h
          refine va_dald hx hb hK hP 5 0 rfl rfl (inb_in g6) d_M_far_223 ?_
          obtain ⟨g7, h⟩ := gd_some h
          refine lv_dsub hx hb d_M_far_224 (isn_n g7) ?_
          obtain ⟨u8, hu8, h⟩ := bi_some h
          refine kD (v := u8) (wc := (w_M_abs T  )) (wc' := (w_M_abs T  )) (runOS (As := [.double (FP.dsub u173 (vq0_s x4.toNatClampNeg))]) (rest := [.double x2]) ((c_M_abs l D T   (FP.dsub u173 (vq0_s x4.toNatClampNeg)) u8 hu8) H.size) ⟨hx, hb, hml, hown, hts⟩ (cwOS bw844 bw845 bw105 bw846 dd_M_abs hts ⟨Nat.le_of_ble_eq_true rfl, Nat.le_of_ble_eq_true rfl⟩)  hNW hK hP hD [] rfl (by decide) rfl hl.1 rfl (lv_room (Nat.le_of_ble_eq_true rfl)) d_M_far_225 ⟨Nat.le_of_ble_eq_true rfl, Nat.le_of_ble_eq_true rfl⟩) hP hD hS hA [] rfl rfl (fun H locs hP hD hS => ?_)
          have hP : va_P D CL (w_M_far T q0 q0_a q0_b q0_c q0_rowScale q0_columnScale q0_sa q0_sb q0_sc q0_x q0_s q0_y q0_p q0_d q0_h q0_f q0_mm q0_low q0_dd q0_r q0_big q0_dt q0_dx q0_t q0_cost q0_rowScaleNow q0_columnScaleNow q0_basic q0_text q0_turned q0_na q0_nb q0_nc vq0_m vq0_n vq0_length vq0_where vq0_effort vq0_thrown vq0_at vq0_scaled vq0_solved vq0_second vq0_nm vq0_nn vq0_number vq0_bad vq0_a vq0_b vq0_c vq0_x vq0_s vq0_y) H := hP
          have hD : va_D A (w_M_far T q0 q0_a q0_b q0_c q0_rowScale q0_columnScale q0_sa q0_sb q0_sc q0_x q0_s q0_y q0_p q0_d q0_h q0_f q0_mm q0_low q0_dd q0_r q0_big q0_dt q0_dx q0_t q0_cost q0_rowScaleNow q0_columnScaleNow q0_basic q0_text q0_turned q0_na q0_nb q0_nc vq0_m vq0_n vq0_length vq0_where vq0_effort vq0_thrown vq0_at vq0_scaled vq0_solved vq0_second vq0_nm vq0_nn vq0_number vq0_bad vq0_a vq0_b vq0_c vq0_x vq0_s vq0_y) := hD
          obtain ⟨u9, hu9, h⟩ := bi_some h
          refine kD (v := u9) (wc := (w_M_max T  )) (wc' := (w_M_max T  )) (runOS (As := [.double x2, .double u8]) (rest := []) ((c_M_max l D T   x2 u8 u9 hu9) H.size) ⟨hx, hb, hml, hown, hts⟩ (cwOS bw847 bw848 bw105 bw849 dd_M_max hts ⟨Nat.le_of_ble_eq_true rfl, Nat.le_of_ble_eq_true rfl⟩)  hNW hK hP hD [] rfl (by decide) rfl hl.1 rfl (lv_room (Nat.le_of_ble_eq_true rfl)) d_M_far_228 ⟨Nat.le_of_ble_eq_true rfl, Nat.le_of_ble_eq_true rfl⟩) hP hD hS hA [] rfl rfl (fun H locs hP hD hS => ?_)
          have hP : va_P D CL (w_M_far T q0 q0_a q0_b q0_c q0_rowScale q0_columnScale q0_sa q0_sb q0_sc q0_x q0_s q0_y q0_p q0_d q0_h q0_f q0_mm q0_low q0_dd q0_r q0_big q0_dt q0_dx q0_t q0_cost q0_rowScaleNow q0_columnScaleNow q0_basic q0_text q0_turned q0_na q0_nb q0_nc vq0_m vq0_n vq0_length vq0_where vq0_effort vq0_thrown vq0_at vq0_scaled vq0_solved vq0_second vq0_nm vq0_nn vq0_number vq0_bad vq0_a vq0_b vq0_c vq0_x vq0_s vq0_y) H := hP
          have hD : va_D A (w_M_far T q0 q0_a q0_b q0_c q0_rowScale q0_columnScale q0_sa q0_sb q0_sc q0_x q0_s q0_y q0_p q0_d q0_h q0_f q0_mm q0_low q0_dd q0_r q0_big q0_dt q0_dx q0_t q0_cost q0_rowScaleNow q0_columnScaleNow q0_basic q0_text q0_turned q0_na q0_nb q0_nc vq0_m vq0_n vq0_length vq0_where vq0_effort vq0_thrown vq0_at vq0_scaled vq0_solved vq0_second vq0_nm vq0_nn vq0_number vq0_bad vq0_a vq0_b vq0_c vq0_x vq0_s vq0_y) := hD
          refine lv_dstore_n (lv' := [(2, .double u9), (0, .ref q0), (1, .int x1), (4, .int x4), (5, .double u173)]) hx hb d_M_far_231 rfl hl (by decide) rfl (fun ls hl => ?_)
          exact J232 u9 x4 H locs ls hP hD hS (lv_sub hl [1, 2, 0, 3] rfl) h
      unfold s_M_far_B92 at h
      refine lv_iload hx hb d_M_far_92 (lv_at hl 3 rfl) ?_
      refine lv_aload_n hx hb d_M_far_94 rfl (lv_at hl 0 rfl) ?_
      refine va_get (D := D) (ci := 8) (v := .int vq0_n) (C := "ConeForgeModel") (T := FM) (N := 46) hx hb hts iM hown hK hP 0 rfl rfl 30 (by decide) (hts _ (bgc bw714)) (fun _ h9 => h9) rfl d_M_far_95 ?_
      refine lv_icmp_ge (tgt := 238) hx hb d_M_far_98 (by decide) (fun c10 => ?_) (fun c10 => ?_)
      · have h := it_t c10 h
        exact kx92 _ (Option.some.inj h).symm H locs ls hP hD hS (lv_sub hl [2] rfl)
      · have h := it_f c10 h
        refine lv_iload_n hx hb d_M_far_101 rfl (lv_at hl 1 rfl) ?_
        refine lv_iconst (v := 2) hx hb d_M_far_102 (by decide) ?_
        refine lv_icmp_ne (tgt := 127) hx hb d_M_far_103 (by decide) (fun c11 => ?_) (fun c11 => ?_)
        · have h := it_f c11 h
          refine lv_iload_n hx hb d_M_far_127 rfl (lv_at hl 1 rfl) ?_
          refine lv_iconst (v := 3) hx hb d_M_far_128 (by decide) ?_
          refine lv_icmp_ne (tgt := 161) hx hb d_M_far_129 (by decide) (fun c12 => ?_) (fun c12 => ?_)
          · have h := it_f c12 h
            refine lv_aload_n hx hb d_M_far_161 rfl (lv_at hl 0 rfl) ?_
            refine va_get (D := D) (ci := 8) (v := .ref q0_c) (C := "ConeForgeModel") (T := FM) (N := 46) hx hb hts iM hown hK hP 0 rfl rfl 2 (by decide) (hts _ (bgc bw686)) (fun _ h9 => h9) rfl d_M_far_162 ?_
            refine lv_iload hx hb d_M_far_165 (lv_at hl 3 rfl) ?_
            obtain ⟨g13, h⟩ := gd_some h
            refine va_dald hx hb hK hP 3 0 rfl rfl (inb_in g13) d_M_far_167 ?_
            refine lv_dstore (lv' := [(5, .double (vq0_c x4.toNatClampNeg)), (0, .ref q0), (1, .int x1), (2, .double x2), (4, .int x4)]) hx hb d_M_far_168 hl (by decide) rfl (fun ls hl => ?_)
            refine lv_iconst (v := 0) hx hb d_M_far_170 (by decide) ?_
            refine lv_istore (lv' := [(7, .int 0), (5, .double (vq0_c x4.toNatClampNeg)), (0, .ref q0), (1, .int x1), (2, .double x2), (4, .int x4)]) hx hb d_M_far_171 hl (by decide) rfl (fun ls hl => ?_)
            exact L173 x2 x4 (vq0_c x4.toNatClampNeg) 0 H locs ls hP hD hS (lv_sub hl [2, 3, 4, 5, 1, 0] rfl) h
          · have h := it_t c12 h
            refine lv_dload_n hx hb d_M_far_132 rfl (lv_at hl 2 rfl) ?_
            refine lv_aload_n hx hb d_M_far_133 rfl (lv_at hl 0 rfl) ?_
            refine va_get (D := D) (ci := 8) (v := .ref q0_x) (C := "ConeForgeModel") (T := FM) (N := 46) hx hb hts iM hown hK hP 0 rfl rfl 8 (by decide) (hts _ (bgc bw692)) (fun _ h9 => h9) rfl d_M_far_134 ?_
            refine lv_iload hx hb d_M_far_137 (lv_at hl 3 rfl) ?_
            obtain ⟨g14, h⟩ := gd_some h
            refine va_dald hx hb hK hP 4 0 rfl rfl (inb_in g14) d_M_far_139 ?_
            refine lv_dneg hx hb d_M_far_140 ?_
            obtain ⟨u15, hu15, h⟩ := bi_some h
            refine kD (v := u15) (wc := (w_M_max T  )) (wc' := (w_M_max T  )) (runOS (As := [.double x2, .double (FP.dneg (vq0_x x4.toNatClampNeg))]) (rest := []) ((c_M_max l D T   x2 (FP.dneg (vq0_x x4.toNatClampNeg)) u15 hu15) H.size) ⟨hx, hb, hml, hown, hts⟩ (cwOS bw847 bw848 bw105 bw849 dd_M_max hts ⟨Nat.le_of_ble_eq_true rfl, Nat.le_of_ble_eq_true rfl⟩)  hNW hK hP hD [] rfl (by decide) rfl hl.1 rfl (lv_room (Nat.le_of_ble_eq_true rfl)) d_M_far_141 ⟨Nat.le_of_ble_eq_true rfl, Nat.le_of_ble_eq_true rfl⟩) hP hD hS hA [] rfl rfl (fun H locs hP hD hS => ?_)
            have hP : va_P D CL (w_M_far T q0 q0_a q0_b q0_c q0_rowScale q0_columnScale q0_sa q0_sb q0_sc q0_x q0_s q0_y q0_p q0_d q0_h q0_f q0_mm q0_low q0_dd q0_r q0_big q0_dt q0_dx q0_t q0_cost q0_rowScaleNow q0_columnScaleNow q0_basic q0_text q0_turned q0_na q0_nb q0_nc vq0_m vq0_n vq0_length vq0_where vq0_effort vq0_thrown vq0_at vq0_scaled vq0_solved vq0_second vq0_nm vq0_nn vq0_number vq0_bad vq0_a vq0_b vq0_c vq0_x vq0_s vq0_y) H := hP
            have hD : va_D A (w_M_far T q0 q0_a q0_b q0_c q0_rowScale q0_columnScale q0_sa q0_sb q0_sc q0_x q0_s q0_y q0_p q0_d q0_h q0_f q0_mm q0_low q0_dd q0_r q0_big q0_dt q0_dx q0_t q0_cost q0_rowScaleNow q0_columnScaleNow q0_basic q0_text q0_turned q0_na q0_nb q0_nc vq0_m vq0_n vq0_length vq0_where vq0_effort vq0_thrown vq0_at vq0_scaled vq0_solved vq0_second vq0_nm vq0_nn vq0_number vq0_bad vq0_a vq0_b vq0_c vq0_x vq0_s vq0_y) := hD
            refine lv_dstore_n (lv' := [(2, .double u15), (0, .ref q0), (1, .int x1), (4, .int x4)]) hx hb d_M_far_144 rfl hl (by decide) rfl (fun ls hl => ?_)
            refine lv_dload_n hx hb d_M_far_145 rfl (lv_at hl 0 rfl) ?_
            refine lv_aload_n hx hb d_M_far_146 rfl (lv_at hl 1 rfl) ?_
            refine va_get (D := D) (ci := 8) (v := .ref q0_s) (C := "ConeForgeModel") (T := FM) (N := 46) hx hb hts iM hown hK hP 0 rfl rfl 9 (by decide) (hts _ (bgc bw693)) (fun _ h9 => h9) rfl d_M_far_147 ?_
            refine lv_iload hx hb d_M_far_150 (lv_at hl 3 rfl) ?_
            obtain ⟨g16, h⟩ := gd_some h
            refine va_dald hx hb hK hP 5 0 rfl rfl (inb_in g16) d_M_far_152 ?_
            refine lv_dneg hx hb d_M_far_153 ?_
            obtain ⟨u17, hu17, h⟩ := bi_some h
            refine kD (v := u17) (wc := (w_M_max T  )) (wc' := (w_M_max T  )) (runOS (As := [.double u15, .double (FP.dneg (vq0_s x4.toNatClampNeg))]) (rest := []) ((c_M_max l D T   u15 (FP.dneg (vq0_s x4.toNatClampNeg)) u17 hu17) H.size) ⟨hx, hb, hml, hown, hts⟩ (cwOS bw847 bw848 bw105 bw849 dd_M_max hts ⟨Nat.le_of_ble_eq_true rfl, Nat.le_of_ble_eq_true rfl⟩)  hNW hK hP hD [] rfl (by decide) rfl hl.1 rfl (lv_room (Nat.le_of_ble_eq_true rfl)) d_M_far_154 ⟨Nat.le_of_ble_eq_true rfl, Nat.le_of_ble_eq_true rfl⟩) hP hD hS hA [] rfl rfl (fun H locs hP hD hS => ?_)
            have hP : va_P D CL (w_M_far T q0 q0_a q0_b q0_c q0_rowScale q0_columnScale q0_sa q0_sb q0_sc q0_x q0_s q0_y q0_p q0_d q0_h q0_f q0_mm q0_low q0_dd q0_r q0_big q0_dt q0_dx q0_t q0_cost q0_rowScaleNow q0_columnScaleNow q0_basic q0_text q0_turned q0_na q0_nb q0_nc vq0_m vq0_n vq0_length vq0_where vq0_effort vq0_thrown vq0_at vq0_scaled vq0_solved vq0_second vq0_nm vq0_nn vq0_number vq0_bad vq0_a vq0_b vq0_c vq0_x vq0_s vq0_y) H := hP
            have hD : va_D A (w_M_far T q0 q0_a q0_b q0_c q0_rowScale q0_columnScale q0_sa q0_sb q0_sc q0_x q0_s q0_y q0_p q0_d q0_h q0_f q0_mm q0_low q0_dd q0_r q0_big q0_dt q0_dx q0_t q0_cost q0_rowScaleNow q0_columnScaleNow q0_basic q0_text q0_turned q0_na q0_nb q0_nc vq0_m vq0_n vq0_length vq0_where vq0_effort vq0_thrown vq0_at vq0_scaled vq0_solved vq0_second vq0_nm vq0_nn vq0_number vq0_bad vq0_a vq0_b vq0_c vq0_x vq0_s vq0_y) := hD
            refine lv_dstore_n (lv' := [(2, .double u17), (0, .ref q0), (1, .int x1), (4, .int x4)]) hx hb d_M_far_157 rfl hl (by decide) rfl (fun ls hl => ?_)
            refine lv_goto (tgt := 232) hx hb d_M_far_158 (by decide) ?_
            exact J232 u17 x4 H locs ls hP hD hS (lv_sub hl [1, 2, 0, 3] rfl) h
        · have h := it_t c11 h
          refine lv_dload_n hx hb d_M_far_106 rfl (lv_at hl 2 rfl) ?_
          refine lv_aload_n hx hb d_M_far_107 rfl (lv_at hl 0 rfl) ?_
          refine va_get (D := D) (ci := 8) (v := .ref q0_x) (C := "ConeForgeModel") (T := FM) (N := 46) hx hb hts iM hown hK hP 0 rfl rfl 8 (by decide) (hts _ (bgc bw692)) (fun _ h9 => h9) rfl d_M_far_108 ?_
          refine lv_iload hx hb d_M_far_111 (lv_at hl 3 rfl) ?_
          obtain ⟨g18, h⟩ := gd_some h
          refine va_dald hx hb hK hP 4 0 rfl rfl (inb_in g18) d_M_far_113 ?_
          refine lv_aload_n hx hb d_M_far_114 rfl (lv_at hl 0 rfl) ?_
          refine va_get (D := D) (ci := 8) (v := .ref q0_s) (C := "ConeForgeModel") (T := FM) (N := 46) hx hb hts iM hown hK hP 0 rfl rfl 9 (by decide) (hts _ (bgc bw693)) (fun _ h9 => h9) rfl d_M_far_115 ?_
          refine lv_iload hx hb d_M_far_118 (lv_at hl 3 rfl) ?_
          obtain ⟨g19, h⟩ := gd_some h
          refine va_dald hx hb hK hP 5 0 rfl rfl (inb_in g19) d_M_far_120 ?_
          obtain ⟨g20, h⟩ := gd_some h
          refine lv_dmul hx hb d_M_far_121 (isn_n g20) ?_
          obtain ⟨g21, h⟩ := gd_some h
          refine lv_dadd hx hb d_M_far_122 (isn_n g21) ?_
          refine lv_dstore_n (lv' := [(2, .double (FP.dadd x2 (FP.dmul (vq0_x x4.toNatClampNeg) (vq0_s x4.toNatClampNeg)))), (0, .ref q0), (1, .int x1), (4, .int x4)]) hx hb d_M_far_123 rfl hl (by decide) rfl (fun ls hl => ?_)
          refine lv_goto (tgt := 232) hx hb d_M_far_124 (by decide) ?_
          exact J232 (FP.dadd x2 (FP.dmul (vq0_x x4.toNatClampNeg) (vq0_s x4.toNatClampNeg))) x4 H locs ls hP hD hS (lv_sub hl [1, 2, 0, 3] rfl) h
    · intro H locs ls hP hD hS hl
      refine lv_dload_n hx hb d_M_far_238 rfl (lv_at hl 0 rfl) ?_
      exact rtD hx hb hr hlocks hQ (Option.some.inj h) hP hS d_M_far_239 rfl rfl
  have L9 : ∀ (x2 : UInt64) (x4 : Int32), ∀ (H : Heap) (locs : List Loc) (ls : Array Slot), va_P D CL (w_M_far T q0 q0_a q0_b q0_c q0_rowScale q0_columnScale q0_sa q0_sb q0_sc q0_x q0_s q0_y q0_p q0_d q0_h q0_f q0_mm q0_low q0_dd q0_r q0_big q0_dt q0_dx q0_t q0_cost q0_rowScaleNow q0_columnScaleNow q0_basic q0_text q0_turned q0_na q0_nb q0_nc vq0_m vq0_n vq0_length vq0_where vq0_effort vq0_thrown vq0_at vq0_scaled vq0_solved vq0_second vq0_nm vq0_nn vq0_number vq0_bad vq0_a vq0_b vq0_c vq0_x vq0_s vq0_y) H → va_D A (w_M_far T q0 q0_a q0_b q0_c q0_rowScale q0_columnScale q0_sa q0_sb q0_sc q0_x q0_s q0_y q0_p q0_d q0_h q0_f q0_mm q0_low q0_dd q0_r q0_big q0_dt q0_dx q0_t q0_cost q0_rowScaleNow q0_columnScaleNow q0_basic q0_text q0_turned q0_na q0_nb q0_nc vq0_m vq0_n vq0_length vq0_where vq0_effort vq0_thrown vq0_at vq0_scaled vq0_solved vq0_second vq0_nm vq0_nn vq0_number vq0_bad vq0_a vq0_b vq0_c vq0_x vq0_s vq0_y) → va_S A s.heap H locs → lv_has ls 8 [(0, .ref q0), (2, .double x2), (4, .int x4)] → s_M_far_L9 vq0_m vq0_n vq0_length vq0_where vq0_effort vq0_thrown vq0_at vq0_scaled vq0_solved vq0_second vq0_nm vq0_nn vq0_number vq0_bad vq0_a vq0_b vq0_c vq0_x vq0_s vq0_y x2 x4 = some rm → W p l e (rmk 1 23) s m args below meth c H locs 0 0 Q (F0 m 9 ls []) := by
    intro x2 x4 H locs ls hP hD hS hl h
    unfold s_M_far_L9 at h
    obtain ⟨u9, hu9, h⟩ := bi_some h
    refine loopO_W (Wh := fun (st : UInt64 × Int32) => ∀ (H : Heap) (locs : List Loc) (ls : Array Slot), va_P D CL (w_M_far T q0 q0_a q0_b q0_c q0_rowScale q0_columnScale q0_sa q0_sb q0_sc q0_x q0_s q0_y q0_p q0_d q0_h q0_f q0_mm q0_low q0_dd q0_r q0_big q0_dt q0_dx q0_t q0_cost q0_rowScaleNow q0_columnScaleNow q0_basic q0_text q0_turned q0_na q0_nb q0_nc vq0_m vq0_n vq0_length vq0_where vq0_effort vq0_thrown vq0_at vq0_scaled vq0_solved vq0_second vq0_nm vq0_nn vq0_number vq0_bad vq0_a vq0_b vq0_c vq0_x vq0_s vq0_y) H → va_D A (w_M_far T q0 q0_a q0_b q0_c q0_rowScale q0_columnScale q0_sa q0_sb q0_sc q0_x q0_s q0_y q0_p q0_d q0_h q0_f q0_mm q0_low q0_dd q0_r q0_big q0_dt q0_dx q0_t q0_cost q0_rowScaleNow q0_columnScaleNow q0_basic q0_text q0_turned q0_na q0_nb q0_nc vq0_m vq0_n vq0_length vq0_where vq0_effort vq0_thrown vq0_at vq0_scaled vq0_solved vq0_second vq0_nm vq0_nn vq0_number vq0_bad vq0_a vq0_b vq0_c vq0_x vq0_s vq0_y) → va_S A s.heap H locs → lv_has ls 8 [(0, .ref q0), (2, .double st.1), (4, .int st.2)] → W p l e (rmk 1 23) s m args below meth c H locs 0 0 Q (F0 m 9 ls [])) (Wx := fun (e1 : UInt64) => ∀ (H : Heap) (locs : List Loc) (ls : Array Slot), va_P D CL (w_M_far T q0 q0_a q0_b q0_c q0_rowScale q0_columnScale q0_sa q0_sb q0_sc q0_x q0_s q0_y q0_p q0_d q0_h q0_f q0_mm q0_low q0_dd q0_r q0_big q0_dt q0_dx q0_t q0_cost q0_rowScaleNow q0_columnScaleNow q0_basic q0_text q0_turned q0_na q0_nb q0_nc vq0_m vq0_n vq0_length vq0_where vq0_effort vq0_thrown vq0_at vq0_scaled vq0_solved vq0_second vq0_nm vq0_nn vq0_number vq0_bad vq0_a vq0_b vq0_c vq0_x vq0_s vq0_y) H → va_D A (w_M_far T q0 q0_a q0_b q0_c q0_rowScale q0_columnScale q0_sa q0_sb q0_sc q0_x q0_s q0_y q0_p q0_d q0_h q0_f q0_mm q0_low q0_dd q0_r q0_big q0_dt q0_dx q0_t q0_cost q0_rowScaleNow q0_columnScaleNow q0_basic q0_text q0_turned q0_na q0_nb q0_nc vq0_m vq0_n vq0_length vq0_where vq0_effort vq0_thrown vq0_at vq0_scaled vq0_solved vq0_second vq0_nm vq0_nn vq0_number vq0_bad vq0_a vq0_b vq0_c vq0_x vq0_s vq0_y) → va_S A s.heap H locs → lv_has ls 8 [(2, .double e1)] → W p l e (rmk 1 23) s m args below meth c H locs 0 0 Q (F0 m 87 ls [])) ?_ 2000 _ u9 hu9 ?_ H locs ls hP hD hS hl
    · intro st rb9 h kc9 kx9 H locs ls hP hD hS hl
      obtain ⟨x2, x4⟩ := st
      have h : s_M_far_B9 vq0_m vq0_n vq0_length vq0_where vq0_effort vq0_thrown vq0_at vq0_scaled vq0_solved vq0_second vq0_nm vq0_nn vq0_number vq0_bad vq0_a vq0_b vq0_c vq0_x vq0_s vq0_y x2 x4 = some rb9 := h
      have L30 : ∀ (x2 : UInt64) (x4 : Int32) (x5 : UInt64) (x7 : Int32), ∀ (H : Heap) (locs : List Loc) (ls : Array Slot), va_P D CL (w_M_far T q0 q0_a q0_b q0_c q0_rowScale q0_columnScale q0_sa q0_sb q0_sc q0_x q0_s q0_y q0_p q0_d q0_h q0_f q0_mm q0_low q0_dd q0_r q0_big q0_dt q0_dx q0_t q0_cost q0_rowScaleNow q0_columnScaleNow q0_basic q0_text q0_turned q0_na q0_nb q0_nc vq0_m vq0_n vq0_length vq0_where vq0_effort vq0_thrown vq0_at vq0_scaled vq0_solved vq0_second vq0_nm vq0_nn vq0_number vq0_bad vq0_a vq0_b vq0_c vq0_x vq0_s vq0_y) H → va_D A (w_M_far T q0 q0_a q0_b q0_c q0_rowScale q0_columnScale q0_sa q0_sb q0_sc q0_x q0_s q0_y q0_p q0_d q0_h q0_f q0_mm q0_low q0_dd q0_r q0_big q0_dt q0_dx q0_t q0_cost q0_rowScaleNow q0_columnScaleNow q0_basic q0_text q0_turned q0_na q0_nb q0_nc vq0_m vq0_n vq0_length vq0_where vq0_effort vq0_thrown vq0_at vq0_scaled vq0_solved vq0_second vq0_nm vq0_nn vq0_number vq0_bad vq0_a vq0_b vq0_c vq0_x vq0_s vq0_y) → va_S A s.heap H locs → lv_has ls 8 [(0, .ref q0), (2, .double x2), (4, .int x4), (5, .double x5), (7, .int x7)] → s_M_far_L30 vq0_m vq0_n vq0_length vq0_where vq0_effort vq0_thrown vq0_at vq0_scaled vq0_solved vq0_second vq0_nm vq0_nn vq0_number vq0_bad vq0_a vq0_b vq0_c vq0_x vq0_s vq0_y x2 x4 x5 x7 = some rb9 → W p l e (rmk 1 23) s m args below meth c H locs 0 0 Q (F0 m 30 ls []) := by
        intro x2 x4 x5 x7 H locs ls hP hD hS hl h
        unfold s_M_far_L30 at h
        obtain ⟨u30, hu30, h⟩ := bi_some h
        refine loopO_W (Wh := fun (st : UInt64 × Int32) => ∀ (H : Heap) (locs : List Loc) (ls : Array Slot), va_P D CL (w_M_far T q0 q0_a q0_b q0_c q0_rowScale q0_columnScale q0_sa q0_sb q0_sc q0_x q0_s q0_y q0_p q0_d q0_h q0_f q0_mm q0_low q0_dd q0_r q0_big q0_dt q0_dx q0_t q0_cost q0_rowScaleNow q0_columnScaleNow q0_basic q0_text q0_turned q0_na q0_nb q0_nc vq0_m vq0_n vq0_length vq0_where vq0_effort vq0_thrown vq0_at vq0_scaled vq0_solved vq0_second vq0_nm vq0_nn vq0_number vq0_bad vq0_a vq0_b vq0_c vq0_x vq0_s vq0_y) H → va_D A (w_M_far T q0 q0_a q0_b q0_c q0_rowScale q0_columnScale q0_sa q0_sb q0_sc q0_x q0_s q0_y q0_p q0_d q0_h q0_f q0_mm q0_low q0_dd q0_r q0_big q0_dt q0_dx q0_t q0_cost q0_rowScaleNow q0_columnScaleNow q0_basic q0_text q0_turned q0_na q0_nb q0_nc vq0_m vq0_n vq0_length vq0_where vq0_effort vq0_thrown vq0_at vq0_scaled vq0_solved vq0_second vq0_nm vq0_nn vq0_number vq0_bad vq0_a vq0_b vq0_c vq0_x vq0_s vq0_y) → va_S A s.heap H locs → lv_has ls 8 [(0, .ref q0), (2, .double x2), (4, .int x4), (5, .double st.1), (7, .int st.2)] → W p l e (rmk 1 23) s m args below meth c H locs 0 0 Q (F0 m 30 ls [])) (Wx := fun (e1 : UInt64) => ∀ (H : Heap) (locs : List Loc) (ls : Array Slot), va_P D CL (w_M_far T q0 q0_a q0_b q0_c q0_rowScale q0_columnScale q0_sa q0_sb q0_sc q0_x q0_s q0_y q0_p q0_d q0_h q0_f q0_mm q0_low q0_dd q0_r q0_big q0_dt q0_dx q0_t q0_cost q0_rowScaleNow q0_columnScaleNow q0_basic q0_text q0_turned q0_na q0_nb q0_nc vq0_m vq0_n vq0_length vq0_where vq0_effort vq0_thrown vq0_at vq0_scaled vq0_solved vq0_second vq0_nm vq0_nn vq0_number vq0_bad vq0_a vq0_b vq0_c vq0_x vq0_s vq0_y) H → va_D A (w_M_far T q0 q0_a q0_b q0_c q0_rowScale q0_columnScale q0_sa q0_sb q0_sc q0_x q0_s q0_y q0_p q0_d q0_h q0_f q0_mm q0_low q0_dd q0_r q0_big q0_dt q0_dx q0_t q0_cost q0_rowScaleNow q0_columnScaleNow q0_basic q0_text q0_turned q0_na q0_nb q0_nc vq0_m vq0_n vq0_length vq0_where vq0_effort vq0_thrown vq0_at vq0_scaled vq0_solved vq0_second vq0_nm vq0_nn vq0_number vq0_bad vq0_a vq0_b vq0_c vq0_x vq0_s vq0_y) → va_S A s.heap H locs → lv_has ls 8 [(0, .ref q0), (2, .double x2), (4, .int x4), (5, .double e1)] → W p l e (rmk 1 23) s m args below meth c H locs 0 0 Q (F0 m 71 ls [])) ?_ 2000 _ u30 hu30 ?_ H locs ls hP hD hS hl
        · intro st rb30 h kc30 kx30 H locs ls hP hD hS hl
          obtain ⟨x5, x7⟩ := st
          have h : s_M_far_B30 vq0_m vq0_n vq0_length vq0_where vq0_effort vq0_thrown vq0_at vq0_scaled vq0_solved vq0_second vq0_nm vq0_nn vq0_number vq0_bad vq0_a vq0_b vq0_c vq0_x vq0_s vq0_y x2 x4 x5 x7 = some rb30 := h
          unfold s_M_far_B30 at h
          refine lv_iload hx hb d_M_far_30 (lv_at hl 4 rfl) ?_
          refine lv_aload_n hx hb d_M_far_32 rfl (lv_at hl 0 rfl) ?_
          refine va_get (D := D) (ci := 8) (v := .int vq0_n) (C := "ConeForgeModel") (T := FM) (N := 46) hx hb hts iM hown hK hP 0 rfl rfl 30 (by decide) (hts _ (bgc bw714)) (fun _ h9 => h9) rfl d_M_far_33 ?_
          refine lv_icmp_ge (tgt := 71) hx hb d_M_far_36 (by decide) (fun c22 => ?_) (fun c22 => ?_)
          · have h := it_t c22 h
            exact kx30 _ (Option.some.inj h).symm H locs ls hP hD hS (lv_sub hl [0, 1, 2, 3] rfl)
          · have h := it_f c22 h
            refine lv_dload hx hb d_M_far_39 (lv_at hl 3 rfl) ?_
            refine lv_aload_n hx hb d_M_far_41 rfl (lv_at hl 0 rfl) ?_
            refine va_get (D := D) (ci := 8) (v := .ref q0_a) (C := "ConeForgeModel") (T := FM) (N := 46) hx hb hts iM hown hK hP 0 rfl rfl 0 (by decide) (hts _ (bgc bw684)) (fun _ h9 => h9) rfl d_M_far_42 ?_
            refine lv_bipush (v := 8) hx hb d_M_far_45 (by decide) ?_
            refine lv_iload hx hb d_M_far_47 (lv_at hl 2 rfl) ?_
            refine lv_imul hx hb d_M_far_49 ?_
            refine lv_iload hx hb d_M_far_50 (lv_at hl 4 rfl) ?_
            refine lv_iadd hx hb d_M_far_52 ?_
            obtain ⟨g23, h⟩ := gd_some h
            refine va_dald hx hb hK hP 1 0 rfl rfl (inb_in g23) d_M_far_53 ?_
            refine lv_aload_n hx hb d_M_far_54 rfl (lv_at hl 0 rfl) ?_
            refine va_get (D := D) (ci := 8) (v := .ref q0_x) (C := "ConeForgeModel") (T := FM) (N := 46) hx hb hts iM hown hK hP 0 rfl rfl 8 (by decide) (hts _ (bgc bw692)) (fun _ h9 => h9) rfl d_M_far_55 ?_
            refine lv_iload hx hb d_M_far_58 (lv_at hl 4 rfl) ?_
            obtain ⟨g24, h⟩ := gd_some h
            refine va_dald hx hb hK hP 4 0 rfl rfl (inb_in g24) d_M_far_60 ?_
            obtain ⟨g25, h⟩ := gd_some h
            refine lv_dmul hx hb d_M_far_61 (isn_n g25) ?_
            obtain ⟨g26, h⟩ := gd_some h
            refine lv_dsub hx hb d_M_far_62 (isn_n g26) ?_
            refine lv_dstore (lv' := [(5, .double (FP.dsub x5 (FP.dmul (vq0_a ((8 * x4) + x7).toNatClampNeg) (vq0_x x7.toNatClampNeg)))), (0, .ref q0), (2, .double x2), (4, .int x4), (7, .int x7)]) hx hb d_M_far_63 hl (by decide) rfl (fun ls hl => ?_)
            refine lv_iinc (v := x7 + 1) (lv' := [(7, .int (x7 + 1)), (5, .double (FP.dsub x5 (FP.dmul (vq0_a ((8 * x4) + x7).toNatClampNeg) (vq0_x x7.toNatClampNeg)))), (0, .ref q0), (2, .double x2), (4, .int x4)]) hx hb d_M_far_65 hl (k := 4) rfl rfl (by decide) rfl (fun ls hl => ?_)
            refine lv_goto (tgt := 30) hx hb d_M_far_68 (by decide) ?_
            exact kc30 _ (Option.some.inj h).symm H locs ls hP hD hS (lv_sub hl [2, 3, 4, 1, 0] rfl)
        · intro H locs ls hP hD hS hl
          refine lv_dload_n hx hb d_M_far_71 rfl (lv_at hl 1 rfl) ?_
          refine lv_dload hx hb d_M_far_72 (lv_at hl 3 rfl) ?_
          obtain ⟨u27, hu27, h⟩ := bi_some h
          refine kD (v := u27) (wc := (w_M_abs T  )) (wc' := (w_M_abs T  )) (runOS (As := [.double u30]) (rest := [.double x2]) ((c_M_abs l D T   u30 u27 hu27) H.size) ⟨hx, hb, hml, hown, hts⟩ (cwOS bw844 bw845 bw105 bw846 dd_M_abs hts ⟨Nat.le_of_ble_eq_true rfl, Nat.le_of_ble_eq_true rfl⟩)  hNW hK hP hD [] rfl (by decide) rfl hl.1 rfl (lv_room (Nat.le_of_ble_eq_true rfl)) d_M_far_74 ⟨Nat.le_of_ble_eq_true rfl, Nat.le_of_ble_eq_true rfl⟩) hP hD hS hA [] rfl rfl (fun H locs hP hD hS => ?_)
          have hP : va_P D CL (w_M_far T q0 q0_a q0_b q0_c q0_rowScale q0_columnScale q0_sa q0_sb q0_sc q0_x q0_s q0_y q0_p q0_d q0_h q0_f q0_mm q0_low q0_dd q0_r q0_big q0_dt q0_dx q0_t q0_cost q0_rowScaleNow q0_columnScaleNow q0_basic q0_text q0_turned q0_na q0_nb q0_nc vq0_m vq0_n vq0_length vq0_where vq0_effort vq0_thrown vq0_at vq0_scaled vq0_solved vq0_second vq0_nm vq0_nn vq0_number vq0_bad vq0_a vq0_b vq0_c vq0_x vq0_s vq0_y) H := hP
          have hD : va_D A (w_M_far T q0 q0_a q0_b q0_c q0_rowScale q0_columnScale q0_sa q0_sb q0_sc q0_x q0_s q0_y q0_p q0_d q0_h q0_f q0_mm q0_low q0_dd q0_r q0_big q0_dt q0_dx q0_t q0_cost q0_rowScaleNow q0_columnScaleNow q0_basic q0_text q0_turned q0_na q0_nb q0_nc vq0_m vq0_n vq0_length vq0_where vq0_effort vq0_thrown vq0_at vq0_scaled vq0_solved vq0_second vq0_nm vq0_nn vq0_number vq0_bad vq0_a vq0_b vq0_c vq0_x vq0_s vq0_y) := hD
          obtain ⟨u28, hu28, h⟩ := bi_some h
          refine kD (v := u28) (wc := (w_M_max T  )) (wc' := (w_M_max T  )) (runOS (As := [.double x2, .double u27]) (rest := []) ((c_M_max l D T   x2 u27 u28 hu28) H.size) ⟨hx, hb, hml, hown, hts⟩ (cwOS bw847 bw848 bw105 bw849 dd_M_max hts ⟨Nat.le_of_ble_eq_true rfl, Nat.le_of_ble_eq_true rfl⟩)  hNW hK hP hD [] rfl (by decide) rfl hl.1 rfl (lv_room (Nat.le_of_ble_eq_true rfl)) d_M_far_77 ⟨Nat.le_of_ble_eq_true rfl, Nat.le_of_ble_eq_true rfl⟩) hP hD hS hA [] rfl rfl (fun H locs hP hD hS => ?_)
          have hP : va_P D CL (w_M_far T q0 q0_a q0_b q0_c q0_rowScale q0_columnScale q0_sa q0_sb q0_sc q0_x q0_s q0_y q0_p q0_d q0_h q0_f q0_mm q0_low q0_dd q0_r q0_big q0_dt q0_dx q0_t q0_cost q0_rowScaleNow q0_columnScaleNow q0_basic q0_text q0_turned q0_na q0_nb q0_nc vq0_m vq0_n vq0_length vq0_where vq0_effort vq0_thrown vq0_at vq0_scaled vq0_solved vq0_second vq0_nm vq0_nn vq0_number vq0_bad vq0_a vq0_b vq0_c vq0_x vq0_s vq0_y) H := hP
          have hD : va_D A (w_M_far T q0 q0_a q0_b q0_c q0_rowScale q0_columnScale q0_sa q0_sb q0_sc q0_x q0_s q0_y q0_p q0_d q0_h q0_f q0_mm q0_low q0_dd q0_r q0_big q0_dt q0_dx q0_t q0_cost q0_rowScaleNow q0_columnScaleNow q0_basic q0_text q0_turned q0_na q0_nb q0_nc vq0_m vq0_n vq0_length vq0_where vq0_effort vq0_thrown vq0_at vq0_scaled vq0_solved vq0_second vq0_nm vq0_nn vq0_number vq0_bad vq0_a vq0_b vq0_c vq0_x vq0_s vq0_y) := hD
          refine lv_dstore_n (lv' := [(2, .double u28), (0, .ref q0), (4, .int x4), (5, .double u30)]) hx hb d_M_far_80 rfl hl (by decide) rfl (fun ls hl => ?_)
          refine lv_iinc (v := x4 + 1) (lv' := [(4, .int (x4 + 1)), (2, .double u28), (0, .ref q0), (5, .double u30)]) hx hb d_M_far_81 hl (k := 2) rfl rfl (by decide) rfl (fun ls hl => ?_)
          refine lv_goto (tgt := 9) hx hb d_M_far_84 (by decide) ?_
          exact kc9 _ (Option.some.inj h).symm H locs ls hP hD hS (lv_sub hl [2, 1, 0] rfl)
      unfold s_M_far_B9 at h
      refine lv_iload hx hb d_M_far_9 (lv_at hl 2 rfl) ?_
      refine lv_aload_n hx hb d_M_far_11 rfl (lv_at hl 0 rfl) ?_
      refine va_get (D := D) (ci := 8) (v := .int vq0_m) (C := "ConeForgeModel") (T := FM) (N := 46) hx hb hts iM hown hK hP 0 rfl rfl 29 (by decide) (hts _ (bgc bw713)) (fun _ h9 => h9) rfl d_M_far_12 ?_
      refine lv_icmp_ge (tgt := 87) hx hb d_M_far_15 (by decide) (fun c29 => ?_) (fun c29 => ?_)
      · have h := it_t c29 h
        exact kx9 _ (Option.some.inj h).symm H locs ls hP hD hS (lv_sub hl [1] rfl)
      · have h := it_f c29 h
        refine lv_aload_n hx hb d_M_far_18 rfl (lv_at hl 0 rfl) ?_
        refine va_get (D := D) (ci := 8) (v := .ref q0_b) (C := "ConeForgeModel") (T := FM) (N := 46) hx hb hts iM hown hK hP 0 rfl rfl 1 (by decide) (hts _ (bgc bw685)) (fun _ h9 => h9) rfl d_M_far_19 ?_
        refine lv_iload hx hb d_M_far_22 (lv_at hl 2 rfl) ?_
        obtain ⟨g30, h⟩ := gd_some h
        refine va_dald hx hb hK hP 2 0 rfl rfl (inb_in g30) d_M_far_24 ?_
        refine lv_dstore (lv' := [(5, .double (vq0_b x4.toNatClampNeg)), (0, .ref q0), (2, .double x2), (4, .int x4)]) hx hb d_M_far_25 hl (by decide) rfl (fun ls hl => ?_)
        refine lv_iconst (v := 0) hx hb d_M_far_27 (by decide) ?_
        refine lv_istore (lv' := [(7, .int 0), (5, .double (vq0_b x4.toNatClampNeg)), (0, .ref q0), (2, .double x2), (4, .int x4)]) hx hb d_M_far_28 hl (by decide) rfl (fun ls hl => ?_)
        exact L30 x2 x4 (vq0_b x4.toNatClampNeg) 0 H locs ls hP hD hS (lv_sub hl [2, 3, 4, 1, 0] rfl) h
    · intro H locs ls hP hD hS hl
      refine lv_dload_n hx hb d_M_far_87 rfl (lv_at hl 0 rfl) ?_
      exact rtD hx hb hr hlocks hQ (Option.some.inj h) hP hS d_M_far_88 rfl rfl
  unfold s_M_far at h
  refine lv_dconst0 hx hb d_M_far_0 ?_
  refine lv_dstore_n (lv' := [(2, .double FP.dconst0), (0, .ref q0), (1, .int x1)]) hx hb d_M_far_1 rfl hl (by decide) rfl (fun ls hl => ?_)
  refine lv_iload_n hx hb d_M_far_2 rfl (lv_at hl 2 rfl) ?_
  refine lv_if_ne (tgt := 89) hx hb d_M_far_3 (by decide) (fun c31 => ?_) (fun c31 => ?_)
  · have h := it_f c31 h
    refine lv_iconst (v := 0) hx hb d_M_far_89 (by decide) ?_
    refine lv_istore (lv' := [(4, .int 0), (2, .double FP.dconst0), (0, .ref q0), (1, .int x1)]) hx hb d_M_far_90 hl (by decide) rfl (fun ls hl => ?_)
    exact L92 x1 FP.dconst0 0 H locs ls hP hD hS (lv_sub hl [2, 3, 1, 0] rfl) h
  · have h := it_t c31 h
    refine lv_iconst (v := 0) hx hb d_M_far_6 (by decide) ?_
    refine lv_istore (lv' := [(4, .int 0), (2, .double FP.dconst0), (0, .ref q0), (1, .int x1)]) hx hb d_M_far_7 hl (by decide) rfl (fun ls hl => ?_)
    exact L9 FP.dconst0 0 H locs ls hP hD hS (lv_sub hl [2, 1, 0] rfl) h
theorem d_M_gap_0 : decode prog_10_method_45_code 0 = .ok (.aload_n 0, 1) := by decide +kernel
theorem d_M_gap_1 : decode prog_10_method_45_code 1 = .ok (.iload_n 1, 1) := by decide +kernel
theorem d_M_gap_2 : decode prog_10_method_45_code 2 = .ok (.iconst 0, 1) := by decide +kernel
theorem d_M_gap_3 : decode prog_10_method_45_code 3 = .ok (.iconst 3, 1) := by decide +kernel
theorem d_M_gap_4 : decode prog_10_method_45_code 4 = .ok (.invokestatic 125, 3) := by decide +kernel
theorem d_M_gap_7 : decode prog_10_method_45_code 7 = .ok (.ifCond .ne 7, 3) := by decide +kernel
theorem d_M_gap_10 : decode prog_10_method_45_code 10 = .ok (.iconst 1, 1) := by decide +kernel
theorem d_M_gap_11 : decode prog_10_method_45_code 11 = .ok (.goto 15, 3) := by decide +kernel
theorem d_M_gap_14 : decode prog_10_method_45_code 14 = .ok (.aload_n 0, 1) := by decide +kernel
theorem d_M_gap_15 : decode prog_10_method_45_code 15 = .ok (.getfield 129, 3) := by decide +kernel
theorem d_M_gap_18 : decode prog_10_method_45_code 18 = .ok (.ifCond .ne 7, 3) := by decide +kernel
theorem d_M_gap_21 : decode prog_10_method_45_code 21 = .ok (.iconst 2, 1) := by decide +kernel
theorem d_M_gap_22 : decode prog_10_method_45_code 22 = .ok (.goto 4, 3) := by decide +kernel
theorem d_M_gap_25 : decode prog_10_method_45_code 25 = .ok (.iconst 0, 1) := by decide +kernel
theorem d_M_gap_26 : decode prog_10_method_45_code 26 = .ok (.putfield 122, 3) := by decide +kernel
theorem d_M_gap_29 : decode prog_10_method_45_code 29 = .ok (.aload_n 0, 1) := by decide +kernel
theorem d_M_gap_30 : decode prog_10_method_45_code 30 = .ok (.getfield 122, 3) := by decide +kernel
theorem d_M_gap_33 : decode prog_10_method_45_code 33 = .ok (.ifCond .le 7, 3) := by decide +kernel
theorem d_M_gap_36 : decode prog_10_method_45_code 36 = .ok (.dconst 0, 1) := by decide +kernel
theorem d_M_gap_37 : decode prog_10_method_45_code 37 = .ok (.goto 8, 3) := by decide +kernel
theorem d_M_gap_40 : decode prog_10_method_45_code 40 = .ok (.aload_n 0, 1) := by decide +kernel
theorem d_M_gap_41 : decode prog_10_method_45_code 41 = .ok (.iload_n 1, 1) := by decide +kernel
theorem d_M_gap_42 : decode prog_10_method_45_code 42 = .ok (.invokevirtual 302, 3) := by decide +kernel
theorem d_M_gap_45 : decode prog_10_method_45_code 45 = .ok (.dreturn, 1) := by decide +kernel
abbrev w_M_gap (T : Nat → ClassId) (q0 : Nat) (q0_a : Nat) (q0_b : Nat) (q0_c : Nat) (q0_rowScale : Nat) (q0_columnScale : Nat) (q0_sa : Nat) (q0_sb : Nat) (q0_sc : Nat) (q0_x : Nat) (q0_s : Nat) (q0_y : Nat) (q0_p : Nat) (q0_d : Nat) (q0_h : Nat) (q0_f : Nat) (q0_mm : Nat) (q0_low : Nat) (q0_dd : Nat) (q0_r : Nat) (q0_big : Nat) (q0_dt : Nat) (q0_dx : Nat) (q0_t : Nat) (q0_cost : Nat) (q0_rowScaleNow : Nat) (q0_columnScaleNow : Nat) (q0_basic : Nat) (q0_text : Nat) (q0_turned : Nat) (q0_na : Nat) (q0_nb : Nat) (q0_nc : Nat) (vq0_m : Int32) (vq0_n : Int32) (vq0_length : Int32) (vq0_where : Int32) (vq0_effort : Int32) (vq0_thrown : Int32) (vq0_at : Int32) (vq0_scaled : Int32) (vq0_solved : Int32) (vq0_second : Int32) (vq0_nm : Int32) (vq0_nn : Int32) (vq0_number : UInt64) (vq0_bad : Int32) (vq0_a : Nat → UInt64) (vq0_b : Nat → UInt64) (vq0_c : Nat → UInt64) (vq0_x : Nat → UInt64) (vq0_s : Nat → UInt64) (vq0_y : Nat → UInt64) : va_W := [(q0, .inr (8, [.ref q0_a, .ref q0_b, .ref q0_c, .ref q0_rowScale, .ref q0_columnScale, .ref q0_sa, .ref q0_sb, .ref q0_sc, .ref q0_x, .ref q0_s, .ref q0_y, .ref q0_p, .ref q0_d, .ref q0_h, .ref q0_f, .ref q0_mm, .ref q0_low, .ref q0_dd, .ref q0_r, .ref q0_big, .ref q0_dt, .ref q0_dx, .ref q0_t, .ref q0_cost, .ref q0_rowScaleNow, .ref q0_columnScaleNow, .ref q0_basic, .ref q0_text, .ref q0_turned, .int vq0_m, .int vq0_n, .int vq0_length, .int vq0_where, .int vq0_effort, .int vq0_thrown, .int vq0_at, .int vq0_scaled, .int vq0_solved, .int vq0_second, .ref q0_na, .ref q0_nb, .ref q0_nc, .int vq0_nm, .int vq0_nn, .double vq0_number, .int vq0_bad])), (q0_a, .inl (T 0, 40, .inr (.inr (.inr (.inl vq0_a))))), (q0_b, .inl (T 0, 5, .inr (.inr (.inr (.inl vq0_b))))), (q0_c, .inl (T 0, 8, .inr (.inr (.inr (.inl vq0_c))))), (q0_x, .inl (T 0, 8, .inr (.inr (.inr (.inl vq0_x))))), (q0_s, .inl (T 0, 8, .inr (.inr (.inr (.inl vq0_s))))), (q0_y, .inl (T 0, 5, .inr (.inr (.inr (.inl vq0_y)))))]
def s_M_gap (vq0_m : Int32) (vq0_n : Int32) (vq0_length : Int32) (vq0_where : Int32) (vq0_effort : Int32) (vq0_thrown : Int32) (vq0_at : Int32) (vq0_scaled : Int32) (vq0_solved : Int32) (vq0_second : Int32) (vq0_nm : Int32) (vq0_nn : Int32) (vq0_number : UInt64) (vq0_bad : Int32) (vq0_a : Nat → UInt64) (vq0_b : Nat → UInt64) (vq0_c : Nat → UInt64) (vq0_x : Nat → UInt64) (vq0_s : Nat → UInt64) (vq0_y : Nat → UInt64) (x1 : Int32) : Option (UInt64 × Int32) :=
  (s_M_in x1 0 3).bind fun u1 => if u1 = 0 then (if 1 ≤ 0 then ((s_M_far vq0_m vq0_n vq0_length vq0_where vq0_effort 1 vq0_at vq0_scaled vq0_solved vq0_second vq0_nm vq0_nn vq0_number vq0_bad vq0_a vq0_b vq0_c vq0_x vq0_s vq0_y x1).bind fun u9 => some (u9, 1)) else (some (FP.dconst0, 1))) else (if vq0_solved = 0 then (if 2 ≤ 0 then ((s_M_far vq0_m vq0_n vq0_length vq0_where vq0_effort 2 vq0_at vq0_scaled vq0_solved vq0_second vq0_nm vq0_nn vq0_number vq0_bad vq0_a vq0_b vq0_c vq0_x vq0_s vq0_y x1).bind fun u7 => some (u7, 2)) else (some (FP.dconst0, 2))) else (if 0 ≤ 0 then ((s_M_far vq0_m vq0_n vq0_length vq0_where vq0_effort 0 vq0_at vq0_scaled vq0_solved vq0_second vq0_nm vq0_nn vq0_number vq0_bad vq0_a vq0_b vq0_c vq0_x vq0_s vq0_y x1).bind fun u5 => some (u5, 0)) else (some (FP.dconst0, 0))))
set_option maxHeartbeats 4000000 in
set_option maxRecDepth 100000 in
theorem c_M_gap (l : Launch) (D : va_G) (T : Nat → ClassId) (q0 : Nat) (q0_a : Nat) (q0_b : Nat) (q0_c : Nat) (q0_rowScale : Nat) (q0_columnScale : Nat) (q0_sa : Nat) (q0_sb : Nat) (q0_sc : Nat) (q0_x : Nat) (q0_s : Nat) (q0_y : Nat) (q0_p : Nat) (q0_d : Nat) (q0_h : Nat) (q0_f : Nat) (q0_mm : Nat) (q0_low : Nat) (q0_dd : Nat) (q0_r : Nat) (q0_big : Nat) (q0_dt : Nat) (q0_dx : Nat) (q0_t : Nat) (q0_cost : Nat) (q0_rowScaleNow : Nat) (q0_columnScaleNow : Nat) (q0_basic : Nat) (q0_text : Nat) (q0_turned : Nat) (q0_na : Nat) (q0_nb : Nat) (q0_nc : Nat) (vq0_m : Int32) (vq0_n : Int32) (vq0_length : Int32) (vq0_where : Int32) (vq0_effort : Int32) (vq0_thrown : Int32) (vq0_at : Int32) (vq0_scaled : Int32) (vq0_solved : Int32) (vq0_second : Int32) (vq0_nm : Int32) (vq0_nn : Int32) (vq0_number : UInt64) (vq0_bad : Int32) (vq0_a : Nat → UInt64) (vq0_b : Nat → UInt64) (vq0_c : Nat → UInt64) (vq0_x : Nat → UInt64) (vq0_s : Nat → UInt64) (vq0_y : Nat → UInt64) (x1 : Int32) (rm : UInt64 × Int32) (h : s_M_gap vq0_m vq0_n vq0_length vq0_where vq0_effort vq0_thrown vq0_at vq0_scaled vq0_solved vq0_second vq0_nm vq0_nn vq0_number vq0_bad vq0_a vq0_b vq0_c vq0_x vq0_s vq0_y x1 = some rm) : CtD l y_M_gap (Cond.code y_M_gap prog_10_method_45_code 2 (some .double) :: BIG) 2 50 D T [.ref q0, .int x1] (w_M_gap T q0 q0_a q0_b q0_c q0_rowScale q0_columnScale q0_sa q0_sb q0_sc q0_x q0_s q0_y q0_p q0_d q0_h q0_f q0_mm q0_low q0_dd q0_r q0_big q0_dt q0_dx q0_t q0_cost q0_rowScaleNow q0_columnScaleNow q0_basic q0_text q0_turned q0_na q0_nb q0_nc vq0_m vq0_n vq0_length vq0_where vq0_effort vq0_thrown vq0_at vq0_scaled vq0_solved vq0_second vq0_nm vq0_nn vq0_number vq0_bad vq0_a vq0_b vq0_c vq0_x vq0_s vq0_y) (fun r => r.1) (fun r => (w_M_gap T q0 q0_a q0_b q0_c q0_rowScale q0_columnScale q0_sa q0_sb q0_sc q0_x q0_s q0_y q0_p q0_d q0_h q0_f q0_mm q0_low q0_dd q0_r q0_big q0_dt q0_dx q0_t q0_cost q0_rowScaleNow q0_columnScaleNow q0_basic q0_text q0_turned q0_na q0_nb q0_nc vq0_m vq0_n vq0_length vq0_where vq0_effort r.2 vq0_at vq0_scaled vq0_solved vq0_second vq0_nm vq0_nn vq0_number vq0_bad vq0_a vq0_b vq0_c vq0_x vq0_s vq0_y)) rm := by
  refine cf_entry (y := y_M_gap) (cc := prog_10_method_45_code) (nL := 2) (ret := (some .double)) (fr := 2) (lo := 50) (T := T) (av := [.ref q0, .int x1]) (w := (w_M_gap T q0 q0_a q0_b q0_c q0_rowScale q0_columnScale q0_sa q0_sb q0_sc q0_x q0_s q0_y q0_p q0_d q0_h q0_f q0_mm q0_low q0_dd q0_r q0_big q0_dt q0_dx q0_t q0_cost q0_rowScaleNow q0_columnScaleNow q0_basic q0_text q0_turned q0_na q0_nb q0_nc vq0_m vq0_n vq0_length vq0_where vq0_effort vq0_thrown vq0_at vq0_scaled vq0_solved vq0_second vq0_nm vq0_nn vq0_number vq0_bad vq0_a vq0_b vq0_c vq0_x vq0_s vq0_y)) (Qc := cfQd D (fun r => r.1) (fun r => (w_M_gap T q0 q0_a q0_b q0_c q0_rowScale q0_columnScale q0_sa q0_sb q0_sc q0_x q0_s q0_y q0_p q0_d q0_h q0_f q0_mm q0_low q0_dd q0_r q0_big q0_dt q0_dx q0_t q0_cost q0_rowScaleNow q0_columnScaleNow q0_basic q0_text q0_turned q0_na q0_nb q0_nc vq0_m vq0_n vq0_length vq0_where vq0_effort r.2 vq0_at vq0_scaled vq0_solved vq0_second vq0_nm vq0_nn vq0_number vq0_bad vq0_a vq0_b vq0_c vq0_x vq0_s vq0_y)) rm) (by decide) rfl (Nat.le_of_ble_eq_true rfl) ?_
  intro p e s m args below meth c A Q H locs ls hx hb hr hlocks hml hown hts hNW hK hA hQ hP hD hS hl
  have hown : s.vm.findClass "ConeForgeModel" = some m.cls := hown
  have hl : lv_has ls 2 [(0, .ref q0), (1, .int x1)] := hl
  unfold s_M_gap at h
  refine lv_aload_n hx hb d_M_gap_0 rfl (lv_at hl 0 rfl) ?_
  refine lv_iload_n hx hb d_M_gap_1 rfl (lv_at hl 1 rfl) ?_
  refine lv_iconst (v := 0) hx hb d_M_gap_2 (by decide) ?_
  refine lv_iconst (v := 3) hx hb d_M_gap_3 (by decide) ?_
  obtain ⟨u1, hu1, h⟩ := bi_some h
  refine kI (v := u1) (wc := (w_M_in T  )) (wc' := (w_M_in T  )) (runOS (As := [.int x1, .int 0, .int 3]) (rest := [.ref q0]) ((c_M_in l D T   x1 0 3 u1 hu1) H.size) ⟨hx, hb, hml, hown, hts⟩ (cwOS bw785 bw786 bw105 bw787 dd_M_in hts ⟨Nat.le_of_ble_eq_true rfl, Nat.le_of_ble_eq_true rfl⟩)  hNW hK hP hD [] rfl (by decide) rfl hl.1 rfl (lv_room (Nat.le_of_ble_eq_true rfl)) d_M_gap_4 ⟨Nat.le_of_ble_eq_true rfl, Nat.le_of_ble_eq_true rfl⟩) hP hD hS hA [] rfl rfl (fun H locs hP hD hS => ?_)
  have hP : va_P D CL (w_M_gap T q0 q0_a q0_b q0_c q0_rowScale q0_columnScale q0_sa q0_sb q0_sc q0_x q0_s q0_y q0_p q0_d q0_h q0_f q0_mm q0_low q0_dd q0_r q0_big q0_dt q0_dx q0_t q0_cost q0_rowScaleNow q0_columnScaleNow q0_basic q0_text q0_turned q0_na q0_nb q0_nc vq0_m vq0_n vq0_length vq0_where vq0_effort vq0_thrown vq0_at vq0_scaled vq0_solved vq0_second vq0_nm vq0_nn vq0_number vq0_bad vq0_a vq0_b vq0_c vq0_x vq0_s vq0_y) H := hP
  have hD : va_D A (w_M_gap T q0 q0_a q0_b q0_c q0_rowScale q0_columnScale q0_sa q0_sb q0_sc q0_x q0_s q0_y q0_p q0_d q0_h q0_f q0_mm q0_low q0_dd q0_r q0_big q0_dt q0_dx q0_t q0_cost q0_rowScaleNow q0_columnScaleNow q0_basic q0_text q0_turned q0_na q0_nb q0_nc vq0_m vq0_n vq0_length vq0_where vq0_effort vq0_thrown vq0_at vq0_scaled vq0_solved vq0_second vq0_nm vq0_nn vq0_number vq0_bad vq0_a vq0_b vq0_c vq0_x vq0_s vq0_y) := hD
  refine lv_if_ne (tgt := 14) hx hb d_M_gap_7 (by decide) (fun c2 => ?_) (fun c2 => ?_)
  · have h := it_f c2 h
    refine lv_aload_n hx hb d_M_gap_14 rfl (lv_at hl 0 rfl) ?_
    refine va_get (D := D) (ci := 8) (v := .int vq0_solved) (C := "ConeForgeModel") (T := FM) (N := 46) hx hb hts iM hown hK hP 0 rfl rfl 37 (by decide) (hts _ (bgc bw721)) (fun _ h9 => h9) rfl d_M_gap_15 ?_
    refine lv_if_ne (tgt := 25) hx hb d_M_gap_18 (by decide) (fun c3 => ?_) (fun c3 => ?_)
    · have h := it_f c3 h
      refine lv_iconst (v := 0) hx hb d_M_gap_25 (by decide) ?_
      refine va_put (D := D) (ci := 8) (v := .int 0) (ty := .int) (C := "ConeForgeModel") (T := FM) (N := 46) hx hb hts iM tM tM_ok nmM hown hK hP hD hS 0 rfl rfl 34 (by decide) (hts _ (bgc bw718)) (fun _ h9 => h9) rfl (by decide +kernel) rfl rfl (Nat.le_of_ble_eq_true rfl) d_M_gap_26 (fun H locs hP hD hS => ?_)
      have hP : va_P D CL (w_M_gap T q0 q0_a q0_b q0_c q0_rowScale q0_columnScale q0_sa q0_sb q0_sc q0_x q0_s q0_y q0_p q0_d q0_h q0_f q0_mm q0_low q0_dd q0_r q0_big q0_dt q0_dx q0_t q0_cost q0_rowScaleNow q0_columnScaleNow q0_basic q0_text q0_turned q0_na q0_nb q0_nc vq0_m vq0_n vq0_length vq0_where vq0_effort 0 vq0_at vq0_scaled vq0_solved vq0_second vq0_nm vq0_nn vq0_number vq0_bad vq0_a vq0_b vq0_c vq0_x vq0_s vq0_y) H := hP
      have hD : va_D A (w_M_gap T q0 q0_a q0_b q0_c q0_rowScale q0_columnScale q0_sa q0_sb q0_sc q0_x q0_s q0_y q0_p q0_d q0_h q0_f q0_mm q0_low q0_dd q0_r q0_big q0_dt q0_dx q0_t q0_cost q0_rowScaleNow q0_columnScaleNow q0_basic q0_text q0_turned q0_na q0_nb q0_nc vq0_m vq0_n vq0_length vq0_where vq0_effort 0 vq0_at vq0_scaled vq0_solved vq0_second vq0_nm vq0_nn vq0_number vq0_bad vq0_a vq0_b vq0_c vq0_x vq0_s vq0_y) := hD
      refine lv_aload_n hx hb d_M_gap_29 rfl (lv_at hl 0 rfl) ?_
      refine va_get (D := D) (ci := 8) (v := .int 0) (C := "ConeForgeModel") (T := FM) (N := 46) hx hb hts iM hown hK hP 0 rfl rfl 34 (by decide) (hts _ (bgc bw718)) (fun _ h9 => h9) rfl d_M_gap_30 ?_
      refine lv_if_le (tgt := 40) hx hb d_M_gap_33 (by decide) (fun c4 => ?_) (fun c4 => ?_)
      · have h := it_t c4 h
        refine lv_aload_n hx hb d_M_gap_40 rfl (lv_at hl 0 rfl) ?_
        refine lv_iload_n hx hb d_M_gap_41 rfl (lv_at hl 1 rfl) ?_
        obtain ⟨u5, hu5, h⟩ := bi_some h
        refine kD (v := u5) (wc := (w_M_far T q0 q0_a q0_b q0_c q0_rowScale q0_columnScale q0_sa q0_sb q0_sc q0_x q0_s q0_y q0_p q0_d q0_h q0_f q0_mm q0_low q0_dd q0_r q0_big q0_dt q0_dx q0_t q0_cost q0_rowScaleNow q0_columnScaleNow q0_basic q0_text q0_turned q0_na q0_nb q0_nc vq0_m vq0_n vq0_length vq0_where vq0_effort 0 vq0_at vq0_scaled vq0_solved vq0_second vq0_nm vq0_nn vq0_number vq0_bad vq0_a vq0_b vq0_c vq0_x vq0_s vq0_y)) (wc' := (w_M_far T q0 q0_a q0_b q0_c q0_rowScale q0_columnScale q0_sa q0_sb q0_sc q0_x q0_s q0_y q0_p q0_d q0_h q0_f q0_mm q0_low q0_dd q0_r q0_big q0_dt q0_dx q0_t q0_cost q0_rowScaleNow q0_columnScaleNow q0_basic q0_text q0_turned q0_na q0_nb q0_nc vq0_m vq0_n vq0_length vq0_where vq0_effort 0 vq0_at vq0_scaled vq0_solved vq0_second vq0_nm vq0_nn vq0_number vq0_bad vq0_a vq0_b vq0_c vq0_x vq0_s vq0_y)) (runOV (As := [.int x1]) (rest := []) ((c_M_far l D T q0 q0_a q0_b q0_c q0_rowScale q0_columnScale q0_sa q0_sb q0_sc q0_x q0_s q0_y q0_p q0_d q0_h q0_f q0_mm q0_low q0_dd q0_r q0_big q0_dt q0_dx q0_t q0_cost q0_rowScaleNow q0_columnScaleNow q0_basic q0_text q0_turned q0_na q0_nb q0_nc vq0_m vq0_n vq0_length vq0_where vq0_effort 0 vq0_at vq0_scaled vq0_solved vq0_second vq0_nm vq0_nn vq0_number vq0_bad vq0_a vq0_b vq0_c vq0_x vq0_s vq0_y x1 u5 hu5) H.size) ⟨hx, hb, hml, hown, hts⟩ (cwOV bw938 bw939 bw92 bw105 bw940 dd_M_far hts ⟨Nat.le_of_ble_eq_true rfl, Nat.le_of_ble_eq_true rfl⟩) (va_recv hK hP (ci := 8) (q0 := 0) rfl rfl) hNW hK hP hD [0, 1, 2, 3, 4, 5, 6] rfl (by decide) rfl hl.1 rfl (lv_room (Nat.le_of_ble_eq_true rfl)) d_M_gap_42 ⟨Nat.le_of_ble_eq_true rfl, Nat.le_of_ble_eq_true rfl⟩) hP hD hS hA [0, 1, 2, 3, 4, 5, 6] rfl rfl (fun H locs hP hD hS => ?_)
        have hP : va_P D CL (w_M_gap T q0 q0_a q0_b q0_c q0_rowScale q0_columnScale q0_sa q0_sb q0_sc q0_x q0_s q0_y q0_p q0_d q0_h q0_f q0_mm q0_low q0_dd q0_r q0_big q0_dt q0_dx q0_t q0_cost q0_rowScaleNow q0_columnScaleNow q0_basic q0_text q0_turned q0_na q0_nb q0_nc vq0_m vq0_n vq0_length vq0_where vq0_effort 0 vq0_at vq0_scaled vq0_solved vq0_second vq0_nm vq0_nn vq0_number vq0_bad vq0_a vq0_b vq0_c vq0_x vq0_s vq0_y) H := hP
        have hD : va_D A (w_M_gap T q0 q0_a q0_b q0_c q0_rowScale q0_columnScale q0_sa q0_sb q0_sc q0_x q0_s q0_y q0_p q0_d q0_h q0_f q0_mm q0_low q0_dd q0_r q0_big q0_dt q0_dx q0_t q0_cost q0_rowScaleNow q0_columnScaleNow q0_basic q0_text q0_turned q0_na q0_nb q0_nc vq0_m vq0_n vq0_length vq0_where vq0_effort 0 vq0_at vq0_scaled vq0_solved vq0_second vq0_nm vq0_nn vq0_number vq0_bad vq0_a vq0_b vq0_c vq0_x vq0_s vq0_y) := hD
        exact rtD hx hb hr hlocks hQ (Option.some.inj h) hP hS d_M_gap_45 rfl rfl
      · have h := it_f c4 h
        refine lv_dconst0 hx hb d_M_gap_36 ?_
        refine lv_goto (tgt := 45) hx hb d_M_gap_37 (by decide) ?_
        exact rtD hx hb hr hlocks hQ (Option.some.inj h) hP hS d_M_gap_45 rfl rfl
    · have h := it_t c3 h
      refine lv_iconst (v := 2) hx hb d_M_gap_21 (by decide) ?_
      refine lv_goto (tgt := 26) hx hb d_M_gap_22 (by decide) ?_
      refine va_put (D := D) (ci := 8) (v := .int 2) (ty := .int) (C := "ConeForgeModel") (T := FM) (N := 46) hx hb hts iM tM tM_ok nmM hown hK hP hD hS 0 rfl rfl 34 (by decide) (hts _ (bgc bw718)) (fun _ h9 => h9) rfl (by decide +kernel) rfl rfl (Nat.le_of_ble_eq_true rfl) d_M_gap_26 (fun H locs hP hD hS => ?_)
      have hP : va_P D CL (w_M_gap T q0 q0_a q0_b q0_c q0_rowScale q0_columnScale q0_sa q0_sb q0_sc q0_x q0_s q0_y q0_p q0_d q0_h q0_f q0_mm q0_low q0_dd q0_r q0_big q0_dt q0_dx q0_t q0_cost q0_rowScaleNow q0_columnScaleNow q0_basic q0_text q0_turned q0_na q0_nb q0_nc vq0_m vq0_n vq0_length vq0_where vq0_effort 2 vq0_at vq0_scaled vq0_solved vq0_second vq0_nm vq0_nn vq0_number vq0_bad vq0_a vq0_b vq0_c vq0_x vq0_s vq0_y) H := hP
      have hD : va_D A (w_M_gap T q0 q0_a q0_b q0_c q0_rowScale q0_columnScale q0_sa q0_sb q0_sc q0_x q0_s q0_y q0_p q0_d q0_h q0_f q0_mm q0_low q0_dd q0_r q0_big q0_dt q0_dx q0_t q0_cost q0_rowScaleNow q0_columnScaleNow q0_basic q0_text q0_turned q0_na q0_nb q0_nc vq0_m vq0_n vq0_length vq0_where vq0_effort 2 vq0_at vq0_scaled vq0_solved vq0_second vq0_nm vq0_nn vq0_number vq0_bad vq0_a vq0_b vq0_c vq0_x vq0_s vq0_y) := hD
      refine lv_aload_n hx hb d_M_gap_29 rfl (lv_at hl 0 rfl) ?_
      refine va_get (D := D) (ci := 8) (v := .int 2) (C := "ConeForgeModel") (T := FM) (N := 46) hx hb hts iM hown hK hP 0 rfl rfl 34 (by decide) (hts _ (bgc bw718)) (fun _ h9 => h9) rfl d_M_gap_30 ?_
      refine lv_if_le (tgt := 40) hx hb d_M_gap_33 (by decide) (fun c6 => ?_) (fun c6 => ?_)
      · have h := it_t c6 h
        refine lv_aload_n hx hb d_M_gap_40 rfl (lv_at hl 0 rfl) ?_
        refine lv_iload_n hx hb d_M_gap_41 rfl (lv_at hl 1 rfl) ?_
        obtain ⟨u7, hu7, h⟩ := bi_some h
        refine kD (v := u7) (wc := (w_M_far T q0 q0_a q0_b q0_c q0_rowScale q0_columnScale q0_sa q0_sb q0_sc q0_x q0_s q0_y q0_p q0_d q0_h q0_f q0_mm q0_low q0_dd q0_r q0_big q0_dt q0_dx q0_t q0_cost q0_rowScaleNow q0_columnScaleNow q0_basic q0_text q0_turned q0_na q0_nb q0_nc vq0_m vq0_n vq0_length vq0_where vq0_effort 2 vq0_at vq0_scaled vq0_solved vq0_second vq0_nm vq0_nn vq0_number vq0_bad vq0_a vq0_b vq0_c vq0_x vq0_s vq0_y)) (wc' := (w_M_far T q0 q0_a q0_b q0_c q0_rowScale q0_columnScale q0_sa q0_sb q0_sc q0_x q0_s q0_y q0_p q0_d q0_h q0_f q0_mm q0_low q0_dd q0_r q0_big q0_dt q0_dx q0_t q0_cost q0_rowScaleNow q0_columnScaleNow q0_basic q0_text q0_turned q0_na q0_nb q0_nc vq0_m vq0_n vq0_length vq0_where vq0_effort 2 vq0_at vq0_scaled vq0_solved vq0_second vq0_nm vq0_nn vq0_number vq0_bad vq0_a vq0_b vq0_c vq0_x vq0_s vq0_y)) (runOV (As := [.int x1]) (rest := []) ((c_M_far l D T q0 q0_a q0_b q0_c q0_rowScale q0_columnScale q0_sa q0_sb q0_sc q0_x q0_s q0_y q0_p q0_d q0_h q0_f q0_mm q0_low q0_dd q0_r q0_big q0_dt q0_dx q0_t q0_cost q0_rowScaleNow q0_columnScaleNow q0_basic q0_text q0_turned q0_na q0_nb q0_nc vq0_m vq0_n vq0_length vq0_where vq0_effort 2 vq0_at vq0_scaled vq0_solved vq0_second vq0_nm vq0_nn vq0_number vq0_bad vq0_a vq0_b vq0_c vq0_x vq0_s vq0_y x1 u7 hu7) H.size) ⟨hx, hb, hml, hown, hts⟩ (cwOV bw938 bw939 bw92 bw105 bw940 dd_M_far hts ⟨Nat.le_of_ble_eq_true rfl, Nat.le_of_ble_eq_true rfl⟩) (va_recv hK hP (ci := 8) (q0 := 0) rfl rfl) hNW hK hP hD [0, 1, 2, 3, 4, 5, 6] rfl (by decide) rfl hl.1 rfl (lv_room (Nat.le_of_ble_eq_true rfl)) d_M_gap_42 ⟨Nat.le_of_ble_eq_true rfl, Nat.le_of_ble_eq_true rfl⟩) hP hD hS hA [0, 1, 2, 3, 4, 5, 6] rfl rfl (fun H locs hP hD hS => ?_)
        have hP : va_P D CL (w_M_gap T q0 q0_a q0_b q0_c q0_rowScale q0_columnScale q0_sa q0_sb q0_sc q0_x q0_s q0_y q0_p q0_d q0_h q0_f q0_mm q0_low q0_dd q0_r q0_big q0_dt q0_dx q0_t q0_cost q0_rowScaleNow q0_columnScaleNow q0_basic q0_text q0_turned q0_na q0_nb q0_nc vq0_m vq0_n vq0_length vq0_where vq0_effort 2 vq0_at vq0_scaled vq0_solved vq0_second vq0_nm vq0_nn vq0_number vq0_bad vq0_a vq0_b vq0_c vq0_x vq0_s vq0_y) H := hP
        have hD : va_D A (w_M_gap T q0 q0_a q0_b q0_c q0_rowScale q0_columnScale q0_sa q0_sb q0_sc q0_x q0_s q0_y q0_p q0_d q0_h q0_f q0_mm q0_low q0_dd q0_r q0_big q0_dt q0_dx q0_t q0_cost q0_rowScaleNow q0_columnScaleNow q0_basic q0_text q0_turned q0_na q0_nb q0_nc vq0_m vq0_n vq0_length vq0_where vq0_effort 2 vq0_at vq0_scaled vq0_solved vq0_second vq0_nm vq0_nn vq0_number vq0_bad vq0_a vq0_b vq0_c vq0_x vq0_s vq0_y) := hD
        exact rtD hx hb hr hlocks hQ (Option.some.inj h) hP hS d_M_gap_45 rfl rfl
      · have h := it_f c6 h
        refine lv_dconst0 hx hb d_M_gap_36 ?_
        refine lv_goto (tgt := 45) hx hb d_M_gap_37 (by decide) ?_
        exact rtD hx hb hr hlocks hQ (Option.some.inj h) hP hS d_M_gap_45 rfl rfl
  · have h := it_t c2 h
    refine lv_iconst (v := 1) hx hb d_M_gap_10 (by decide) ?_
    refine lv_goto (tgt := 26) hx hb d_M_gap_11 (by decide) ?_
    refine va_put (D := D) (ci := 8) (v := .int 1) (ty := .int) (C := "ConeForgeModel") (T := FM) (N := 46) hx hb hts iM tM tM_ok nmM hown hK hP hD hS 0 rfl rfl 34 (by decide) (hts _ (bgc bw718)) (fun _ h9 => h9) rfl (by decide +kernel) rfl rfl (Nat.le_of_ble_eq_true rfl) d_M_gap_26 (fun H locs hP hD hS => ?_)
    have hP : va_P D CL (w_M_gap T q0 q0_a q0_b q0_c q0_rowScale q0_columnScale q0_sa q0_sb q0_sc q0_x q0_s q0_y q0_p q0_d q0_h q0_f q0_mm q0_low q0_dd q0_r q0_big q0_dt q0_dx q0_t q0_cost q0_rowScaleNow q0_columnScaleNow q0_basic q0_text q0_turned q0_na q0_nb q0_nc vq0_m vq0_n vq0_length vq0_where vq0_effort 1 vq0_at vq0_scaled vq0_solved vq0_second vq0_nm vq0_nn vq0_number vq0_bad vq0_a vq0_b vq0_c vq0_x vq0_s vq0_y) H := hP
    have hD : va_D A (w_M_gap T q0 q0_a q0_b q0_c q0_rowScale q0_columnScale q0_sa q0_sb q0_sc q0_x q0_s q0_y q0_p q0_d q0_h q0_f q0_mm q0_low q0_dd q0_r q0_big q0_dt q0_dx q0_t q0_cost q0_rowScaleNow q0_columnScaleNow q0_basic q0_text q0_turned q0_na q0_nb q0_nc vq0_m vq0_n vq0_length vq0_where vq0_effort 1 vq0_at vq0_scaled vq0_solved vq0_second vq0_nm vq0_nn vq0_number vq0_bad vq0_a vq0_b vq0_c vq0_x vq0_s vq0_y) := hD
    refine lv_aload_n hx hb d_M_gap_29 rfl (lv_at hl 0 rfl) ?_
    refine va_get (D := D) (ci := 8) (v := .int 1) (C := "ConeForgeModel") (T := FM) (N := 46) hx hb hts iM hown hK hP 0 rfl rfl 34 (by decide) (hts _ (bgc bw718)) (fun _ h9 => h9) rfl d_M_gap_30 ?_
    refine lv_if_le (tgt := 40) hx hb d_M_gap_33 (by decide) (fun c8 => ?_) (fun c8 => ?_)
    · have h := it_t c8 h
      refine lv_aload_n hx hb d_M_gap_40 rfl (lv_at hl 0 rfl) ?_
      refine lv_iload_n hx hb d_M_gap_41 rfl (lv_at hl 1 rfl) ?_
      obtain ⟨u9, hu9, h⟩ := bi_some h
      refine kD (v := u9) (wc := (w_M_far T q0 q0_a q0_b q0_c q0_rowScale q0_columnScale q0_sa q0_sb q0_sc q0_x q0_s q0_y q0_p q0_d q0_h q0_f q0_mm q0_low q0_dd q0_r q0_big q0_dt q0_dx q0_t q0_cost q0_rowScaleNow q0_columnScaleNow q0_basic q0_text q0_turned q0_na q0_nb q0_nc vq0_m vq0_n vq0_length vq0_where vq0_effort 1 vq0_at vq0_scaled vq0_solved vq0_second vq0_nm vq0_nn vq0_number vq0_bad vq0_a vq0_b vq0_c vq0_x vq0_s vq0_y)) (wc' := (w_M_far T q0 q0_a q0_b q0_c q0_rowScale q0_columnScale q0_sa q0_sb q0_sc q0_x q0_s q0_y q0_p q0_d q0_h q0_f q0_mm q0_low q0_dd q0_r q0_big q0_dt q0_dx q0_t q0_cost q0_rowScaleNow q0_columnScaleNow q0_basic q0_text q0_turned q0_na q0_nb q0_nc vq0_m vq0_n vq0_length vq0_where vq0_effort 1 vq0_at vq0_scaled vq0_solved vq0_second vq0_nm vq0_nn vq0_number vq0_bad vq0_a vq0_b vq0_c vq0_x vq0_s vq0_y)) (runOV (As := [.int x1]) (rest := []) ((c_M_far l D T q0 q0_a q0_b q0_c q0_rowScale q0_columnScale q0_sa q0_sb q0_sc q0_x q0_s q0_y q0_p q0_d q0_h q0_f q0_mm q0_low q0_dd q0_r q0_big q0_dt q0_dx q0_t q0_cost q0_rowScaleNow q0_columnScaleNow q0_basic q0_text q0_turned q0_na q0_nb q0_nc vq0_m vq0_n vq0_length vq0_where vq0_effort 1 vq0_at vq0_scaled vq0_solved vq0_second vq0_nm vq0_nn vq0_number vq0_bad vq0_a vq0_b vq0_c vq0_x vq0_s vq0_y x1 u9 hu9) H.size) ⟨hx, hb, hml, hown, hts⟩ (cwOV bw938 bw939 bw92 bw105 bw940 dd_M_far hts ⟨Nat.le_of_ble_eq_true rfl, Nat.le_of_ble_eq_true rfl⟩) (va_recv hK hP (ci := 8) (q0 := 0) rfl rfl) hNW hK hP hD [0, 1, 2, 3, 4, 5, 6] rfl (by decide) rfl hl.1 rfl (lv_room (Nat.le_of_ble_eq_true rfl)) d_M_gap_42 ⟨Nat.le_of_ble_eq_true rfl, Nat.le_of_ble_eq_true rfl⟩) hP hD hS hA [0, 1, 2, 3, 4, 5, 6] rfl rfl (fun H locs hP hD hS => ?_)
      have hP : va_P D CL (w_M_gap T q0 q0_a q0_b q0_c q0_rowScale q0_columnScale q0_sa q0_sb q0_sc q0_x q0_s q0_y q0_p q0_d q0_h q0_f q0_mm q0_low q0_dd q0_r q0_big q0_dt q0_dx q0_t q0_cost q0_rowScaleNow q0_columnScaleNow q0_basic q0_text q0_turned q0_na q0_nb q0_nc vq0_m vq0_n vq0_length vq0_where vq0_effort 1 vq0_at vq0_scaled vq0_solved vq0_second vq0_nm vq0_nn vq0_number vq0_bad vq0_a vq0_b vq0_c vq0_x vq0_s vq0_y) H := hP
      have hD : va_D A (w_M_gap T q0 q0_a q0_b q0_c q0_rowScale q0_columnScale q0_sa q0_sb q0_sc q0_x q0_s q0_y q0_p q0_d q0_h q0_f q0_mm q0_low q0_dd q0_r q0_big q0_dt q0_dx q0_t q0_cost q0_rowScaleNow q0_columnScaleNow q0_basic q0_text q0_turned q0_na q0_nb q0_nc vq0_m vq0_n vq0_length vq0_where vq0_effort 1 vq0_at vq0_scaled vq0_solved vq0_second vq0_nm vq0_nn vq0_number vq0_bad vq0_a vq0_b vq0_c vq0_x vq0_s vq0_y) := hD
      exact rtD hx hb hr hlocks hQ (Option.some.inj h) hP hS d_M_gap_45 rfl rfl
    · have h := it_f c8 h
      refine lv_dconst0 hx hb d_M_gap_36 ?_
      refine lv_goto (tgt := 45) hx hb d_M_gap_37 (by decide) ?_
      exact rtD hx hb hr hlocks hQ (Option.some.inj h) hP hS d_M_gap_45 rfl rfl
theorem d_M_isNone_0 : decode prog_10_method_46_code 0 = .ok (.aload_n 0, 1) := by decide +kernel
theorem d_M_isNone_1 : decode prog_10_method_46_code 1 = .ok (.iconst 4, 1) := by decide +kernel
theorem d_M_isNone_2 : decode prog_10_method_46_code 2 = .ok (.invokevirtual 298, 3) := by decide +kernel
theorem d_M_isNone_5 : decode prog_10_method_46_code 5 = .ok (.dload_n 1, 1) := by decide +kernel
theorem d_M_isNone_6 : decode prog_10_method_46_code 6 = .ok (.dcmp .l, 1) := by decide +kernel
theorem d_M_isNone_7 : decode prog_10_method_46_code 7 = .ok (.ifCond .gt 5, 3) := by decide +kernel
theorem d_M_isNone_10 : decode prog_10_method_46_code 10 = .ok (.iconst 0, 1) := by decide +kernel
theorem d_M_isNone_11 : decode prog_10_method_46_code 11 = .ok (.ireturn, 1) := by decide +kernel
theorem d_M_isNone_12 : decode prog_10_method_46_code 12 = .ok (.iconst 0, 1) := by decide +kernel
theorem d_M_isNone_13 : decode prog_10_method_46_code 13 = .ok (.istore_n 3, 1) := by decide +kernel
theorem d_M_isNone_14 : decode prog_10_method_46_code 14 = .ok (.iload_n 3, 1) := by decide +kernel
theorem d_M_isNone_15 : decode prog_10_method_46_code 15 = .ok (.aload_n 0, 1) := by decide +kernel
theorem d_M_isNone_16 : decode prog_10_method_46_code 16 = .ok (.getfield 103, 3) := by decide +kernel
theorem d_M_isNone_19 : decode prog_10_method_46_code 19 = .ok (.if_icmp .ge 64, 3) := by decide +kernel
theorem d_M_isNone_22 : decode prog_10_method_46_code 22 = .ok (.dconst 0, 1) := by decide +kernel
theorem d_M_isNone_23 : decode prog_10_method_46_code 23 = .ok (.dstore 4, 2) := by decide +kernel
theorem d_M_isNone_25 : decode prog_10_method_46_code 25 = .ok (.iconst 0, 1) := by decide +kernel
theorem d_M_isNone_26 : decode prog_10_method_46_code 26 = .ok (.istore 6, 2) := by decide +kernel
theorem d_M_isNone_28 : decode prog_10_method_46_code 28 = .ok (.iload 6, 2) := by decide +kernel
theorem d_M_isNone_30 : decode prog_10_method_46_code 30 = .ok (.aload_n 0, 1) := by decide +kernel
theorem d_M_isNone_31 : decode prog_10_method_46_code 31 = .ok (.getfield 99, 3) := by decide +kernel
theorem d_M_isNone_34 : decode prog_10_method_46_code 34 = .ok (.if_icmp .ge 34, 3) := by decide +kernel
theorem d_M_isNone_37 : decode prog_10_method_46_code 37 = .ok (.dload 4, 2) := by decide +kernel
theorem d_M_isNone_39 : decode prog_10_method_46_code 39 = .ok (.aload_n 0, 1) := by decide +kernel
theorem d_M_isNone_40 : decode prog_10_method_46_code 40 = .ok (.getfield 7, 3) := by decide +kernel
theorem d_M_isNone_43 : decode prog_10_method_46_code 43 = .ok (.bipush 8, 2) := by decide +kernel
theorem d_M_isNone_45 : decode prog_10_method_46_code 45 = .ok (.iload 6, 2) := by decide +kernel
theorem d_M_isNone_47 : decode prog_10_method_46_code 47 = .ok (.imul, 1) := by decide +kernel
theorem d_M_isNone_48 : decode prog_10_method_46_code 48 = .ok (.iload_n 3, 1) := by decide +kernel
theorem d_M_isNone_49 : decode prog_10_method_46_code 49 = .ok (.iadd, 1) := by decide +kernel
theorem d_M_isNone_50 : decode prog_10_method_46_code 50 = .ok (.daload, 1) := by decide +kernel
theorem d_M_isNone_51 : decode prog_10_method_46_code 51 = .ok (.aload_n 0, 1) := by decide +kernel
theorem d_M_isNone_52 : decode prog_10_method_46_code 52 = .ok (.getfield 40, 3) := by decide +kernel
theorem d_M_isNone_55 : decode prog_10_method_46_code 55 = .ok (.iload 6, 2) := by decide +kernel
theorem d_M_isNone_57 : decode prog_10_method_46_code 57 = .ok (.daload, 1) := by decide +kernel
theorem d_M_isNone_58 : decode prog_10_method_46_code 58 = .ok (.dmul, 1) := by decide +kernel
theorem d_M_isNone_59 : decode prog_10_method_46_code 59 = .ok (.dadd, 1) := by decide +kernel
theorem d_M_isNone_60 : decode prog_10_method_46_code 60 = .ok (.dstore 4, 2) := by decide +kernel
theorem d_M_isNone_62 : decode prog_10_method_46_code 62 = .ok (.iinc 6 1, 3) := by decide +kernel
theorem d_M_isNone_65 : decode prog_10_method_46_code 65 = .ok (.goto (-37), 3) := by decide +kernel
theorem d_M_isNone_68 : decode prog_10_method_46_code 68 = .ok (.dload 4, 2) := by decide +kernel
theorem d_M_isNone_70 : decode prog_10_method_46_code 70 = .ok (.dload_n 1, 1) := by decide +kernel
theorem d_M_isNone_71 : decode prog_10_method_46_code 71 = .ok (.dcmp .l, 1) := by decide +kernel
theorem d_M_isNone_72 : decode prog_10_method_46_code 72 = .ok (.ifCond .le 5, 3) := by decide +kernel
theorem d_M_isNone_75 : decode prog_10_method_46_code 75 = .ok (.iconst 0, 1) := by decide +kernel
theorem d_M_isNone_76 : decode prog_10_method_46_code 76 = .ok (.ireturn, 1) := by decide +kernel
theorem d_M_isNone_77 : decode prog_10_method_46_code 77 = .ok (.iinc 3 1, 3) := by decide +kernel
theorem d_M_isNone_80 : decode prog_10_method_46_code 80 = .ok (.goto (-66), 3) := by decide +kernel
theorem d_M_isNone_83 : decode prog_10_method_46_code 83 = .ok (.iconst 1, 1) := by decide +kernel
theorem d_M_isNone_84 : decode prog_10_method_46_code 84 = .ok (.ireturn, 1) := by decide +kernel
abbrev w_M_isNone (T : Nat → ClassId) (q0 : Nat) (q0_a : Nat) (q0_b : Nat) (q0_c : Nat) (q0_rowScale : Nat) (q0_columnScale : Nat) (q0_sa : Nat) (q0_sb : Nat) (q0_sc : Nat) (q0_x : Nat) (q0_s : Nat) (q0_y : Nat) (q0_p : Nat) (q0_d : Nat) (q0_h : Nat) (q0_f : Nat) (q0_mm : Nat) (q0_low : Nat) (q0_dd : Nat) (q0_r : Nat) (q0_big : Nat) (q0_dt : Nat) (q0_dx : Nat) (q0_t : Nat) (q0_cost : Nat) (q0_rowScaleNow : Nat) (q0_columnScaleNow : Nat) (q0_basic : Nat) (q0_text : Nat) (q0_turned : Nat) (q0_na : Nat) (q0_nb : Nat) (q0_nc : Nat) (vq0_m : Int32) (vq0_n : Int32) (vq0_length : Int32) (vq0_where : Int32) (vq0_effort : Int32) (vq0_thrown : Int32) (vq0_at : Int32) (vq0_scaled : Int32) (vq0_solved : Int32) (vq0_second : Int32) (vq0_nm : Int32) (vq0_nn : Int32) (vq0_number : UInt64) (vq0_bad : Int32) (vq0_a : Nat → UInt64) (vq0_b : Nat → UInt64) (vq0_c : Nat → UInt64) (vq0_x : Nat → UInt64) (vq0_y : Nat → UInt64) : va_W := [(q0, .inr (8, [.ref q0_a, .ref q0_b, .ref q0_c, .ref q0_rowScale, .ref q0_columnScale, .ref q0_sa, .ref q0_sb, .ref q0_sc, .ref q0_x, .ref q0_s, .ref q0_y, .ref q0_p, .ref q0_d, .ref q0_h, .ref q0_f, .ref q0_mm, .ref q0_low, .ref q0_dd, .ref q0_r, .ref q0_big, .ref q0_dt, .ref q0_dx, .ref q0_t, .ref q0_cost, .ref q0_rowScaleNow, .ref q0_columnScaleNow, .ref q0_basic, .ref q0_text, .ref q0_turned, .int vq0_m, .int vq0_n, .int vq0_length, .int vq0_where, .int vq0_effort, .int vq0_thrown, .int vq0_at, .int vq0_scaled, .int vq0_solved, .int vq0_second, .ref q0_na, .ref q0_nb, .ref q0_nc, .int vq0_nm, .int vq0_nn, .double vq0_number, .int vq0_bad])), (q0_a, .inl (T 0, 40, .inr (.inr (.inr (.inl vq0_a))))), (q0_b, .inl (T 0, 5, .inr (.inr (.inr (.inl vq0_b))))), (q0_c, .inl (T 0, 8, .inr (.inr (.inr (.inl vq0_c))))), (q0_x, .inl (T 0, 8, .inr (.inr (.inr (.inl vq0_x))))), (q0_y, .inl (T 0, 5, .inr (.inr (.inr (.inl vq0_y)))))]
def s_M_isNone_B28 (vq0_m : Int32) (vq0_n : Int32) (vq0_length : Int32) (vq0_where : Int32) (vq0_effort : Int32) (vq0_thrown : Int32) (vq0_at : Int32) (vq0_scaled : Int32) (vq0_solved : Int32) (vq0_second : Int32) (vq0_nm : Int32) (vq0_nn : Int32) (vq0_number : UInt64) (vq0_bad : Int32) (vq0_a : Nat → UInt64) (vq0_b : Nat → UInt64) (vq0_c : Nat → UInt64) (vq0_x : Nat → UInt64) (vq0_y : Nat → UInt64) (x1 : UInt64) (x3 : Int32) (x4 : UInt64) (x6 : Int32) : Option ((UInt64 × Int32) ⊕ (UInt64)) :=
  if vq0_m ≤ x6 then (some (.inr x4)) else (gd (inb ((8 * x6) + x3) 40) <| gd (inb x6 5) <| gd (isn (FP.dmul (vq0_a ((8 * x6) + x3).toNatClampNeg) (vq0_y x6.toNatClampNeg))) <| gd (isn (FP.dadd x4 (FP.dmul (vq0_a ((8 * x6) + x3).toNatClampNeg) (vq0_y x6.toNatClampNeg)))) <| some (.inl (FP.dadd x4 (FP.dmul (vq0_a ((8 * x6) + x3).toNatClampNeg) (vq0_y x6.toNatClampNeg)), x6 + 1)))
def s_M_isNone_L28 (vq0_m : Int32) (vq0_n : Int32) (vq0_length : Int32) (vq0_where : Int32) (vq0_effort : Int32) (vq0_thrown : Int32) (vq0_at : Int32) (vq0_scaled : Int32) (vq0_solved : Int32) (vq0_second : Int32) (vq0_nm : Int32) (vq0_nn : Int32) (vq0_number : UInt64) (vq0_bad : Int32) (vq0_a : Nat → UInt64) (vq0_b : Nat → UInt64) (vq0_c : Nat → UInt64) (vq0_x : Nat → UInt64) (vq0_y : Nat → UInt64) (x1 : UInt64) (x3 : Int32) (x4 : UInt64) (x6 : Int32) : Option ((Int32) ⊕ ((Unit) ⊕ (Int32))) :=
  (loopO (fun (st : UInt64 × Int32) => s_M_isNone_B28 vq0_m vq0_n vq0_length vq0_where vq0_effort vq0_thrown vq0_at vq0_scaled vq0_solved vq0_second vq0_nm vq0_nn vq0_number vq0_bad vq0_a vq0_b vq0_c vq0_x vq0_y x1 x3 st.1 st.2) 2000 (x4, x6)).bind fun u28 => if (Op.cmpValue (FP.dcmp u28 x1) .l) ≤ 0 then (some (.inl (x3 + 1))) else (gd (isb 0) <| some (.inr (.inr 0)))
def s_M_isNone_B14 (vq0_m : Int32) (vq0_n : Int32) (vq0_length : Int32) (vq0_where : Int32) (vq0_effort : Int32) (vq0_thrown : Int32) (vq0_at : Int32) (vq0_scaled : Int32) (vq0_solved : Int32) (vq0_second : Int32) (vq0_nm : Int32) (vq0_nn : Int32) (vq0_number : UInt64) (vq0_bad : Int32) (vq0_a : Nat → UInt64) (vq0_b : Nat → UInt64) (vq0_c : Nat → UInt64) (vq0_x : Nat → UInt64) (vq0_y : Nat → UInt64) (x1 : UInt64) (x3 : Int32) : Option ((Int32) ⊕ ((Unit) ⊕ (Int32))) :=
  if vq0_n ≤ x3 then (some (.inr (.inl ()))) else (s_M_isNone_L28 vq0_m vq0_n vq0_length vq0_where vq0_effort vq0_thrown vq0_at vq0_scaled vq0_solved vq0_second vq0_nm vq0_nn vq0_number vq0_bad vq0_a vq0_b vq0_c vq0_x vq0_y x1 x3 FP.dconst0 0)
def s_M_isNone_L14 (vq0_m : Int32) (vq0_n : Int32) (vq0_length : Int32) (vq0_where : Int32) (vq0_effort : Int32) (vq0_thrown : Int32) (vq0_at : Int32) (vq0_scaled : Int32) (vq0_solved : Int32) (vq0_second : Int32) (vq0_nm : Int32) (vq0_nn : Int32) (vq0_number : UInt64) (vq0_bad : Int32) (vq0_a : Nat → UInt64) (vq0_b : Nat → UInt64) (vq0_c : Nat → UInt64) (vq0_x : Nat → UInt64) (vq0_y : Nat → UInt64) (x1 : UInt64) (x3 : Int32) : Option (Int32) :=
  (loopO (fun (st : Int32) => s_M_isNone_B14 vq0_m vq0_n vq0_length vq0_where vq0_effort vq0_thrown vq0_at vq0_scaled vq0_solved vq0_second vq0_nm vq0_nn vq0_number vq0_bad vq0_a vq0_b vq0_c vq0_x vq0_y x1 st) 2000 x3).bind fun u14 => Sum.elim (fun w14 => gd (isb 1) <| some 1) (fun w14 => some w14) u14
def s_M_isNone (vq0_m : Int32) (vq0_n : Int32) (vq0_length : Int32) (vq0_where : Int32) (vq0_effort : Int32) (vq0_thrown : Int32) (vq0_at : Int32) (vq0_scaled : Int32) (vq0_solved : Int32) (vq0_second : Int32) (vq0_nm : Int32) (vq0_nn : Int32) (vq0_number : UInt64) (vq0_bad : Int32) (vq0_a : Nat → UInt64) (vq0_b : Nat → UInt64) (vq0_c : Nat → UInt64) (vq0_x : Nat → UInt64) (vq0_y : Nat → UInt64) (x1 : UInt64) : Option (Int32) :=
  (s_M_total vq0_m vq0_n vq0_length vq0_where vq0_effort vq0_thrown vq0_at vq0_scaled vq0_solved vq0_second vq0_nm vq0_nn vq0_number vq0_bad vq0_b vq0_c vq0_x vq0_y 4).bind fun u10 => if 0 < (Op.cmpValue (FP.dcmp u10 x1) .l) then (s_M_isNone_L14 vq0_m vq0_n vq0_length vq0_where vq0_effort vq0_thrown vq0_at vq0_scaled vq0_solved vq0_second vq0_nm vq0_nn vq0_number vq0_bad vq0_a vq0_b vq0_c vq0_x vq0_y x1 0) else (gd (isb 0) <| some 0)
set_option maxHeartbeats 4000000 in
set_option maxRecDepth 100000 in
theorem c_M_isNone (l : Launch) (D : va_G) (T : Nat → ClassId) (q0 : Nat) (q0_a : Nat) (q0_b : Nat) (q0_c : Nat) (q0_rowScale : Nat) (q0_columnScale : Nat) (q0_sa : Nat) (q0_sb : Nat) (q0_sc : Nat) (q0_x : Nat) (q0_s : Nat) (q0_y : Nat) (q0_p : Nat) (q0_d : Nat) (q0_h : Nat) (q0_f : Nat) (q0_mm : Nat) (q0_low : Nat) (q0_dd : Nat) (q0_r : Nat) (q0_big : Nat) (q0_dt : Nat) (q0_dx : Nat) (q0_t : Nat) (q0_cost : Nat) (q0_rowScaleNow : Nat) (q0_columnScaleNow : Nat) (q0_basic : Nat) (q0_text : Nat) (q0_turned : Nat) (q0_na : Nat) (q0_nb : Nat) (q0_nc : Nat) (vq0_m : Int32) (vq0_n : Int32) (vq0_length : Int32) (vq0_where : Int32) (vq0_effort : Int32) (vq0_thrown : Int32) (vq0_at : Int32) (vq0_scaled : Int32) (vq0_solved : Int32) (vq0_second : Int32) (vq0_nm : Int32) (vq0_nn : Int32) (vq0_number : UInt64) (vq0_bad : Int32) (vq0_a : Nat → UInt64) (vq0_b : Nat → UInt64) (vq0_c : Nat → UInt64) (vq0_x : Nat → UInt64) (vq0_y : Nat → UInt64) (x1 : UInt64) (rm : Int32) (h : s_M_isNone vq0_m vq0_n vq0_length vq0_where vq0_effort vq0_thrown vq0_at vq0_scaled vq0_solved vq0_second vq0_nm vq0_nn vq0_number vq0_bad vq0_a vq0_b vq0_c vq0_x vq0_y x1 = some rm) : CtI l y_M_isNone (Cond.code y_M_isNone prog_10_method_46_code 7 (some .boolean) :: BIG) 1 24 D T [.ref q0, .double x1] (w_M_isNone T q0 q0_a q0_b q0_c q0_rowScale q0_columnScale q0_sa q0_sb q0_sc q0_x q0_s q0_y q0_p q0_d q0_h q0_f q0_mm q0_low q0_dd q0_r q0_big q0_dt q0_dx q0_t q0_cost q0_rowScaleNow q0_columnScaleNow q0_basic q0_text q0_turned q0_na q0_nb q0_nc vq0_m vq0_n vq0_length vq0_where vq0_effort vq0_thrown vq0_at vq0_scaled vq0_solved vq0_second vq0_nm vq0_nn vq0_number vq0_bad vq0_a vq0_b vq0_c vq0_x vq0_y) (fun r => r) (fun r => (w_M_isNone T q0 q0_a q0_b q0_c q0_rowScale q0_columnScale q0_sa q0_sb q0_sc q0_x q0_s q0_y q0_p q0_d q0_h q0_f q0_mm q0_low q0_dd q0_r q0_big q0_dt q0_dx q0_t q0_cost q0_rowScaleNow q0_columnScaleNow q0_basic q0_text q0_turned q0_na q0_nb q0_nc vq0_m vq0_n vq0_length vq0_where vq0_effort vq0_thrown vq0_at vq0_scaled vq0_solved vq0_second vq0_nm vq0_nn vq0_number vq0_bad vq0_a vq0_b vq0_c vq0_x vq0_y)) rm := by
  refine cf_entry (y := y_M_isNone) (cc := prog_10_method_46_code) (nL := 7) (ret := (some .boolean)) (fr := 1) (lo := 24) (T := T) (av := [.ref q0, .double x1]) (w := (w_M_isNone T q0 q0_a q0_b q0_c q0_rowScale q0_columnScale q0_sa q0_sb q0_sc q0_x q0_s q0_y q0_p q0_d q0_h q0_f q0_mm q0_low q0_dd q0_r q0_big q0_dt q0_dx q0_t q0_cost q0_rowScaleNow q0_columnScaleNow q0_basic q0_text q0_turned q0_na q0_nb q0_nc vq0_m vq0_n vq0_length vq0_where vq0_effort vq0_thrown vq0_at vq0_scaled vq0_solved vq0_second vq0_nm vq0_nn vq0_number vq0_bad vq0_a vq0_b vq0_c vq0_x vq0_y)) (Qc := cfQi D (fun r => r) (fun r => (w_M_isNone T q0 q0_a q0_b q0_c q0_rowScale q0_columnScale q0_sa q0_sb q0_sc q0_x q0_s q0_y q0_p q0_d q0_h q0_f q0_mm q0_low q0_dd q0_r q0_big q0_dt q0_dx q0_t q0_cost q0_rowScaleNow q0_columnScaleNow q0_basic q0_text q0_turned q0_na q0_nb q0_nc vq0_m vq0_n vq0_length vq0_where vq0_effort vq0_thrown vq0_at vq0_scaled vq0_solved vq0_second vq0_nm vq0_nn vq0_number vq0_bad vq0_a vq0_b vq0_c vq0_x vq0_y)) rm) (by decide) rfl (Nat.le_of_ble_eq_true rfl) ?_
  intro p e s m args below meth c A Q H locs ls hx hb hr hlocks hml hown hts hNW hK hA hQ hP hD hS hl
  have hown : s.vm.findClass "ConeForgeModel" = some m.cls := hown
  have hl : lv_has ls 7 [(0, .ref q0), (1, .double x1)] := hl
  have L14 : ∀ (x1 : UInt64) (x3 : Int32), ∀ (H : Heap) (locs : List Loc) (ls : Array Slot), va_P D CL (w_M_isNone T q0 q0_a q0_b q0_c q0_rowScale q0_columnScale q0_sa q0_sb q0_sc q0_x q0_s q0_y q0_p q0_d q0_h q0_f q0_mm q0_low q0_dd q0_r q0_big q0_dt q0_dx q0_t q0_cost q0_rowScaleNow q0_columnScaleNow q0_basic q0_text q0_turned q0_na q0_nb q0_nc vq0_m vq0_n vq0_length vq0_where vq0_effort vq0_thrown vq0_at vq0_scaled vq0_solved vq0_second vq0_nm vq0_nn vq0_number vq0_bad vq0_a vq0_b vq0_c vq0_x vq0_y) H → va_D A (w_M_isNone T q0 q0_a q0_b q0_c q0_rowScale q0_columnScale q0_sa q0_sb q0_sc q0_x q0_s q0_y q0_p q0_d q0_h q0_f q0_mm q0_low q0_dd q0_r q0_big q0_dt q0_dx q0_t q0_cost q0_rowScaleNow q0_columnScaleNow q0_basic q0_text q0_turned q0_na q0_nb q0_nc vq0_m vq0_n vq0_length vq0_where vq0_effort vq0_thrown vq0_at vq0_scaled vq0_solved vq0_second vq0_nm vq0_nn vq0_number vq0_bad vq0_a vq0_b vq0_c vq0_x vq0_y) → va_S A s.heap H locs → lv_has ls 7 [(0, .ref q0), (1, .double x1), (3, .int x3)] → s_M_isNone_L14 vq0_m vq0_n vq0_length vq0_where vq0_effort vq0_thrown vq0_at vq0_scaled vq0_solved vq0_second vq0_nm vq0_nn vq0_number vq0_bad vq0_a vq0_b vq0_c vq0_x vq0_y x1 x3 = some rm → W p l e (rmk 1 24) s m args below meth c H locs 0 0 Q (F0 m 14 ls []) := by
    intro x1 x3 H locs ls hP hD hS hl h
    unfold s_M_isNone_L14 at h
    obtain ⟨u14, hu14, h⟩ := bi_some h
    refine loopO_W (Wh := fun (st : Int32) => ∀ (H : Heap) (locs : List Loc) (ls : Array Slot), va_P D CL (w_M_isNone T q0 q0_a q0_b q0_c q0_rowScale q0_columnScale q0_sa q0_sb q0_sc q0_x q0_s q0_y q0_p q0_d q0_h q0_f q0_mm q0_low q0_dd q0_r q0_big q0_dt q0_dx q0_t q0_cost q0_rowScaleNow q0_columnScaleNow q0_basic q0_text q0_turned q0_na q0_nb q0_nc vq0_m vq0_n vq0_length vq0_where vq0_effort vq0_thrown vq0_at vq0_scaled vq0_solved vq0_second vq0_nm vq0_nn vq0_number vq0_bad vq0_a vq0_b vq0_c vq0_x vq0_y) H → va_D A (w_M_isNone T q0 q0_a q0_b q0_c q0_rowScale q0_columnScale q0_sa q0_sb q0_sc q0_x q0_s q0_y q0_p q0_d q0_h q0_f q0_mm q0_low q0_dd q0_r q0_big q0_dt q0_dx q0_t q0_cost q0_rowScaleNow q0_columnScaleNow q0_basic q0_text q0_turned q0_na q0_nb q0_nc vq0_m vq0_n vq0_length vq0_where vq0_effort vq0_thrown vq0_at vq0_scaled vq0_solved vq0_second vq0_nm vq0_nn vq0_number vq0_bad vq0_a vq0_b vq0_c vq0_x vq0_y) → va_S A s.heap H locs → lv_has ls 7 [(0, .ref q0), (1, .double x1), (3, .int st)] → W p l e (rmk 1 24) s m args below meth c H locs 0 0 Q (F0 m 14 ls [])) (Wx := fun (e0 : (Unit) ⊕ (Int32)) => Sum.elim (fun (e1 : Unit) => ∀ (H : Heap) (locs : List Loc) (ls : Array Slot), va_P D CL (w_M_isNone T q0 q0_a q0_b q0_c q0_rowScale q0_columnScale q0_sa q0_sb q0_sc q0_x q0_s q0_y q0_p q0_d q0_h q0_f q0_mm q0_low q0_dd q0_r q0_big q0_dt q0_dx q0_t q0_cost q0_rowScaleNow q0_columnScaleNow q0_basic q0_text q0_turned q0_na q0_nb q0_nc vq0_m vq0_n vq0_length vq0_where vq0_effort vq0_thrown vq0_at vq0_scaled vq0_solved vq0_second vq0_nm vq0_nn vq0_number vq0_bad vq0_a vq0_b vq0_c vq0_x vq0_y) H → va_D A (w_M_isNone T q0 q0_a q0_b q0_c q0_rowScale q0_columnScale q0_sa q0_sb q0_sc q0_x q0_s q0_y q0_p q0_d q0_h q0_f q0_mm q0_low q0_dd q0_r q0_big q0_dt q0_dx q0_t q0_cost q0_rowScaleNow q0_columnScaleNow q0_basic q0_text q0_turned q0_na q0_nb q0_nc vq0_m vq0_n vq0_length vq0_where vq0_effort vq0_thrown vq0_at vq0_scaled vq0_solved vq0_second vq0_nm vq0_nn vq0_number vq0_bad vq0_a vq0_b vq0_c vq0_x vq0_y) → va_S A s.heap H locs → lv_has ls 7 [] → W p l e (rmk 1 24) s m args below meth c H locs 0 0 Q (F0 m 83 ls [])) (fun e2 => e2 = rm) e0) ?_ 2000 _ u14 hu14 ?_ H locs ls hP hD hS hl
    · intro st rb14 h kc14 kx14 H locs ls hP hD hS hl
      obtain ⟨x3, rfl⟩ : ∃ z, z = st := ⟨_, rfl⟩
      have h : s_M_isNone_B14 vq0_m vq0_n vq0_length vq0_where vq0_effort vq0_thrown vq0_at vq0_scaled vq0_solved vq0_second vq0_nm vq0_nn vq0_number vq0_bad vq0_a vq0_b vq0_c vq0_x vq0_y x1 x3 = some rb14 := h
      have L28 : ∀ (x3 : Int32) (x4 : UInt64) (x6 : Int32), ∀ (H : Heap) (locs : List Loc) (ls : Array Slot), va_P D CL (w_M_isNone T q0 q0_a q0_b q0_c q0_rowScale q0_columnScale q0_sa q0_sb q0_sc q0_x q0_s q0_y q0_p q0_d q0_h q0_f q0_mm q0_low q0_dd q0_r q0_big q0_dt q0_dx q0_t q0_cost q0_rowScaleNow q0_columnScaleNow q0_basic q0_text q0_turned q0_na q0_nb q0_nc vq0_m vq0_n vq0_length vq0_where vq0_effort vq0_thrown vq0_at vq0_scaled vq0_solved vq0_second vq0_nm vq0_nn vq0_number vq0_bad vq0_a vq0_b vq0_c vq0_x vq0_y) H → va_D A (w_M_isNone T q0 q0_a q0_b q0_c q0_rowScale q0_columnScale q0_sa q0_sb q0_sc q0_x q0_s q0_y q0_p q0_d q0_h q0_f q0_mm q0_low q0_dd q0_r q0_big q0_dt q0_dx q0_t q0_cost q0_rowScaleNow q0_columnScaleNow q0_basic q0_text q0_turned q0_na q0_nb q0_nc vq0_m vq0_n vq0_length vq0_where vq0_effort vq0_thrown vq0_at vq0_scaled vq0_solved vq0_second vq0_nm vq0_nn vq0_number vq0_bad vq0_a vq0_b vq0_c vq0_x vq0_y) → va_S A s.heap H locs → lv_has ls 7 [(0, .ref q0), (1, .double x1), (3, .int x3), (4, .double x4), (6, .int x6)] → s_M_isNone_L28 vq0_m vq0_n vq0_length vq0_where vq0_effort vq0_thrown vq0_at vq0_scaled vq0_solved vq0_second vq0_nm vq0_nn vq0_number vq0_bad vq0_a vq0_b vq0_c vq0_x vq0_y x1 x3 x4 x6 = some rb14 → W p l e (rmk 1 24) s m args below meth c H locs 0 0 Q (F0 m 28 ls []) := by
        intro x3 x4 x6 H locs ls hP hD hS hl h
        unfold s_M_isNone_L28 at h
        obtain ⟨u28, hu28, h⟩ := bi_some h
        refine loopO_W (Wh := fun (st : UInt64 × Int32) => ∀ (H : Heap) (locs : List Loc) (ls : Array Slot), va_P D CL (w_M_isNone T q0 q0_a q0_b q0_c q0_rowScale q0_columnScale q0_sa q0_sb q0_sc q0_x q0_s q0_y q0_p q0_d q0_h q0_f q0_mm q0_low q0_dd q0_r q0_big q0_dt q0_dx q0_t q0_cost q0_rowScaleNow q0_columnScaleNow q0_basic q0_text q0_turned q0_na q0_nb q0_nc vq0_m vq0_n vq0_length vq0_where vq0_effort vq0_thrown vq0_at vq0_scaled vq0_solved vq0_second vq0_nm vq0_nn vq0_number vq0_bad vq0_a vq0_b vq0_c vq0_x vq0_y) H → va_D A (w_M_isNone T q0 q0_a q0_b q0_c q0_rowScale q0_columnScale q0_sa q0_sb q0_sc q0_x q0_s q0_y q0_p q0_d q0_h q0_f q0_mm q0_low q0_dd q0_r q0_big q0_dt q0_dx q0_t q0_cost q0_rowScaleNow q0_columnScaleNow q0_basic q0_text q0_turned q0_na q0_nb q0_nc vq0_m vq0_n vq0_length vq0_where vq0_effort vq0_thrown vq0_at vq0_scaled vq0_solved vq0_second vq0_nm vq0_nn vq0_number vq0_bad vq0_a vq0_b vq0_c vq0_x vq0_y) → va_S A s.heap H locs → lv_has ls 7 [(0, .ref q0), (1, .double x1), (3, .int x3), (4, .double st.1), (6, .int st.2)] → W p l e (rmk 1 24) s m args below meth c H locs 0 0 Q (F0 m 28 ls [])) (Wx := fun (e1 : UInt64) => ∀ (H : Heap) (locs : List Loc) (ls : Array Slot), va_P D CL (w_M_isNone T q0 q0_a q0_b q0_c q0_rowScale q0_columnScale q0_sa q0_sb q0_sc q0_x q0_s q0_y q0_p q0_d q0_h q0_f q0_mm q0_low q0_dd q0_r q0_big q0_dt q0_dx q0_t q0_cost q0_rowScaleNow q0_columnScaleNow q0_basic q0_text q0_turned q0_na q0_nb q0_nc vq0_m vq0_n vq0_length vq0_where vq0_effort vq0_thrown vq0_at vq0_scaled vq0_solved vq0_second vq0_nm vq0_nn vq0_number vq0_bad vq0_a vq0_b vq0_c vq0_x vq0_y) H → va_D A (w_M_isNone T q0 q0_a q0_b q0_c q0_rowScale q0_columnScale q0_sa q0_sb q0_sc q0_x q0_s q0_y q0_p q0_d q0_h q0_f q0_mm q0_low q0_dd q0_r q0_big q0_dt q0_dx q0_t q0_cost q0_rowScaleNow q0_columnScaleNow q0_basic q0_text q0_turned q0_na q0_nb q0_nc vq0_m vq0_n vq0_length vq0_where vq0_effort vq0_thrown vq0_at vq0_scaled vq0_solved vq0_second vq0_nm vq0_nn vq0_number vq0_bad vq0_a vq0_b vq0_c vq0_x vq0_y) → va_S A s.heap H locs → lv_has ls 7 [(0, .ref q0), (1, .double x1), (3, .int x3), (4, .double e1)] → W p l e (rmk 1 24) s m args below meth c H locs 0 0 Q (F0 m 68 ls [])) ?_ 2000 _ u28 hu28 ?_ H locs ls hP hD hS hl
        · intro st rb28 h kc28 kx28 H locs ls hP hD hS hl
          obtain ⟨x4, x6⟩ := st
          have h : s_M_isNone_B28 vq0_m vq0_n vq0_length vq0_where vq0_effort vq0_thrown vq0_at vq0_scaled vq0_solved vq0_second vq0_nm vq0_nn vq0_number vq0_bad vq0_a vq0_b vq0_c vq0_x vq0_y x1 x3 x4 x6 = some rb28 := h
          unfold s_M_isNone_B28 at h
          refine lv_iload hx hb d_M_isNone_28 (lv_at hl 4 rfl) ?_
          refine lv_aload_n hx hb d_M_isNone_30 rfl (lv_at hl 0 rfl) ?_
          refine va_get (D := D) (ci := 8) (v := .int vq0_m) (C := "ConeForgeModel") (T := FM) (N := 46) hx hb hts iM hown hK hP 0 rfl rfl 29 (by decide) (hts _ (bgc bw713)) (fun _ h9 => h9) rfl d_M_isNone_31 ?_
          refine lv_icmp_ge (tgt := 68) hx hb d_M_isNone_34 (by decide) (fun c1 => ?_) (fun c1 => ?_)
          · have h := it_t c1 h
            exact kx28 _ (Option.some.inj h).symm H locs ls hP hD hS (lv_sub hl [0, 1, 2, 3] rfl)
          · have h := it_f c1 h
            refine lv_dload hx hb d_M_isNone_37 (lv_at hl 3 rfl) ?_
            refine lv_aload_n hx hb d_M_isNone_39 rfl (lv_at hl 0 rfl) ?_
            refine va_get (D := D) (ci := 8) (v := .ref q0_a) (C := "ConeForgeModel") (T := FM) (N := 46) hx hb hts iM hown hK hP 0 rfl rfl 0 (by decide) (hts _ (bgc bw684)) (fun _ h9 => h9) rfl d_M_isNone_40 ?_
            refine lv_bipush (v := 8) hx hb d_M_isNone_43 (by decide) ?_
            refine lv_iload hx hb d_M_isNone_45 (lv_at hl 4 rfl) ?_
            refine lv_imul hx hb d_M_isNone_47 ?_
            refine lv_iload_n hx hb d_M_isNone_48 rfl (lv_at hl 2 rfl) ?_
            refine lv_iadd hx hb d_M_isNone_49 ?_
            obtain ⟨g2, h⟩ := gd_some h
            refine va_dald hx hb hK hP 1 0 rfl rfl (inb_in g2) d_M_isNone_50 ?_
            refine lv_aload_n hx hb d_M_isNone_51 rfl (lv_at hl 0 rfl) ?_
            refine va_get (D := D) (ci := 8) (v := .ref q0_y) (C := "ConeForgeModel") (T := FM) (N := 46) hx hb hts iM hown hK hP 0 rfl rfl 10 (by decide) (hts _ (bgc bw694)) (fun _ h9 => h9) rfl d_M_isNone_52 ?_
            refine lv_iload hx hb d_M_isNone_55 (lv_at hl 4 rfl) ?_
            obtain ⟨g3, h⟩ := gd_some h
            refine va_dald hx hb hK hP 5 0 rfl rfl (inb_in g3) d_M_isNone_57 ?_
            obtain ⟨g4, h⟩ := gd_some h
            refine lv_dmul hx hb d_M_isNone_58 (isn_n g4) ?_
            obtain ⟨g5, h⟩ := gd_some h
            refine lv_dadd hx hb d_M_isNone_59 (isn_n g5) ?_
            refine lv_dstore (lv' := [(4, .double (FP.dadd x4 (FP.dmul (vq0_a ((8 * x6) + x3).toNatClampNeg) (vq0_y x6.toNatClampNeg)))), (0, .ref q0), (1, .double x1), (3, .int x3), (6, .int x6)]) hx hb d_M_isNone_60 hl (by decide) rfl (fun ls hl => ?_)
            refine lv_iinc (v := x6 + 1) (lv' := [(6, .int (x6 + 1)), (4, .double (FP.dadd x4 (FP.dmul (vq0_a ((8 * x6) + x3).toNatClampNeg) (vq0_y x6.toNatClampNeg)))), (0, .ref q0), (1, .double x1), (3, .int x3)]) hx hb d_M_isNone_62 hl (k := 4) rfl rfl (by decide) rfl (fun ls hl => ?_)
            refine lv_goto (tgt := 28) hx hb d_M_isNone_65 (by decide) ?_
            exact kc28 _ (Option.some.inj h).symm H locs ls hP hD hS (lv_sub hl [2, 3, 4, 1, 0] rfl)
        · intro H locs ls hP hD hS hl
          refine lv_dload hx hb d_M_isNone_68 (lv_at hl 3 rfl) ?_
          refine lv_dload_n hx hb d_M_isNone_70 rfl (lv_at hl 1 rfl) ?_
          refine lv_dcmp hx hb d_M_isNone_71 ?_
          refine lv_if_le (tgt := 77) hx hb d_M_isNone_72 (by decide) (fun c6 => ?_) (fun c6 => ?_)
          · have h := it_t c6 h
            refine lv_iinc (v := x3 + 1) (lv' := [(3, .int (x3 + 1)), (0, .ref q0), (1, .double x1), (4, .double u28)]) hx hb d_M_isNone_77 hl (k := 2) rfl rfl (by decide) rfl (fun ls hl => ?_)
            refine lv_goto (tgt := 14) hx hb d_M_isNone_80 (by decide) ?_
            exact kc14 _ (Option.some.inj h).symm H locs ls hP hD hS (lv_sub hl [1, 2, 0] rfl)
          · have h := it_f c6 h
            refine lv_iconst (v := 0) hx hb d_M_isNone_75 (by decide) ?_
            obtain ⟨g7, h⟩ := gd_some h
            exact rtZ hx hb hr hlocks g7 hQ (kx14 _ (Option.some.inj h).symm) hP hS d_M_isNone_76 rfl rfl
      unfold s_M_isNone_B14 at h
      refine lv_iload_n hx hb d_M_isNone_14 rfl (lv_at hl 2 rfl) ?_
      refine lv_aload_n hx hb d_M_isNone_15 rfl (lv_at hl 0 rfl) ?_
      refine va_get (D := D) (ci := 8) (v := .int vq0_n) (C := "ConeForgeModel") (T := FM) (N := 46) hx hb hts iM hown hK hP 0 rfl rfl 30 (by decide) (hts _ (bgc bw714)) (fun _ h9 => h9) rfl d_M_isNone_16 ?_
      refine lv_icmp_ge (tgt := 83) hx hb d_M_isNone_19 (by decide) (fun c8 => ?_) (fun c8 => ?_)
      · have h := it_t c8 h
        exact kx14 _ (Option.some.inj h).symm H locs ls hP hD hS (lv_sub hl [] rfl)
      · have h := it_f c8 h
        refine lv_dconst0 hx hb d_M_isNone_22 ?_
        refine lv_dstore (lv' := [(4, .double FP.dconst0), (0, .ref q0), (1, .double x1), (3, .int x3)]) hx hb d_M_isNone_23 hl (by decide) rfl (fun ls hl => ?_)
        refine lv_iconst (v := 0) hx hb d_M_isNone_25 (by decide) ?_
        refine lv_istore (lv' := [(6, .int 0), (4, .double FP.dconst0), (0, .ref q0), (1, .double x1), (3, .int x3)]) hx hb d_M_isNone_26 hl (by decide) rfl (fun ls hl => ?_)
        exact L28 x3 FP.dconst0 0 H locs ls hP hD hS (lv_sub hl [2, 3, 4, 1, 0] rfl) h
    · cases u14 with
      | inl w14 =>
        intro H locs ls hP hD hS hl
        refine lv_iconst (v := 1) hx hb d_M_isNone_83 (by decide) ?_
        obtain ⟨g9, h⟩ := gd_some h
        exact rtZ hx hb hr hlocks g9 hQ (Option.some.inj h) hP hS d_M_isNone_84 rfl rfl
      | inr w14 => exact Option.some.inj h
  unfold s_M_isNone at h
  refine lv_aload_n hx hb d_M_isNone_0 rfl (lv_at hl 0 rfl) ?_
  refine lv_iconst (v := 4) hx hb d_M_isNone_1 (by decide) ?_
  obtain ⟨u10, hu10, h⟩ := bi_some h
  refine kD (v := u10) (wc := (w_M_total T q0 q0_a q0_b q0_c q0_rowScale q0_columnScale q0_sa q0_sb q0_sc q0_x q0_s q0_y q0_p q0_d q0_h q0_f q0_mm q0_low q0_dd q0_r q0_big q0_dt q0_dx q0_t q0_cost q0_rowScaleNow q0_columnScaleNow q0_basic q0_text q0_turned q0_na q0_nb q0_nc vq0_m vq0_n vq0_length vq0_where vq0_effort vq0_thrown vq0_at vq0_scaled vq0_solved vq0_second vq0_nm vq0_nn vq0_number vq0_bad vq0_b vq0_c vq0_x vq0_y)) (wc' := (w_M_total T q0 q0_a q0_b q0_c q0_rowScale q0_columnScale q0_sa q0_sb q0_sc q0_x q0_s q0_y q0_p q0_d q0_h q0_f q0_mm q0_low q0_dd q0_r q0_big q0_dt q0_dx q0_t q0_cost q0_rowScaleNow q0_columnScaleNow q0_basic q0_text q0_turned q0_na q0_nb q0_nc vq0_m vq0_n vq0_length vq0_where vq0_effort vq0_thrown vq0_at vq0_scaled vq0_solved vq0_second vq0_nm vq0_nn vq0_number vq0_bad vq0_b vq0_c vq0_x vq0_y)) (runOV (As := [.int 4]) (rest := []) ((c_M_total l D T q0 q0_a q0_b q0_c q0_rowScale q0_columnScale q0_sa q0_sb q0_sc q0_x q0_s q0_y q0_p q0_d q0_h q0_f q0_mm q0_low q0_dd q0_r q0_big q0_dt q0_dx q0_t q0_cost q0_rowScaleNow q0_columnScaleNow q0_basic q0_text q0_turned q0_na q0_nb q0_nc vq0_m vq0_n vq0_length vq0_where vq0_effort vq0_thrown vq0_at vq0_scaled vq0_solved vq0_second vq0_nm vq0_nn vq0_number vq0_bad vq0_b vq0_c vq0_x vq0_y 4 u10 hu10) H.size) ⟨hx, hb, hml, hown, hts⟩ (cwOV bw927 bw928 bw91 bw105 bw929 dd_M_total hts ⟨Nat.le_of_ble_eq_true rfl, Nat.le_of_ble_eq_true rfl⟩) (va_recv hK hP (ci := 8) (q0 := 0) rfl rfl) hNW hK hP hD [0, 2, 3, 4, 5] rfl (by decide) rfl hl.1 rfl (lv_room (Nat.le_of_ble_eq_true rfl)) d_M_isNone_2 ⟨Nat.le_of_ble_eq_true rfl, Nat.le_of_ble_eq_true rfl⟩) hP hD hS hA [0, 2, 3, 4, 5] rfl rfl (fun H locs hP hD hS => ?_)
  have hP : va_P D CL (w_M_isNone T q0 q0_a q0_b q0_c q0_rowScale q0_columnScale q0_sa q0_sb q0_sc q0_x q0_s q0_y q0_p q0_d q0_h q0_f q0_mm q0_low q0_dd q0_r q0_big q0_dt q0_dx q0_t q0_cost q0_rowScaleNow q0_columnScaleNow q0_basic q0_text q0_turned q0_na q0_nb q0_nc vq0_m vq0_n vq0_length vq0_where vq0_effort vq0_thrown vq0_at vq0_scaled vq0_solved vq0_second vq0_nm vq0_nn vq0_number vq0_bad vq0_a vq0_b vq0_c vq0_x vq0_y) H := hP
  have hD : va_D A (w_M_isNone T q0 q0_a q0_b q0_c q0_rowScale q0_columnScale q0_sa q0_sb q0_sc q0_x q0_s q0_y q0_p q0_d q0_h q0_f q0_mm q0_low q0_dd q0_r q0_big q0_dt q0_dx q0_t q0_cost q0_rowScaleNow q0_columnScaleNow q0_basic q0_text q0_turned q0_na q0_nb q0_nc vq0_m vq0_n vq0_length vq0_where vq0_effort vq0_thrown vq0_at vq0_scaled vq0_solved vq0_second vq0_nm vq0_nn vq0_number vq0_bad vq0_a vq0_b vq0_c vq0_x vq0_y) := hD
  refine lv_dload_n hx hb d_M_isNone_5 rfl (lv_at hl 1 rfl) ?_
  refine lv_dcmp hx hb d_M_isNone_6 ?_
  refine lv_if_gt (tgt := 12) hx hb d_M_isNone_7 (by decide) (fun c11 => ?_) (fun c11 => ?_)
  · have h := it_t c11 h
    refine lv_iconst (v := 0) hx hb d_M_isNone_12 (by decide) ?_
    refine lv_istore_n (lv' := [(3, .int 0), (0, .ref q0), (1, .double x1)]) hx hb d_M_isNone_13 rfl hl (by decide) rfl (fun ls hl => ?_)
    exact L14 x1 0 H locs ls hP hD hS (lv_sub hl [1, 2, 0] rfl) h
  · have h := it_f c11 h
    refine lv_iconst (v := 0) hx hb d_M_isNone_10 (by decide) ?_
    obtain ⟨g12, h⟩ := gd_some h
    exact rtZ hx hb hr hlocks g12 hQ (Option.some.inj h) hP hS d_M_isNone_11 rfl rfl
