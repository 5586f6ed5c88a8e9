theorem d_M_back_0 : decode prog_10_method_21_code 0 = .ok (.iconst 0, 1) := by decide +kernel
theorem d_M_back_1 : decode prog_10_method_21_code 1 = .ok (.istore_n 1, 1) := by decide +kernel
theorem d_M_back_2 : decode prog_10_method_21_code 2 = .ok (.iload_n 1, 1) := by decide +kernel
theorem d_M_back_3 : decode prog_10_method_21_code 3 = .ok (.aload_n 0, 1) := by decide +kernel
theorem d_M_back_4 : decode prog_10_method_21_code 4 = .ok (.getfield 103, 3) := by decide +kernel
theorem d_M_back_7 : decode prog_10_method_21_code 7 = .ok (.if_icmp .ge 47, 3) := by decide +kernel
theorem d_M_back_10 : decode prog_10_method_21_code 10 = .ok (.aload_n 0, 1) := by decide +kernel
theorem d_M_back_11 : decode prog_10_method_21_code 11 = .ok (.getfield 34, 3) := by decide +kernel
theorem d_M_back_14 : decode prog_10_method_21_code 14 = .ok (.iload_n 1, 1) := by decide +kernel
theorem d_M_back_15 : decode prog_10_method_21_code 15 = .ok (.aload_n 0, 1) := by decide +kernel
theorem d_M_back_16 : decode prog_10_method_21_code 16 = .ok (.getfield 22, 3) := by decide +kernel
theorem d_M_back_19 : decode prog_10_method_21_code 19 = .ok (.iload_n 1, 1) := by decide +kernel
theorem d_M_back_20 : decode prog_10_method_21_code 20 = .ok (.daload, 1) := by decide +kernel
theorem d_M_back_21 : decode prog_10_method_21_code 21 = .ok (.aload_n 0, 1) := by decide +kernel
theorem d_M_back_22 : decode prog_10_method_21_code 22 = .ok (.getfield 34, 3) := by decide +kernel
theorem d_M_back_25 : decode prog_10_method_21_code 25 = .ok (.iload_n 1, 1) := by decide +kernel
theorem d_M_back_26 : decode prog_10_method_21_code 26 = .ok (.daload, 1) := by decide +kernel
theorem d_M_back_27 : decode prog_10_method_21_code 27 = .ok (.dmul, 1) := by decide +kernel
theorem d_M_back_28 : decode prog_10_method_21_code 28 = .ok (.dastore, 1) := by decide +kernel
theorem d_M_back_29 : decode prog_10_method_21_code 29 = .ok (.aload_n 0, 1) := by decide +kernel
theorem d_M_back_30 : decode prog_10_method_21_code 30 = .ok (.getfield 37, 3) := by decide +kernel
theorem d_M_back_33 : decode prog_10_method_21_code 33 = .ok (.iload_n 1, 1) := by decide +kernel
theorem d_M_back_34 : decode prog_10_method_21_code 34 = .ok (.aload_n 0, 1) := by decide +kernel
theorem d_M_back_35 : decode prog_10_method_21_code 35 = .ok (.getfield 37, 3) := by decide +kernel
theorem d_M_back_38 : decode prog_10_method_21_code 38 = .ok (.iload_n 1, 1) := by decide +kernel
theorem d_M_back_39 : decode prog_10_method_21_code 39 = .ok (.daload, 1) := by decide +kernel
theorem d_M_back_40 : decode prog_10_method_21_code 40 = .ok (.aload_n 0, 1) := by decide +kernel
theorem d_M_back_41 : decode prog_10_method_21_code 41 = .ok (.getfield 22, 3) := by decide +kernel
theorem d_M_back_44 : decode prog_10_method_21_code 44 = .ok (.iload_n 1, 1) := by decide +kernel
theorem d_M_back_45 : decode prog_10_method_21_code 45 = .ok (.daload, 1) := by decide +kernel
theorem d_M_back_46 : decode prog_10_method_21_code 46 = .ok (.ddiv, 1) := by decide +kernel
theorem d_M_back_47 : decode prog_10_method_21_code 47 = .ok (.dastore, 1) := by decide +kernel
theorem d_M_back_48 : decode prog_10_method_21_code 48 = .ok (.iinc 1 1, 3) := by decide +kernel
theorem d_M_back_51 : decode prog_10_method_21_code 51 = .ok (.goto (-49), 3) := by decide +kernel
theorem d_M_back_54 : decode prog_10_method_21_code 54 = .ok (.iconst 0, 1) := by decide +kernel
theorem d_M_back_55 : decode prog_10_method_21_code 55 = .ok (.istore_n 1, 1) := by decide +kernel
theorem d_M_back_56 : decode prog_10_method_21_code 56 = .ok (.iload_n 1, 1) := by decide +kernel
theorem d_M_back_57 : decode prog_10_method_21_code 57 = .ok (.aload_n 0, 1) := by decide +kernel
theorem d_M_back_58 : decode prog_10_method_21_code 58 = .ok (.getfield 99, 3) := by decide +kernel
theorem d_M_back_61 : decode prog_10_method_21_code 61 = .ok (.if_icmp .ge 28, 3) := by decide +kernel
theorem d_M_back_64 : decode prog_10_method_21_code 64 = .ok (.aload_n 0, 1) := by decide +kernel
theorem d_M_back_65 : decode prog_10_method_21_code 65 = .ok (.getfield 40, 3) := by decide +kernel
theorem d_M_back_68 : decode prog_10_method_21_code 68 = .ok (.iload_n 1, 1) := by decide +kernel
theorem d_M_back_69 : decode prog_10_method_21_code 69 = .ok (.aload_n 0, 1) := by decide +kernel
theorem d_M_back_70 : decode prog_10_method_21_code 70 = .ok (.getfield 19, 3) := by decide +kernel
theorem d_M_back_73 : decode prog_10_method_21_code 73 = .ok (.iload_n 1, 1) := by decide +kernel
theorem d_M_back_74 : decode prog_10_method_21_code 74 = .ok (.daload, 1) := by decide +kernel
theorem d_M_back_75 : decode prog_10_method_21_code 75 = .ok (.aload_n 0, 1) := by decide +kernel
theorem d_M_back_76 : decode prog_10_method_21_code 76 = .ok (.getfield 40, 3) := by decide +kernel
theorem d_M_back_79 : decode prog_10_method_21_code 79 = .ok (.iload_n 1, 1) := by decide +kernel
theorem d_M_back_80 : decode prog_10_method_21_code 80 = .ok (.daload, 1) := by decide +kernel
theorem d_M_back_81 : decode prog_10_method_21_code 81 = .ok (.dmul, 1) := by decide +kernel
theorem d_M_back_82 : decode prog_10_method_21_code 82 = .ok (.dastore, 1) := by decide +kernel
theorem d_M_back_83 : decode prog_10_method_21_code 83 = .ok (.iinc 1 1, 3) := by decide +kernel
theorem d_M_back_86 : decode prog_10_method_21_code 86 = .ok (.goto (-30), 3) := by decide +kernel
theorem d_M_back_89 : decode prog_10_method_21_code 89 = .ok (.aload_n 0, 1) := by decide +kernel
theorem d_M_back_90 : decode prog_10_method_21_code 90 = .ok (.iconst 1, 1) := by decide +kernel
theorem d_M_back_91 : decode prog_10_method_21_code 91 = .ok (.putfield 129, 3) := by decide +kernel
theorem d_M_back_94 : decode prog_10_method_21_code 94 = .ok (.return_, 1) := by decide +kernel
abbrev w_M_back (T : Nat → ClassId) (q0 : Nat) (q0_a : Nat) (q0_b : Nat) (q0_c : Nat) (q0_rowScale : Nat) (q0_columnScale : Nat) (q0_sa : Nat) (q0_sb : Nat) (q0_sc : Nat) (q0_x : Nat) (q0_s : Nat) (q0_y : Nat) (q0_p : Nat) (q0_d : Nat) (q0_h : Nat) (q0_f : Nat) (q0_mm : Nat) (q0_low : Nat) (q0_dd : Nat) (q0_r : Nat) (q0_big : Nat) (q0_dt : Nat) (q0_dx : Nat) (q0_t : Nat) (q0_cost : Nat) (q0_rowScaleNow : Nat) (q0_columnScaleNow : Nat) (q0_basic : Nat) (q0_text : Nat) (q0_turned : Nat) (q0_na : Nat) (q0_nb : Nat) (q0_nc : Nat) (vq0_m : Int32) (vq0_n : Int32) (vq0_length : Int32) (vq0_where : Int32) (vq0_effort : Int32) (vq0_thrown : Int32) (vq0_at : Int32) (vq0_scaled : Int32) (vq0_solved : Int32) (vq0_second : Int32) (vq0_nm : Int32) (vq0_nn : Int32) (vq0_number : UInt64) (vq0_bad : Int32) (vq0_rowScale : Nat → UInt64) (vq0_columnScale : Nat → UInt64) (vq0_x : Nat → UInt64) (vq0_s : Nat → UInt64) (vq0_y : Nat → UInt64) : va_W := [(q0, .inr (8, [.ref q0_a, .ref q0_b, .ref q0_c, .ref q0_rowScale, .ref q0_columnScale, .ref q0_sa, .ref q0_sb, .ref q0_sc, .ref q0_x, .ref q0_s, .ref q0_y, .ref q0_p, .ref q0_d, .ref q0_h, .ref q0_f, .ref q0_mm, .ref q0_low, .ref q0_dd, .ref q0_r, .ref q0_big, .ref q0_dt, .ref q0_dx, .ref q0_t, .ref q0_cost, .ref q0_rowScaleNow, .ref q0_columnScaleNow, .ref q0_basic, .ref q0_text, .ref q0_turned, .int vq0_m, .int vq0_n, .int vq0_length, .int vq0_where, .int vq0_effort, .int vq0_thrown, .int vq0_at, .int vq0_scaled, .int vq0_solved, .int vq0_second, .ref q0_na, .ref q0_nb, .ref q0_nc, .int vq0_nm, .int vq0_nn, .double vq0_number, .int vq0_bad])), (q0_rowScale, .inl (T 0, 5, .inr (.inr (.inr (.inl vq0_rowScale))))), (q0_columnScale, .inl (T 0, 8, .inr (.inr (.inr (.inl vq0_columnScale))))), (q0_x, .inl (T 0, 8, .inr (.inr (.inr (.inl vq0_x))))), (q0_s, .inl (T 0, 8, .inr (.inr (.inr (.inl vq0_s))))), (q0_y, .inl (T 0, 5, .inr (.inr (.inr (.inl vq0_y)))))]
def s_M_back_B56 (vq0_m : Int32) (vq0_n : Int32) (vq0_length : Int32) (vq0_where : Int32) (vq0_effort : Int32) (vq0_thrown : Int32) (vq0_at : Int32) (vq0_scaled : Int32) (vq0_solved : Int32) (vq0_second : Int32) (vq0_nm : Int32) (vq0_nn : Int32) (vq0_number : UInt64) (vq0_bad : Int32) (vq0_rowScale : Nat → UInt64) (vq0_columnScale : Nat → UInt64) (vq0_x : Nat → UInt64) (vq0_s : Nat → UInt64) (vq0_y : Nat → UInt64) (x1 : Int32) : Option (((Nat → UInt64) × Int32) ⊕ ((Nat → UInt64))) :=
  if vq0_m ≤ x1 then (some (.inr vq0_y)) else (gd (inb x1 5) <| gd (inb x1 5) <| gd (isn (FP.dmul (vq0_rowScale x1.toNatClampNeg) (vq0_y x1.toNatClampNeg))) <| gd (inb x1 5) <| some (.inl (vf_upd vq0_y x1.toNatClampNeg (FP.dmul (vq0_rowScale x1.toNatClampNeg) (vq0_y x1.toNatClampNeg)), x1 + 1)))
def s_M_back_L56 (vq0_m : Int32) (vq0_n : Int32) (vq0_length : Int32) (vq0_where : Int32) (vq0_effort : Int32) (vq0_thrown : Int32) (vq0_at : Int32) (vq0_scaled : Int32) (vq0_solved : Int32) (vq0_second : Int32) (vq0_nm : Int32) (vq0_nn : Int32) (vq0_number : UInt64) (vq0_bad : Int32) (vq0_rowScale : Nat → UInt64) (vq0_columnScale : Nat → UInt64) (vq0_x : Nat → UInt64) (vq0_s : Nat → UInt64) (vq0_y : Nat → UInt64) (x1 : Int32) : Option (Int32 × (Nat → UInt64) × (Nat → UInt64) × (Nat → UInt64)) :=
  (loopO (fun (st : (Nat → UInt64) × Int32) => s_M_back_B56 vq0_m vq0_n vq0_length vq0_where vq0_effort vq0_thrown vq0_at vq0_scaled vq0_solved vq0_second vq0_nm vq0_nn vq0_number vq0_bad vq0_rowScale vq0_columnScale vq0_x vq0_s st.1 st.2) 2000 (vq0_y, x1)).bind fun u56 => gd (isb 1) <| some (1, vq0_x, vq0_s, u56)
def s_M_back_B2 (vq0_m : Int32) (vq0_n : Int32) (vq0_length : Int32) (vq0_where : Int32) (vq0_effort : Int32) (vq0_thrown : Int32) (vq0_at : Int32) (vq0_scaled : Int32) (vq0_solved : Int32) (vq0_second : Int32) (vq0_nm : Int32) (vq0_nn : Int32) (vq0_number : UInt64) (vq0_bad : Int32) (vq0_rowScale : Nat → UInt64) (vq0_columnScale : Nat → UInt64) (vq0_y : Nat → UInt64) (vq0_x : Nat → UInt64) (vq0_s : Nat → UInt64) (x1 : Int32) : Option (((Nat → UInt64) × (Nat → UInt64) × Int32) ⊕ ((Nat → UInt64) × (Nat → UInt64))) :=
  if vq0_n ≤ x1 then (some (.inr (vq0_x, vq0_s))) else (gd (inb x1 8) <| gd (inb x1 8) <| gd (isn (FP.dmul (vq0_columnScale x1.toNatClampNeg) (vq0_x x1.toNatClampNeg))) <| gd (inb x1 8) <| gd (inb x1 8) <| gd (inb x1 8) <| gd (isn (FP.ddiv (vq0_s x1.toNatClampNeg) (vq0_columnScale x1.toNatClampNeg))) <| gd (inb x1 8) <| some (.inl (vf_upd vq0_x x1.toNatClampNeg (FP.dmul (vq0_columnScale x1.toNatClampNeg) (vq0_x x1.toNatClampNeg)), vf_upd vq0_s x1.toNatClampNeg (FP.ddiv (vq0_s x1.toNatClampNeg) (vq0_columnScale x1.toNatClampNeg)), x1 + 1)))
def s_M_back_L2 (vq0_m : Int32) (vq0_n : Int32) (vq0_length : Int32) (vq0_where : Int32) (vq0_effort : Int32) (vq0_thrown : Int32) (vq0_at : Int32) (vq0_scaled : Int32) (vq0_solved : Int32) (vq0_second : Int32) (vq0_nm : Int32) (vq0_nn : Int32) (vq0_number : UInt64) (vq0_bad : Int32) (vq0_rowScale : Nat → UInt64) (vq0_columnScale : Nat → UInt64) (vq0_x : Nat → UInt64) (vq0_s : Nat → UInt64) (vq0_y : Nat → UInt64) (x1 : Int32) : Option (Int32 × (Nat → UInt64) × (Nat → UInt64) × (Nat → UInt64)) :=
  (loopO (fun (st : (Nat → UInt64) × (Nat → UInt64) × Int32) => s_M_back_B2 vq0_m vq0_n vq0_length vq0_where vq0_effort vq0_thrown vq0_at vq0_scaled vq0_solved vq0_second vq0_nm vq0_nn vq0_number vq0_bad vq0_rowScale vq0_columnScale vq0_y st.1 st.2.1 st.2.2) 2000 (vq0_x, vq0_s, x1)).bind fun u2 => s_M_back_L56 vq0_m vq0_n vq0_length vq0_where vq0_effort vq0_thrown vq0_at vq0_scaled vq0_solved vq0_second vq0_nm vq0_nn vq0_number vq0_bad vq0_rowScale vq0_columnScale u2.1 u2.2 vq0_y 0
def s_M_back (vq0_m : Int32) (vq0_n : Int32) (vq0_length : Int32) (vq0_where : Int32) (vq0_effort : Int32) (vq0_thrown : Int32) (vq0_at : Int32) (vq0_scaled : Int32) (vq0_solved : Int32) (vq0_second : Int32) (vq0_nm : Int32) (vq0_nn : Int32) (vq0_number : UInt64) (vq0_bad : Int32) (vq0_rowScale : Nat → UInt64) (vq0_columnScale : Nat → UInt64) (vq0_x : Nat → UInt64) (vq0_s : Nat → UInt64) (vq0_y : Nat → UInt64) : Option (Int32 × (Nat → UInt64) × (Nat → UInt64) × (Nat → UInt64)) :=
  s_M_back_L2 vq0_m vq0_n vq0_length vq0_where vq0_effort vq0_thrown vq0_at vq0_scaled vq0_solved vq0_second vq0_nm vq0_nn vq0_number vq0_bad vq0_rowScale vq0_columnScale vq0_x vq0_s vq0_y 0
set_option maxHeartbeats 4000000 in
set_option maxRecDepth 100000 in
theorem c_M_back (l : Launch) (D : va_G) (T : Nat → ClassId) (q0 : Nat) (q0_a : Nat) (q0_b : Nat) (q0_c : Nat) (q0_rowScale : Nat) (q0_columnScale : Nat) (q0_sa : Nat) (q0_sb : Nat) (q0_sc : Nat) (q0_x : Nat) (q0_s : Nat) (q0_y : Nat) (q0_p : Nat) (q0_d : Nat) (q0_h : Nat) (q0_f : Nat) (q0_mm : Nat) (q0_low : Nat) (q0_dd : Nat) (q0_r : Nat) (q0_big : Nat) (q0_dt : Nat) (q0_dx : Nat) (q0_t : Nat) (q0_cost : Nat) (q0_rowScaleNow : Nat) (q0_columnScaleNow : Nat) (q0_basic : Nat) (q0_text : Nat) (q0_turned : Nat) (q0_na : Nat) (q0_nb : Nat) (q0_nc : Nat) (vq0_m : Int32) (vq0_n : Int32) (vq0_length : Int32) (vq0_where : Int32) (vq0_effort : Int32) (vq0_thrown : Int32) (vq0_at : Int32) (vq0_scaled : Int32) (vq0_solved : Int32) (vq0_second : Int32) (vq0_nm : Int32) (vq0_nn : Int32) (vq0_number : UInt64) (vq0_bad : Int32) (vq0_rowScale : Nat → UInt64) (vq0_columnScale : Nat → UInt64) (vq0_x : Nat → UInt64) (vq0_s : Nat → UInt64) (vq0_y : Nat → UInt64) (rm : Int32 × (Nat → UInt64) × (Nat → UInt64) × (Nat → UInt64)) (h : s_M_back vq0_m vq0_n vq0_length vq0_where vq0_effort vq0_thrown vq0_at vq0_scaled vq0_solved vq0_second vq0_nm vq0_nn vq0_number vq0_bad vq0_rowScale vq0_columnScale vq0_x vq0_s vq0_y = some rm) : CtV l y_M_back (Cond.code y_M_back prog_10_method_21_code 2 none :: BIG) 0 0 D T [.ref q0] (w_M_back T q0 q0_a q0_b q0_c q0_rowScale q0_columnScale q0_sa q0_sb q0_sc q0_x q0_s q0_y q0_p q0_d q0_h q0_f q0_mm q0_low q0_dd q0_r q0_big q0_dt q0_dx q0_t q0_cost q0_rowScaleNow q0_columnScaleNow q0_basic q0_text q0_turned q0_na q0_nb q0_nc vq0_m vq0_n vq0_length vq0_where vq0_effort vq0_thrown vq0_at vq0_scaled vq0_solved vq0_second vq0_nm vq0_nn vq0_number vq0_bad vq0_rowScale vq0_columnScale vq0_x vq0_s vq0_y) (fun r => (w_M_back T q0 q0_a q0_b q0_c q0_rowScale q0_columnScale q0_sa q0_sb q0_sc q0_x q0_s q0_y q0_p q0_d q0_h q0_f q0_mm q0_low q0_dd q0_r q0_big q0_dt q0_dx q0_t q0_cost q0_rowScaleNow q0_columnScaleNow q0_basic q0_text q0_turned q0_na q0_nb q0_nc vq0_m vq0_n vq0_length vq0_where vq0_effort vq0_thrown vq0_at vq0_scaled r.1 vq0_second vq0_nm vq0_nn vq0_number vq0_bad vq0_rowScale vq0_columnScale r.2.1 r.2.2.1 r.2.2.2)) rm := by
  refine cf_entry (y := y_M_back) (cc := prog_10_method_21_code) (nL := 2) (ret := none) (fr := 0) (lo := 0) (T := T) (av := [.ref q0]) (w := (w_M_back T q0 q0_a q0_b q0_c q0_rowScale q0_columnScale q0_sa q0_sb q0_sc q0_x q0_s q0_y q0_p q0_d q0_h q0_f q0_mm q0_low q0_dd q0_r q0_big q0_dt q0_dx q0_t q0_cost q0_rowScaleNow q0_columnScaleNow q0_basic q0_text q0_turned q0_na q0_nb q0_nc vq0_m vq0_n vq0_length vq0_where vq0_effort vq0_thrown vq0_at vq0_scaled vq0_solved vq0_second vq0_nm vq0_nn vq0_number vq0_bad vq0_rowScale vq0_columnScale vq0_x vq0_s vq0_y)) (Qc := cfQv D (fun r => (w_M_back T q0 q0_a q0_b q0_c q0_rowScale q0_columnScale q0_sa q0_sb q0_sc q0_x q0_s q0_y q0_p q0_d q0_h q0_f q0_mm q0_low q0_dd q0_r q0_big q0_dt q0_dx q0_t q0_cost q0_rowScaleNow q0_columnScaleNow q0_basic q0_text q0_turned q0_na q0_nb q0_nc vq0_m vq0_n vq0_length vq0_where vq0_effort vq0_thrown vq0_at vq0_scaled r.1 vq0_second vq0_nm vq0_nn vq0_number vq0_bad vq0_rowScale vq0_columnScale r.2.1 r.2.2.1 r.2.2.2)) rm) (by decide) rfl (Nat.le_of_ble_eq_true rfl) ?_
  intro p e s m args below meth c A Q H locs ls hx hb hr hlocks hml hown hts hNW hK hA hQ hP hD hS hl
  have hown : s.vm.findClass "ConeForgeModel" = some m.cls := hown
  have hl : lv_has ls 2 [(0, .ref q0)] := hl
  have L56 : ∀ (vq0_solved : Int32) (vq0_x : Nat → UInt64) (vq0_s : Nat → UInt64) (vq0_y : Nat → UInt64) (x1 : Int32), ∀ (H : Heap) (locs : List Loc) (ls : Array Slot), va_P D CL (w_M_back T q0 q0_a q0_b q0_c q0_rowScale q0_columnScale q0_sa q0_sb q0_sc q0_x q0_s q0_y q0_p q0_d q0_h q0_f q0_mm q0_low q0_dd q0_r q0_big q0_dt q0_dx q0_t q0_cost q0_rowScaleNow q0_columnScaleNow q0_basic q0_text q0_turned q0_na q0_nb q0_nc vq0_m vq0_n vq0_length vq0_where vq0_effort vq0_thrown vq0_at vq0_scaled vq0_solved vq0_second vq0_nm vq0_nn vq0_number vq0_bad vq0_rowScale vq0_columnScale vq0_x vq0_s vq0_y) H → va_D A (w_M_back T q0 q0_a q0_b q0_c q0_rowScale q0_columnScale q0_sa q0_sb q0_sc q0_x q0_s q0_y q0_p q0_d q0_h q0_f q0_mm q0_low q0_dd q0_r q0_big q0_dt q0_dx q0_t q0_cost q0_rowScaleNow q0_columnScaleNow q0_basic q0_text q0_turned q0_na q0_nb q0_nc vq0_m vq0_n vq0_length vq0_where vq0_effort vq0_thrown vq0_at vq0_scaled vq0_solved vq0_second vq0_nm vq0_nn vq0_number vq0_bad vq0_rowScale vq0_columnScale vq0_x vq0_s vq0_y) → va_S A s.heap H locs → lv_has ls 2 [(0, .ref q0), (1, .int x1)] → s_M_back_L56 vq0_m vq0_n vq0_length vq0_where vq0_effort vq0_thrown vq0_at vq0_scaled vq0_solved vq0_second vq0_nm vq0_nn vq0_number vq0_bad vq0_rowScale vq0_columnScale vq0_x vq0_s vq0_y x1 = some rm → W p l e (rmk 0 0) s m args below meth c H locs 0 0 Q (F0 m 56 ls []) := by
    intro vq0_solved vq0_x vq0_s vq0_y x1 H locs ls hP hD hS hl h
    unfold s_M_back_L56 at h
    obtain ⟨u56, hu56, h⟩ := bi_some h
    refine loopO_W (Wh := fun (st : (Nat → UInt64) × Int32) => ∀ (H : Heap) (locs : List Loc) (ls : Array Slot), va_P D CL (w_M_back T q0 q0_a q0_b q0_c q0_rowScale q0_columnScale q0_sa q0_sb q0_sc q0_x q0_s q0_y q0_p q0_d q0_h q0_f q0_mm q0_low q0_dd q0_r q0_big q0_dt q0_dx q0_t q0_cost q0_rowScaleNow q0_columnScaleNow q0_basic q0_text q0_turned q0_na q0_nb q0_nc vq0_m vq0_n vq0_length vq0_where vq0_effort vq0_thrown vq0_at vq0_scaled vq0_solved vq0_second vq0_nm vq0_nn vq0_number vq0_bad vq0_rowScale vq0_columnScale vq0_x vq0_s st.1) H → va_D A (w_M_back T q0 q0_a q0_b q0_c q0_rowScale q0_columnScale q0_sa q0_sb q0_sc q0_x q0_s q0_y q0_p q0_d q0_h q0_f q0_mm q0_low q0_dd q0_r q0_big q0_dt q0_dx q0_t q0_cost q0_rowScaleNow q0_columnScaleNow q0_basic q0_text q0_turned q0_na q0_nb q0_nc vq0_m vq0_n vq0_length vq0_where vq0_effort vq0_thrown vq0_at vq0_scaled vq0_solved vq0_second vq0_nm vq0_nn vq0_number vq0_bad vq0_rowScale vq0_columnScale vq0_x vq0_s st.1) → va_S A s.heap H locs → lv_has ls 2 [(0, .ref q0), (1, .int st.2)] → W p l e (rmk 0 0) s m args below meth c H locs 0 0 Q (F0 m 56 ls [])) (Wx := fun (e1 : (Nat → UInt64)) => ∀ (H : Heap) (locs : List Loc) (ls : Array Slot), va_P D CL (w_M_back T q0 q0_a q0_b q0_c q0_rowScale q0_columnScale q0_sa q0_sb q0_sc q0_x q0_s q0_y q0_p q0_d q0_h q0_f q0_mm q0_low q0_dd q0_r q0_big q0_dt q0_dx q0_t q0_cost q0_rowScaleNow q0_columnScaleNow q0_basic q0_text q0_turned q0_na q0_nb q0_nc vq0_m vq0_n vq0_length vq0_where vq0_effort vq0_thrown vq0_at vq0_scaled vq0_solved vq0_second vq0_nm vq0_nn vq0_number vq0_bad vq0_rowScale vq0_columnScale vq0_x vq0_s e1) H → va_D A (w_M_back T q0 q0_a q0_b q0_c q0_rowScale q0_columnScale q0_sa q0_sb q0_sc q0_x q0_s q0_y q0_p q0_d q0_h q0_f q0_mm q0_low q0_dd q0_r q0_big q0_dt q0_dx q0_t q0_cost q0_rowScaleNow q0_columnScaleNow q0_basic q0_text q0_turned q0_na q0_nb q0_nc vq0_m vq0_n vq0_length vq0_where vq0_effort vq0_thrown vq0_at vq0_scaled vq0_solved vq0_second vq0_nm vq0_nn vq0_number vq0_bad vq0_rowScale vq0_columnScale vq0_x vq0_s e1) → va_S A s.heap H locs → lv_has ls 2 [(0, .ref q0)] → W p l e (rmk 0 0) s m args below meth c H locs 0 0 Q (F0 m 89 ls [])) ?_ 2000 _ u56 hu56 ?_ H locs ls hP hD hS hl
    · intro st rb56 h kc56 kx56 H locs ls hP hD hS hl
      obtain ⟨vq0_y, x1⟩ := st
      have h : s_M_back_B56 vq0_m vq0_n vq0_length vq0_where vq0_effort vq0_thrown vq0_at vq0_scaled vq0_solved vq0_second vq0_nm vq0_nn vq0_number vq0_bad vq0_rowScale vq0_columnScale vq0_x vq0_s vq0_y x1 = some rb56 := h
      unfold s_M_back_B56 at h
      refine lv_iload_n hx hb d_M_back_56 rfl (lv_at hl 1 rfl) ?_
      refine lv_aload_n hx hb d_M_back_57 rfl (lv_at hl 0 rfl) ?_
      refine va_get (D := D) (ci := 8) (v := .int vq0_m) (C := "ConeForgeModel") (T := FM) (N := 46) hx hb hts iM hown hK hP 0 rfl rfl 29 (by decide) (hts _ (bgc bw713)) (fun _ h9 => h9) rfl d_M_back_58 ?_
      refine lv_icmp_ge (tgt := 89) hx hb d_M_back_61 (by decide) (fun c1 => ?_) (fun c1 => ?_)
      · have h := it_t c1 h
        exact kx56 _ (Option.some.inj h).symm H locs ls hP hD hS (lv_sub hl [0] rfl)
      · have h := it_f c1 h
        refine lv_aload_n hx hb d_M_back_64 rfl (lv_at hl 0 rfl) ?_
        refine va_get (D := D) (ci := 8) (v := .ref q0_y) (C := "ConeForgeModel") (T := FM) (N := 46) hx hb hts iM hown hK hP 0 rfl rfl 10 (by decide) (hts _ (bgc bw694)) (fun _ h9 => h9) rfl d_M_back_65 ?_
        refine lv_iload_n hx hb d_M_back_68 rfl (lv_at hl 1 rfl) ?_
        refine lv_aload_n hx hb d_M_back_69 rfl (lv_at hl 0 rfl) ?_
        refine va_get (D := D) (ci := 8) (v := .ref q0_rowScale) (C := "ConeForgeModel") (T := FM) (N := 46) hx hb hts iM hown hK hP 0 rfl rfl 3 (by decide) (hts _ (bgc bw687)) (fun _ h9 => h9) rfl d_M_back_70 ?_
        refine lv_iload_n hx hb d_M_back_73 rfl (lv_at hl 1 rfl) ?_
        obtain ⟨g2, h⟩ := gd_some h
        refine va_dald hx hb hK hP 1 0 rfl rfl (inb_in g2) d_M_back_74 ?_
        refine lv_aload_n hx hb d_M_back_75 rfl (lv_at hl 0 rfl) ?_
        refine va_get (D := D) (ci := 8) (v := .ref q0_y) (C := "ConeForgeModel") (T := FM) (N := 46) hx hb hts iM hown hK hP 0 rfl rfl 10 (by decide) (hts _ (bgc bw694)) (fun _ h9 => h9) rfl d_M_back_76 ?_
        refine lv_iload_n hx hb d_M_back_79 rfl (lv_at hl 1 rfl) ?_
        obtain ⟨g3, h⟩ := gd_some h
        refine va_dald hx hb hK hP 5 0 rfl rfl (inb_in g3) d_M_back_80 ?_
        obtain ⟨g4, h⟩ := gd_some h
        refine lv_dmul hx hb d_M_back_81 (isn_n g4) ?_
        obtain ⟨g5, h⟩ := gd_some h
        refine va_dast hx hb hK hP hD hS 5 0 rfl rfl (inb_in g5) d_M_back_82 (fun H locs hP hD hS => ?_)
        have hP : va_P D CL (w_M_back T q0 q0_a q0_b q0_c q0_rowScale q0_columnScale q0_sa q0_sb q0_sc q0_x q0_s q0_y q0_p q0_d q0_h q0_f q0_mm q0_low q0_dd q0_r q0_big q0_dt q0_dx q0_t q0_cost q0_rowScaleNow q0_columnScaleNow q0_basic q0_text q0_turned q0_na q0_nb q0_nc vq0_m vq0_n vq0_length vq0_where vq0_effort vq0_thrown vq0_at vq0_scaled vq0_solved vq0_second vq0_nm vq0_nn vq0_number vq0_bad vq0_rowScale vq0_columnScale vq0_x vq0_s (vf_upd vq0_y x1.toNatClampNeg (FP.dmul (vq0_rowScale x1.toNatClampNeg) (vq0_y x1.toNatClampNeg)))) H := hP
        have hD : va_D A (w_M_back T q0 q0_a q0_b q0_c q0_rowScale q0_columnScale q0_sa q0_sb q0_sc q0_x q0_s q0_y q0_p q0_d q0_h q0_f q0_mm q0_low q0_dd q0_r q0_big q0_dt q0_dx q0_t q0_cost q0_rowScaleNow q0_columnScaleNow q0_basic q0_text q0_turned q0_na q0_nb q0_nc vq0_m vq0_n vq0_length vq0_where vq0_effort vq0_thrown vq0_at vq0_scaled vq0_solved vq0_second vq0_nm vq0_nn vq0_number vq0_bad vq0_rowScale vq0_columnScale vq0_x vq0_s (vf_upd vq0_y x1.toNatClampNeg (FP.dmul (vq0_rowScale x1.toNatClampNeg) (vq0_y x1.toNatClampNeg)))) := hD
        refine lv_iinc (v := x1 + 1) (lv' := [(1, .int (x1 + 1)), (0, .ref q0)]) hx hb d_M_back_83 hl (k := 1) rfl rfl (by decide) rfl (fun ls hl => ?_)
        refine lv_goto (tgt := 56) hx hb d_M_back_86 (by decide) ?_
        exact kc56 _ (Option.some.inj h).symm H locs ls hP hD hS (lv_sub hl [1, 0] rfl)
    · intro H locs ls hP hD hS hl
      refine lv_aload_n hx hb d_M_back_89 rfl (lv_at hl 0 rfl) ?_
      refine lv_iconst (v := 1) hx hb d_M_back_90 (by decide) ?_
      obtain ⟨g6, h⟩ := gd_some h
      refine va_put (D := D) (ci := 8) (v := .int 1) (ty := .boolean) (C := "ConeForgeModel") (T := FM) (N := 46) hx hb hts iM tM tM_ok nmM hown hK hP hD hS 0 rfl rfl 37 (by decide) (hts _ (bgc bw721)) (fun _ h9 => h9) rfl (by decide +kernel) (isb_n g6) (isb_f g6) (Nat.le_of_ble_eq_true rfl) d_M_back_91 (fun H locs hP hD hS => ?_)
      have hP : va_P D CL (w_M_back T q0 q0_a q0_b q0_c q0_rowScale q0_columnScale q0_sa q0_sb q0_sc q0_x q0_s q0_y q0_p q0_d q0_h q0_f q0_mm q0_low q0_dd q0_r q0_big q0_dt q0_dx q0_t q0_cost q0_rowScaleNow q0_columnScaleNow q0_basic q0_text q0_turned q0_na q0_nb q0_nc vq0_m vq0_n vq0_length vq0_where vq0_effort vq0_thrown vq0_at vq0_scaled 1 vq0_second vq0_nm vq0_nn vq0_number vq0_bad vq0_rowScale vq0_columnScale vq0_x vq0_s u56) H := hP
      have hD : va_D A (w_M_back T q0 q0_a q0_b q0_c q0_rowScale q0_columnScale q0_sa q0_sb q0_sc q0_x q0_s q0_y q0_p q0_d q0_h q0_f q0_mm q0_low q0_dd q0_r q0_big q0_dt q0_dx q0_t q0_cost q0_rowScaleNow q0_columnScaleNow q0_basic q0_text q0_turned q0_na q0_nb q0_nc vq0_m vq0_n vq0_length vq0_where vq0_effort vq0_thrown vq0_at vq0_scaled 1 vq0_second vq0_nm vq0_nn vq0_number vq0_bad vq0_rowScale vq0_columnScale vq0_x vq0_s u56) := hD
      exact rtV hx hb hr hlocks hQ (Option.some.inj h) hP hS d_M_back_94 rfl
  have L2 : ∀ (vq0_solved : Int32) (vq0_x : Nat → UInt64) (vq0_s : Nat → UInt64) (vq0_y : Nat → UInt64) (x1 : Int32), ∀ (H : Heap) (locs : List Loc) (ls : Array Slot), va_P D CL (w_M_back T q0 q0_a q0_b q0_c q0_rowScale q0_columnScale q0_sa q0_sb q0_sc q0_x q0_s q0_y q0_p q0_d q0_h q0_f q0_mm q0_low q0_dd q0_r q0_big q0_dt q0_dx q0_t q0_cost q0_rowScaleNow q0_columnScaleNow q0_basic q0_text q0_turned q0_na q0_nb q0_nc vq0_m vq0_n vq0_length vq0_where vq0_effort vq0_thrown vq0_at vq0_scaled vq0_solved vq0_second vq0_nm vq0_nn vq0_number vq0_bad vq0_rowScale vq0_columnScale vq0_x vq0_s vq0_y) H → va_D A (w_M_back T q0 q0_a q0_b q0_c q0_rowScale q0_columnScale q0_sa q0_sb q0_sc q0_x q0_s q0_y q0_p q0_d q0_h q0_f q0_mm q0_low q0_dd q0_r q0_big q0_dt q0_dx q0_t q0_cost q0_rowScaleNow q0_columnScaleNow q0_basic q0_text q0_turned q0_na q0_nb q0_nc vq0_m vq0_n vq0_length vq0_where vq0_effort vq0_thrown vq0_at vq0_scaled vq0_solved vq0_second vq0_nm vq0_nn vq0_number vq0_bad vq0_rowScale vq0_columnScale vq0_x vq0_s vq0_y) → va_S A s.heap H locs → lv_has ls 2 [(0, .ref q0), (1, .int x1)] → s_M_back_L2 vq0_m vq0_n vq0_length vq0_where vq0_effort vq0_thrown vq0_at vq0_scaled vq0_solved vq0_second vq0_nm vq0_nn vq0_number vq0_bad vq0_rowScale vq0_columnScale vq0_x vq0_s vq0_y x1 = some rm → W p l e (rmk 0 0) s m args below meth c H locs 0 0 Q (F0 m 2 ls []) := by
    intro vq0_solved vq0_x vq0_s vq0_y x1 H locs ls hP hD hS hl h
    unfold s_M_back_L2 at h
    obtain ⟨u2, hu2, h⟩ := bi_some h
    refine loopO_W (Wh := fun (st : (Nat → UInt64) × (Nat → UInt64) × Int32) => ∀ (H : Heap) (locs : List Loc) (ls : Array Slot), va_P D CL (w_M_back T q0 q0_a q0_b q0_c q0_rowScale q0_columnScale q0_sa q0_sb q0_sc q0_x q0_s q0_y q0_p q0_d q0_h q0_f q0_mm q0_low q0_dd q0_r q0_big q0_dt q0_dx q0_t q0_cost q0_rowScaleNow q0_columnScaleNow q0_basic q0_text q0_turned q0_na q0_nb q0_nc vq0_m vq0_n vq0_length vq0_where vq0_effort vq0_thrown vq0_at vq0_scaled vq0_solved vq0_second vq0_nm vq0_nn vq0_number vq0_bad vq0_rowScale vq0_columnScale st.1 st.2.1 vq0_y) H → va_D A (w_M_back T q0 q0_a q0_b q0_c q0_rowScale q0_columnScale q0_sa q0_sb q0_sc q0_x q0_s q0_y q0_p q0_d q0_h q0_f q0_mm q0_low q0_dd q0_r q0_big q0_dt q0_dx q0_t q0_cost q0_rowScaleNow q0_columnScaleNow q0_basic q0_text q0_turned q0_na q0_nb q0_nc vq0_m vq0_n vq0_length vq0_where vq0_effort vq0_thrown vq0_at vq0_scaled vq0_solved vq0_second vq0_nm vq0_nn vq0_number vq0_bad vq0_rowScale vq0_columnScale st.1 st.2.1 vq0_y) → va_S A s.heap H locs → lv_has ls 2 [(0, .ref q0), (1, .int st.2.2)] → W p l e (rmk 0 0) s m args below meth c H locs 0 0 Q (F0 m 2 ls [])) (Wx := fun (e1 : (Nat → UInt64) × (Nat → UInt64)) => ∀ (H : Heap) (locs : List Loc) (ls : Array Slot), va_P D CL (w_M_back T q0 q0_a q0_b q0_c q0_rowScale q0_columnScale q0_sa q0_sb q0_sc q0_x q0_s q0_y q0_p q0_d q0_h q0_f q0_mm q0_low q0_dd q0_r q0_big q0_dt q0_dx q0_t q0_cost q0_rowScaleNow q0_columnScaleNow q0_basic q0_text q0_turned q0_na q0_nb q0_nc vq0_m vq0_n vq0_length vq0_where vq0_effort vq0_thrown vq0_at vq0_scaled vq0_solved vq0_second vq0_nm vq0_nn vq0_number vq0_bad vq0_rowScale vq0_columnScale e1.1 e1.2 vq0_y) H → va_D A (w_M_back T q0 q0_a q0_b q0_c q0_rowScale q0_columnScale q0_sa q0_sb q0_sc q0_x q0_s q0_y q0_p q0_d q0_h q0_f q0_mm q0_low q0_dd q0_r q0_big q0_dt q0_dx q0_t q0_cost q0_rowScaleNow q0_columnScaleNow q0_basic q0_text q0_turned q0_na q0_nb q0_nc vq0_m vq0_n vq0_length vq0_where vq0_effort vq0_thrown vq0_at vq0_scaled vq0_solved vq0_second vq0_nm vq0_nn vq0_number vq0_bad vq0_rowScale vq0_columnScale e1.1 e1.2 vq0_y) → va_S A s.heap H locs → lv_has ls 2 [(0, .ref q0)] → W p l e (rmk 0 0) s m args below meth c H locs 0 0 Q (F0 m 54 ls [])) ?_ 2000 _ u2 hu2 ?_ H locs ls hP hD hS hl
    · intro st rb2 h kc2 kx2 H locs ls hP hD hS hl
      obtain ⟨vq0_x, vq0_s, x1⟩ := st
      have h : s_M_back_B2 vq0_m vq0_n vq0_length vq0_where vq0_effort vq0_thrown vq0_at vq0_scaled vq0_solved vq0_second vq0_nm vq0_nn vq0_number vq0_bad vq0_rowScale vq0_columnScale vq0_y vq0_x vq0_s x1 = some rb2 := h
      unfold s_M_back_B2 at h
      refine lv_iload_n hx hb d_M_back_2 rfl (lv_at hl 1 rfl) ?_
      refine lv_aload_n hx hb d_M_back_3 rfl (lv_at hl 0 rfl) ?_
      refine va_get (D := D) (ci := 8) (v := .int vq0_n) (C := "ConeForgeModel") (T := FM) (N := 46) hx hb hts iM hown hK hP 0 rfl rfl 30 (by decide) (hts _ (bgc bw714)) (fun _ h9 => h9) rfl d_M_back_4 ?_
      refine lv_icmp_ge (tgt := 54) hx hb d_M_back_7 (by decide) (fun c7 => ?_) (fun c7 => ?_)
      · have h := it_t c7 h
        exact kx2 _ (Option.some.inj h).symm H locs ls hP hD hS (lv_sub hl [0] rfl)
      · have h := it_f c7 h
        refine lv_aload_n hx hb d_M_back_10 rfl (lv_at hl 0 rfl) ?_
        refine va_get (D := D) (ci := 8) (v := .ref q0_x) (C := "ConeForgeModel") (T := FM) (N := 46) hx hb hts iM hown hK hP 0 rfl rfl 8 (by decide) (hts _ (bgc bw692)) (fun _ h9 => h9) rfl d_M_back_11 ?_
        refine lv_iload_n hx hb d_M_back_14 rfl (lv_at hl 1 rfl) ?_
        refine lv_aload_n hx hb d_M_back_15 rfl (lv_at hl 0 rfl) ?_
        refine va_get (D := D) (ci := 8) (v := .ref q0_columnScale) (C := "ConeForgeModel") (T := FM) (N := 46) hx hb hts iM hown hK hP 0 rfl rfl 4 (by decide) (hts _ (bgc bw688)) (fun _ h9 => h9) rfl d_M_back_16 ?_
        refine lv_iload_n hx hb d_M_back_19 rfl (lv_at hl 1 rfl) ?_
        obtain ⟨g8, h⟩ := gd_some h
        refine va_dald hx hb hK hP 2 0 rfl rfl (inb_in g8) d_M_back_20 ?_
        refine lv_aload_n hx hb d_M_back_21 rfl (lv_at hl 0 rfl) ?_
        refine va_get (D := D) (ci := 8) (v := .ref q0_x) (C := "ConeForgeModel") (T := FM) (N := 46) hx hb hts iM hown hK hP 0 rfl rfl 8 (by decide) (hts _ (bgc bw692)) (fun _ h9 => h9) rfl d_M_back_22 ?_
        refine lv_iload_n hx hb d_M_back_25 rfl (lv_at hl 1 rfl) ?_
        obtain ⟨g9, h⟩ := gd_some h
        refine va_dald hx hb hK hP 3 0 rfl rfl (inb_in g9) d_M_back_26 ?_
        obtain ⟨g10, h⟩ := gd_some h
        refine lv_dmul hx hb d_M_back_27 (isn_n g10) ?_
        obtain ⟨g11, h⟩ := gd_some h
        refine va_dast hx hb hK hP hD hS 3 0 rfl rfl (inb_in g11) d_M_back_28 (fun H locs hP hD hS => ?_)
        have hP : va_P D CL (w_M_back T q0 q0_a q0_b q0_c q0_rowScale q0_columnScale q0_sa q0_sb q0_sc q0_x q0_s q0_y q0_p q0_d q0_h q0_f q0_mm q0_low q0_dd q0_r q0_big q0_dt q0_dx q0_t q0_cost q0_rowScaleNow q0_columnScaleNow q0_basic q0_text q0_turned q0_na q0_nb q0_nc vq0_m vq0_n vq0_length vq0_where vq0_effort vq0_thrown vq0_at vq0_scaled vq0_solved vq0_second vq0_nm vq0_nn vq0_number vq0_bad vq0_rowScale vq0_columnScale (vf_upd vq0_x x1.toNatClampNeg (FP.dmul (vq0_columnScale x1.toNatClampNeg) (vq0_x x1.toNatClampNeg))) vq0_s vq0_y) H := hP
        have hD : va_D A (w_M_back T q0 q0_a q0_b q0_c q0_rowScale q0_columnScale q0_sa q0_sb q0_sc q0_x q0_s q0_y q0_p q0_d q0_h q0_f q0_mm q0_low q0_dd q0_r q0_big q0_dt q0_dx q0_t q0_cost q0_rowScaleNow q0_columnScaleNow q0_basic q0_text q0_turned q0_na q0_nb q0_nc vq0_m vq0_n vq0_length vq0_where vq0_effort vq0_thrown vq0_at vq0_scaled vq0_solved vq0_second vq0_nm vq0_nn vq0_number vq0_bad vq0_rowScale vq0_columnScale (vf_upd vq0_x x1.toNatClampNeg (FP.dmul (vq0_columnScale x1.toNatClampNeg) (vq0_x x1.toNatClampNeg))) vq0_s vq0_y) := hD
        refine lv_aload_n hx hb d_M_back_29 rfl (lv_at hl 0 rfl) ?_
        refine va_get (D := D) (ci := 8) (v := .ref q0_s) (C := "ConeForgeModel") (T := FM) (N := 46) hx hb hts iM hown hK hP 0 rfl rfl 9 (by decide) (hts _ (bgc bw693)) (fun _ h9 => h9) rfl d_M_back_30 ?_
        refine lv_iload_n hx hb d_M_back_33 rfl (lv_at hl 1 rfl) ?_
        refine lv_aload_n hx hb d_M_back_34 rfl (lv_at hl 0 rfl) ?_
        refine va_get (D := D) (ci := 8) (v := .ref q0_s) (C := "ConeForgeModel") (T := FM) (N := 46) hx hb hts iM hown hK hP 0 rfl rfl 9 (by decide) (hts _ (bgc bw693)) (fun _ h9 => h9) rfl d_M_back_35 ?_
        refine lv_iload_n hx hb d_M_back_38 rfl (lv_at hl 1 rfl) ?_
        obtain ⟨g12, h⟩ := gd_some h
        refine va_dald hx hb hK hP 4 0 rfl rfl (inb_in g12) d_M_back_39 ?_
        refine lv_aload_n hx hb d_M_back_40 rfl (lv_at hl 0 rfl) ?_
        refine va_get (D := D) (ci := 8) (v := .ref q0_columnScale) (C := "ConeForgeModel") (T := FM) (N := 46) hx hb hts iM hown hK hP 0 rfl rfl 4 (by decide) (hts _ (bgc bw688)) (fun _ h9 => h9) rfl d_M_back_41 ?_
        refine lv_iload_n hx hb d_M_back_44 rfl (lv_at hl 1 rfl) ?_
        obtain ⟨g13, h⟩ := gd_some h
        refine va_dald hx hb hK hP 2 0 rfl rfl (inb_in g13) d_M_back_45 ?_
        obtain ⟨g14, h⟩ := gd_some h
        refine lv_ddiv hx hb d_M_back_46 (isn_n g14) ?_
        obtain ⟨g15, h⟩ := gd_some h
        refine va_dast hx hb hK hP hD hS 4 0 rfl rfl (inb_in g15) d_M_back_47 (fun H locs hP hD hS => ?_)
        have hP : va_P D CL (w_M_back T q0 q0_a q0_b q0_c q0_rowScale q0_columnScale q0_sa q0_sb q0_sc q0_x q0_s q0_y q0_p q0_d q0_h q0_f q0_mm q0_low q0_dd q0_r q0_big q0_dt q0_dx q0_t q0_cost q0_rowScaleNow q0_columnScaleNow q0_basic q0_text q0_turned q0_na q0_nb q0_nc vq0_m vq0_n vq0_length vq0_where vq0_effort vq0_thrown vq0_at vq0_scaled vq0_solved vq0_second vq0_nm vq0_nn vq0_number vq0_bad vq0_rowScale vq0_columnScale (vf_upd vq0_x x1.toNatClampNeg (FP.dmul (vq0_columnScale x1.toNatClampNeg) (vq0_x x1.toNatClampNeg))) (vf_upd vq0_s x1.toNatClampNeg (FP.ddiv (vq0_s x1.toNatClampNeg) (vq0_columnScale x1.toNatClampNeg))) vq0_y) H := hP
        have hD : va_D A (w_M_back T q0 q0_a q0_b q0_c q0_rowScale q0_columnScale q0_sa q0_sb q0_sc q0_x q0_s q0_y q0_p q0_d q0_h q0_f q0_mm q0_low q0_dd q0_r q0_big q0_dt q0_dx q0_t q0_cost q0_rowScaleNow q0_columnScaleNow q0_basic q0_text q0_turned q0_na q0_nb q0_nc vq0_m vq0_n vq0_length vq0_where vq0_effort vq0_thrown vq0_at vq0_scaled vq0_solved vq0_second vq0_nm vq0_nn vq0_number vq0_bad vq0_rowScale vq0_columnScale (vf_upd vq0_x x1.toNatClampNeg (FP.dmul (vq0_columnScale x1.toNatClampNeg) (vq0_x x1.toNatClampNeg))) (vf_upd vq0_s x1.toNatClampNeg (FP.ddiv (vq0_s x1.toNatClampNeg) (vq0_columnScale x1.toNatClampNeg))) vq0_y) := hD
        refine lv_iinc (v := x1 + 1) (lv' := [(1, .int (x1 + 1)), (0, .ref q0)]) hx hb d_M_back_48 hl (k := 1) rfl rfl (by decide) rfl (fun ls hl => ?_)
        refine lv_goto (tgt := 2) hx hb d_M_back_51 (by decide) ?_
        exact kc2 _ (Option.some.inj h).symm H locs ls hP hD hS (lv_sub hl [1, 0] rfl)
    · intro H locs ls hP hD hS hl
      refine lv_iconst (v := 0) hx hb d_M_back_54 (by decide) ?_
      refine lv_istore_n (lv' := [(1, .int 0), (0, .ref q0)]) hx hb d_M_back_55 rfl hl (by decide) rfl (fun ls hl => ?_)
      exact L56 vq0_solved u2.1 u2.2 vq0_y 0 H locs ls hP hD hS (lv_sub hl [1, 0] rfl) h
  unfold s_M_back at h
  refine lv_iconst (v := 0) hx hb d_M_back_0 (by decide) ?_
  refine lv_istore_n (lv' := [(1, .int 0), (0, .ref q0)]) hx hb d_M_back_1 rfl hl (by decide) rfl (fun ls hl => ?_)
  exact L2 vq0_solved vq0_x vq0_s vq0_y 0 H locs ls hP hD hS (lv_sub hl [1, 0] rfl) h
theorem d_M_measure_0 : decode prog_10_method_22_code 0 = .ok (.dconst 0, 1) := by decide +kernel
theorem d_M_measure_1 : decode prog_10_method_22_code 1 = .ok (.dstore_n 1, 1) := by decide +kernel
theorem d_M_measure_2 : decode prog_10_method_22_code 2 = .ok (.iconst 0, 1) := by decide +kernel
theorem d_M_measure_3 : decode prog_10_method_22_code 3 = .ok (.istore_n 3, 1) := by decide +kernel
theorem d_M_measure_4 : decode prog_10_method_22_code 4 = .ok (.iload_n 3, 1) := by decide +kernel
theorem d_M_measure_5 : decode prog_10_method_22_code 5 = .ok (.aload_n 0, 1) := by decide +kernel
theorem d_M_measure_6 : decode prog_10_method_22_code 6 = .ok (.getfield 99, 3) := by decide +kernel
theorem d_M_measure_9 : decode prog_10_method_22_code 9 = .ok (.if_icmp .ge 72, 3) := by decide +kernel
theorem d_M_measure_12 : decode prog_10_method_22_code 12 = .ok (.aload_n 0, 1) := by decide +kernel
theorem d_M_measure_13 : decode prog_10_method_22_code 13 = .ok (.getfield 43, 3) := by decide +kernel
theorem d_M_measure_16 : decode prog_10_method_22_code 16 = .ok (.iload_n 3, 1) := by decide +kernel
theorem d_M_measure_17 : decode prog_10_method_22_code 17 = .ok (.aload_n 0, 1) := by decide +kernel
theorem d_M_measure_18 : decode prog_10_method_22_code 18 = .ok (.getfield 28, 3) := by decide +kernel
theorem d_M_measure_21 : decode prog_10_method_22_code 21 = .ok (.iload_n 3, 1) := by decide +kernel
theorem d_M_measure_22 : decode prog_10_method_22_code 22 = .ok (.daload, 1) := by decide +kernel
theorem d_M_measure_23 : decode prog_10_method_22_code 23 = .ok (.dastore, 1) := by decide +kernel
theorem d_M_measure_24 : decode prog_10_method_22_code 24 = .ok (.iconst 0, 1) := by decide +kernel
theorem d_M_measure_25 : decode prog_10_method_22_code 25 = .ok (.istore 4, 2) := by decide +kernel
theorem d_M_measure_27 : decode prog_10_method_22_code 27 = .ok (.iload 4, 2) := by decide +kernel
theorem d_M_measure_29 : decode prog_10_method_22_code 29 = .ok (.aload_n 0, 1) := by decide +kernel
theorem d_M_measure_30 : decode prog_10_method_22_code 30 = .ok (.getfield 103, 3) := by decide +kernel
theorem d_M_measure_33 : decode prog_10_method_22_code 33 = .ok (.if_icmp .ge 42, 3) := by decide +kernel
theorem d_M_measure_36 : decode prog_10_method_22_code 36 = .ok (.aload_n 0, 1) := by decide +kernel
theorem d_M_measure_37 : decode prog_10_method_22_code 37 = .ok (.getfield 43, 3) := by decide +kernel
theorem d_M_measure_40 : decode prog_10_method_22_code 40 = .ok (.iload_n 3, 1) := by decide +kernel
theorem d_M_measure_41 : decode prog_10_method_22_code 41 = .ok (.aload_n 0, 1) := by decide +kernel
theorem d_M_measure_42 : decode prog_10_method_22_code 42 = .ok (.getfield 43, 3) := by decide +kernel
theorem d_M_measure_45 : decode prog_10_method_22_code 45 = .ok (.iload_n 3, 1) := by decide +kernel
theorem d_M_measure_46 : decode prog_10_method_22_code 46 = .ok (.daload, 1) := by decide +kernel
theorem d_M_measure_47 : decode prog_10_method_22_code 47 = .ok (.aload_n 0, 1) := by decide +kernel
theorem d_M_measure_48 : decode prog_10_method_22_code 48 = .ok (.getfield 25, 3) := by decide +kernel
theorem d_M_measure_51 : decode prog_10_method_22_code 51 = .ok (.bipush 8, 2) := by decide +kernel
theorem d_M_measure_53 : decode prog_10_method_22_code 53 = .ok (.iload_n 3, 1) := by decide +kernel
theorem d_M_measure_54 : decode prog_10_method_22_code 54 = .ok (.imul, 1) := by decide +kernel
theorem d_M_measure_55 : decode prog_10_method_22_code 55 = .ok (.iload 4, 2) := by decide +kernel
theorem d_M_measure_57 : decode prog_10_method_22_code 57 = .ok (.iadd, 1) := by decide +kernel
theorem d_M_measure_58 : decode prog_10_method_22_code 58 = .ok (.daload, 1) := by decide +kernel
theorem d_M_measure_59 : decode prog_10_method_22_code 59 = .ok (.aload_n 0, 1) := by decide +kernel
theorem d_M_measure_60 : decode prog_10_method_22_code 60 = .ok (.getfield 34, 3) := by decide +kernel
theorem d_M_measure_63 : decode prog_10_method_22_code 63 = .ok (.iload 4, 2) := by decide +kernel
theorem d_M_measure_65 : decode prog_10_method_22_code 65 = .ok (.daload, 1) := by decide +kernel
theorem d_M_measure_66 : decode prog_10_method_22_code 66 = .ok (.dmul, 1) := by decide +kernel
theorem d_M_measure_67 : decode prog_10_method_22_code 67 = .ok (.dsub, 1) := by decide +kernel
theorem d_M_measure_68 : decode prog_10_method_22_code 68 = .ok (.dastore, 1) := by decide +kernel
theorem d_M_measure_69 : decode prog_10_method_22_code 69 = .ok (.iinc 4 1, 3) := by decide +kernel
theorem d_M_measure_72 : decode prog_10_method_22_code 72 = .ok (.goto (-45), 3) := by decide +kernel
theorem d_M_measure_75 : decode prog_10_method_22_code 75 = .ok (.iinc 3 1, 3) := by decide +kernel
theorem d_M_measure_78 : decode prog_10_method_22_code 78 = .ok (.goto (-74), 3) := by decide +kernel
theorem d_M_measure_81 : decode prog_10_method_22_code 81 = .ok (.iconst 0, 1) := by decide +kernel
theorem d_M_measure_82 : decode prog_10_method_22_code 82 = .ok (.istore_n 3, 1) := by decide +kernel
theorem d_M_measure_83 : decode prog_10_method_22_code 83 = .ok (.iload_n 3, 1) := by decide +kernel
theorem d_M_measure_84 : decode prog_10_method_22_code 84 = .ok (.aload_n 0, 1) := by decide +kernel
theorem d_M_measure_85 : decode prog_10_method_22_code 85 = .ok (.getfield 103, 3) := by decide +kernel
theorem d_M_measure_88 : decode prog_10_method_22_code 88 = .ok (.if_icmp .ge 107, 3) := by decide +kernel
theorem d_M_measure_91 : decode prog_10_method_22_code 91 = .ok (.aload_n 0, 1) := by decide +kernel
theorem d_M_measure_92 : decode prog_10_method_22_code 92 = .ok (.getfield 46, 3) := by decide +kernel
theorem d_M_measure_95 : decode prog_10_method_22_code 95 = .ok (.iload_n 3, 1) := by decide +kernel
theorem d_M_measure_96 : decode prog_10_method_22_code 96 = .ok (.aload_n 0, 1) := by decide +kernel
theorem d_M_measure_97 : decode prog_10_method_22_code 97 = .ok (.getfield 31, 3) := by decide +kernel
theorem d_M_measure_100 : decode prog_10_method_22_code 100 = .ok (.iload_n 3, 1) := by decide +kernel
theorem d_M_measure_101 : decode prog_10_method_22_code 101 = .ok (.daload, 1) := by decide +kernel
theorem d_M_measure_102 : decode prog_10_method_22_code 102 = .ok (.dastore, 1) := by decide +kernel
theorem d_M_measure_103 : decode prog_10_method_22_code 103 = .ok (.iconst 0, 1) := by decide +kernel
theorem d_M_measure_104 : decode prog_10_method_22_code 104 = .ok (.istore 4, 2) := by decide +kernel
theorem d_M_measure_106 : decode prog_10_method_22_code 106 = .ok (.iload 4, 2) := by decide +kernel
theorem d_M_measure_108 : decode prog_10_method_22_code 108 = .ok (.aload_n 0, 1) := by decide +kernel
theorem d_M_measure_109 : decode prog_10_method_22_code 109 = .ok (.getfield 99, 3) := by decide +kernel
theorem d_M_measure_112 : decode prog_10_method_22_code 112 = .ok (.if_icmp .ge 42, 3) := by decide +kernel
theorem d_M_measure_115 : decode prog_10_method_22_code 115 = .ok (.aload_n 0, 1) := by decide +kernel
theorem d_M_measure_116 : decode prog_10_method_22_code 116 = .ok (.getfield 46, 3) := by decide +kernel
theorem d_M_measure_119 : decode prog_10_method_22_code 119 = .ok (.iload_n 3, 1) := by decide +kernel
theorem d_M_measure_120 : decode prog_10_method_22_code 120 = .ok (.aload_n 0, 1) := by decide +kernel
theorem d_M_measure_121 : decode prog_10_method_22_code 121 = .ok (.getfield 46, 3) := by decide +kernel
theorem d_M_measure_124 : decode prog_10_method_22_code 124 = .ok (.iload_n 3, 1) := by decide +kernel
theorem d_M_measure_125 : decode prog_10_method_22_code 125 = .ok (.daload, 1) := by decide +kernel
theorem d_M_measure_126 : decode prog_10_method_22_code 126 = .ok (.aload_n 0, 1) := by decide +kernel
theorem d_M_measure_127 : decode prog_10_method_22_code 127 = .ok (.getfield 25, 3) := by decide +kernel
theorem d_M_measure_130 : decode prog_10_method_22_code 130 = .ok (.bipush 8, 2) := by decide +kernel
theorem d_M_measure_132 : decode prog_10_method_22_code 132 = .ok (.iload 4, 2) := by decide +kernel
theorem d_M_measure_134 : decode prog_10_method_22_code 134 = .ok (.imul, 1) := by decide +kernel
theorem d_M_measure_135 : decode prog_10_method_22_code 135 = .ok (.iload_n 3, 1) := by decide +kernel
theorem d_M_measure_136 : decode prog_10_method_22_code 136 = .ok (.iadd, 1) := by decide +kernel
theorem d_M_measure_137 : decode prog_10_method_22_code 137 = .ok (.daload, 1) := by decide +kernel
theorem d_M_measure_138 : decode prog_10_method_22_code 138 = .ok (.aload_n 0, 1) := by decide +kernel
theorem d_M_measure_139 : decode prog_10_method_22_code 139 = .ok (.getfield 40, 3) := by decide +kernel
theorem d_M_measure_142 : decode prog_10_method_22_code 142 = .ok (.iload 4, 2) := by decide +kernel
theorem d_M_measure_144 : decode prog_10_method_22_code 144 = .ok (.daload, 1) := by decide +kernel
theorem d_M_measure_145 : decode prog_10_method_22_code 145 = .ok (.dmul, 1) := by decide +kernel
theorem d_M_measure_146 : decode prog_10_method_22_code 146 = .ok (.dsub, 1) := by decide +kernel
theorem d_M_measure_147 : decode prog_10_method_22_code 147 = .ok (.dastore, 1) := by decide +kernel
theorem d_M_measure_148 : decode prog_10_method_22_code 148 = .ok (.iinc 4 1, 3) := by decide +kernel
theorem d_M_measure_151 : decode prog_10_method_22_code 151 = .ok (.goto (-45), 3) := by decide +kernel
theorem d_M_measure_154 : decode prog_10_method_22_code 154 = .ok (.aload_n 0, 1) := by decide +kernel
theorem d_M_measure_155 : decode prog_10_method_22_code 155 = .ok (.getfield 46, 3) := by decide +kernel
theorem d_M_measure_158 : decode prog_10_method_22_code 158 = .ok (.iload_n 3, 1) := by decide +kernel
theorem d_M_measure_159 : decode prog_10_method_22_code 159 = .ok (.aload_n 0, 1) := by decide +kernel
theorem d_M_measure_160 : decode prog_10_method_22_code 160 = .ok (.getfield 46, 3) := by decide +kernel
theorem d_M_measure_163 : decode prog_10_method_22_code 163 = .ok (.iload_n 3, 1) := by decide +kernel
theorem d_M_measure_164 : decode prog_10_method_22_code 164 = .ok (.daload, 1) := by decide +kernel
theorem d_M_measure_165 : decode prog_10_method_22_code 165 = .ok (.aload_n 0, 1) := by decide +kernel
theorem d_M_measure_166 : decode prog_10_method_22_code 166 = .ok (.getfield 37, 3) := by decide +kernel
theorem d_M_measure_169 : decode prog_10_method_22_code 169 = .ok (.iload_n 3, 1) := by decide +kernel
theorem d_M_measure_170 : decode prog_10_method_22_code 170 = .ok (.daload, 1) := by decide +kernel
theorem d_M_measure_171 : decode prog_10_method_22_code 171 = .ok (.dsub, 1) := by decide +kernel
theorem d_M_measure_172 : decode prog_10_method_22_code 172 = .ok (.dastore, 1) := by decide +kernel
theorem d_M_measure_173 : decode prog_10_method_22_code 173 = .ok (.dload_n 1, 1) := by decide +kernel
theorem d_M_measure_174 : decode prog_10_method_22_code 174 = .ok (.aload_n 0, 1) := by decide +kernel
theorem d_M_measure_175 : decode prog_10_method_22_code 175 = .ok (.getfield 34, 3) := by decide +kernel
theorem d_M_measure_178 : decode prog_10_method_22_code 178 = .ok (.iload_n 3, 1) := by decide +kernel
theorem d_M_measure_179 : decode prog_10_method_22_code 179 = .ok (.daload, 1) := by decide +kernel
theorem d_M_measure_180 : decode prog_10_method_22_code 180 = .ok (.aload_n 0, 1) := by decide +kernel
theorem d_M_measure_181 : decode prog_10_method_22_code 181 = .ok (.getfield 37, 3) := by decide +kernel
theorem d_M_measure_184 : decode prog_10_method_22_code 184 = .ok (.iload_n 3, 1) := by decide +kernel
theorem d_M_measure_185 : decode prog_10_method_22_code 185 = .ok (.daload, 1) := by decide +kernel
theorem d_M_measure_186 : decode prog_10_method_22_code 186 = .ok (.dmul, 1) := by decide +kernel
theorem d_M_measure_187 : decode prog_10_method_22_code 187 = .ok (.dadd, 1) := by decide +kernel
theorem d_M_measure_188 : decode prog_10_method_22_code 188 = .ok (.dstore_n 1, 1) := by decide +kernel
theorem d_M_measure_189 : decode prog_10_method_22_code 189 = .ok (.iinc 3 1, 3) := by decide +kernel
theorem d_M_measure_192 : decode prog_10_method_22_code 192 = .ok (.goto (-109), 3) := by decide +kernel
theorem d_M_measure_195 : decode prog_10_method_22_code 195 = .ok (.dload_n 1, 1) := by decide +kernel
theorem d_M_measure_196 : decode prog_10_method_22_code 196 = .ok (.dreturn, 1) := by decide +kernel
abbrev w_M_measure (T : Nat → ClassId) (q0 : Nat) (q0_a : Nat) (q0_b : Nat) (q0_c : Nat) (q0_rowScale : Nat) (q0_columnScale : Nat) (q0_sa : Nat) (q0_sb : Nat) (q0_sc : Nat) (q0_x : Nat) (q0_s : Nat) (q0_y : Nat) (q0_p : Nat) (q0_d : Nat) (q0_h : Nat) (q0_f : Nat) (q0_mm : Nat) (q0_low : Nat) (q0_dd : Nat) (q0_r : Nat) (q0_big : Nat) (q0_dt : Nat) (q0_dx : Nat) (q0_t : Nat) (q0_cost : Nat) (q0_rowScaleNow : Nat) (q0_columnScaleNow : Nat) (q0_basic : Nat) (q0_text : Nat) (q0_turned : Nat) (q0_na : Nat) (q0_nb : Nat) (q0_nc : Nat) (vq0_m : Int32) (vq0_n : Int32) (vq0_length : Int32) (vq0_where : Int32) (vq0_effort : Int32) (vq0_thrown : Int32) (vq0_at : Int32) (vq0_scaled : Int32) (vq0_solved : Int32) (vq0_second : Int32) (vq0_nm : Int32) (vq0_nn : Int32) (vq0_number : UInt64) (vq0_bad : Int32) (vq0_sa : Nat → UInt64) (vq0_sb : Nat → UInt64) (vq0_sc : Nat → UInt64) (vq0_x : Nat → UInt64) (vq0_s : Nat → UInt64) (vq0_y : Nat → UInt64) (vq0_p : Nat → UInt64) (vq0_d : Nat → UInt64) : va_W := [(q0, .inr (8, [.ref q0_a, .ref q0_b, .ref q0_c, .ref q0_rowScale, .ref q0_columnScale, .ref q0_sa, .ref q0_sb, .ref q0_sc, .ref q0_x, .ref q0_s, .ref q0_y, .ref q0_p, .ref q0_d, .ref q0_h, .ref q0_f, .ref q0_mm, .ref q0_low, .ref q0_dd, .ref q0_r, .ref q0_big, .ref q0_dt, .ref q0_dx, .ref q0_t, .ref q0_cost, .ref q0_rowScaleNow, .ref q0_columnScaleNow, .ref q0_basic, .ref q0_text, .ref q0_turned, .int vq0_m, .int vq0_n, .int vq0_length, .int vq0_where, .int vq0_effort, .int vq0_thrown, .int vq0_at, .int vq0_scaled, .int vq0_solved, .int vq0_second, .ref q0_na, .ref q0_nb, .ref q0_nc, .int vq0_nm, .int vq0_nn, .double vq0_number, .int vq0_bad])), (q0_sa, .inl (T 0, 40, .inr (.inr (.inr (.inl vq0_sa))))), (q0_sb, .inl (T 0, 5, .inr (.inr (.inr (.inl vq0_sb))))), (q0_sc, .inl (T 0, 8, .inr (.inr (.inr (.inl vq0_sc))))), (q0_x, .inl (T 0, 8, .inr (.inr (.inr (.inl vq0_x))))), (q0_s, .inl (T 0, 8, .inr (.inr (.inr (.inl vq0_s))))), (q0_y, .inl (T 0, 5, .inr (.inr (.inr (.inl vq0_y))))), (q0_p, .inl (T 0, 5, .inr (.inr (.inr (.inl vq0_p))))), (q0_d, .inl (T 0, 8, .inr (.inr (.inr (.inl vq0_d)))))]
def s_M_measure_B106 (vq0_m : Int32) (vq0_n : Int32) (vq0_length : Int32) (vq0_where : Int32) (vq0_effort : Int32) (vq0_thrown : Int32) (vq0_at : Int32) (vq0_scaled : Int32) (vq0_solved : Int32) (vq0_second : Int32) (vq0_nm : Int32) (vq0_nn : Int32) (vq0_number : UInt64) (vq0_bad : Int32) (vq0_sa : Nat → UInt64) (vq0_sb : Nat → UInt64) (vq0_sc : Nat → UInt64) (vq0_x : Nat → UInt64) (vq0_s : Nat → UInt64) (vq0_y : Nat → UInt64) (vq0_p : Nat → UInt64) (x1 : UInt64) (x3 : Int32) (vq0_d : Nat → UInt64) (x4 : Int32) : Option (((Nat → UInt64) × Int32) ⊕ ((Nat → UInt64))) :=
  if vq0_m ≤ x4 then (some (.inr vq0_d)) else (gd (inb x3 8) <| gd (inb ((8 * x4) + x3) 40) <| gd (inb x4 5) <| gd (isn (FP.dmul (vq0_sa ((8 * x4) + x3).toNatClampNeg) (vq0_y x4.toNatClampNeg))) <| gd (isn (FP.dsub (vq0_d x3.toNatClampNeg) (FP.dmul (vq0_sa ((8 * x4) + x3).toNatClampNeg) (vq0_y x4.toNatClampNeg)))) <| gd (inb x3 8) <| some (.inl (vf_upd vq0_d x3.toNatClampNeg (FP.dsub (vq0_d x3.toNatClampNeg) (FP.dmul (vq0_sa ((8 * x4) + x3).toNatClampNeg) (vq0_y x4.toNatClampNeg))), x4 + 1)))
def s_M_measure_L106 (vq0_m : Int32) (vq0_n : Int32) (vq0_length : Int32) (vq0_where : Int32) (vq0_effort : Int32) (vq0_thrown : Int32) (vq0_at : Int32) (vq0_scaled : Int32) (vq0_solved : Int32) (vq0_second : Int32) (vq0_nm : Int32) (vq0_nn : Int32) (vq0_number : UInt64) (vq0_bad : Int32) (vq0_sa : Nat → UInt64) (vq0_sb : Nat → UInt64) (vq0_sc : Nat → UInt64) (vq0_x : Nat → UInt64) (vq0_s : Nat → UInt64) (vq0_y : Nat → UInt64) (vq0_p : Nat → UInt64) (vq0_d : Nat → UInt64) (x1 : UInt64) (x3 : Int32) (x4 : Int32) : Option (((Nat → UInt64) × UInt64 × Int32) ⊕ ((Nat → UInt64) × UInt64)) :=
  (loopO (fun (st : (Nat → UInt64) × Int32) => s_M_measure_B106 vq0_m vq0_n vq0_length vq0_where vq0_effort vq0_thrown vq0_at vq0_scaled vq0_solved vq0_second vq0_nm vq0_nn vq0_number vq0_bad vq0_sa vq0_sb vq0_sc vq0_x vq0_s vq0_y vq0_p x1 x3 st.1 st.2) 2000 (vq0_d, x4)).bind fun u106 => gd (inb x3 8) <| gd (inb x3 8) <| gd (isn (FP.dsub (u106 x3.toNatClampNeg) (vq0_s x3.toNatClampNeg))) <| gd (inb x3 8) <| gd (inb x3 8) <| gd (inb x3 8) <| gd (isn (FP.dmul (vq0_x x3.toNatClampNeg) (vq0_s x3.toNatClampNeg))) <| gd (isn (FP.dadd x1 (FP.dmul (vq0_x x3.toNatClampNeg) (vq0_s x3.toNatClampNeg)))) <| some (.inl (vf_upd u106 x3.toNatClampNeg (FP.dsub (u106 x3.toNatClampNeg) (vq0_s x3.toNatClampNeg)), FP.dadd x1 (FP.dmul (vq0_x x3.toNatClampNeg) (vq0_s x3.toNatClampNeg)), x3 + 1))
def s_M_measure_B83 (vq0_m : Int32) (vq0_n : Int32) (vq0_length : Int32) (vq0_where : Int32) (vq0_effort : Int32) (vq0_thrown : Int32) (vq0_at : Int32) (vq0_scaled : Int32) (vq0_solved : Int32) (vq0_second : Int32) (vq0_nm : Int32) (vq0_nn : Int32) (vq0_number : UInt64) (vq0_bad : Int32) (vq0_sa : Nat → UInt64) (vq0_sb : Nat → UInt64) (vq0_sc : Nat → UInt64) (vq0_x : Nat → UInt64) (vq0_s : Nat → UInt64) (vq0_y : Nat → UInt64) (vq0_p : Nat → UInt64) (vq0_d : Nat → UInt64) (x1 : UInt64) (x3 : Int32) : Option (((Nat → UInt64) × UInt64 × Int32) ⊕ ((Nat → UInt64) × UInt64)) :=
  if vq0_n ≤ x3 then (some (.inr (vq0_d, x1))) else (gd (inb x3 8) <| gd (inb x3 8) <| s_M_measure_L106 vq0_m vq0_n vq0_length vq0_where vq0_effort vq0_thrown vq0_at vq0_scaled vq0_solved vq0_second vq0_nm vq0_nn vq0_number vq0_bad vq0_sa vq0_sb vq0_sc vq0_x vq0_s vq0_y vq0_p (vf_upd vq0_d x3.toNatClampNeg (vq0_sc x3.toNatClampNeg)) x1 x3 0)
def s_M_measure_L83 (vq0_m : Int32) (vq0_n : Int32) (vq0_length : Int32) (vq0_where : Int32) (vq0_effort : Int32) (vq0_thrown : Int32) (vq0_at : Int32) (vq0_scaled : Int32) (vq0_solved : Int32) (vq0_second : Int32) (vq0_nm : Int32) (vq0_nn : Int32) (vq0_number : UInt64) (vq0_bad : Int32) (vq0_sa : Nat → UInt64) (vq0_sb : Nat → UInt64) (vq0_sc : Nat → UInt64) (vq0_x : Nat → UInt64) (vq0_s : Nat → UInt64) (vq0_y : Nat → UInt64) (vq0_p : Nat → UInt64) (vq0_d : Nat → UInt64) (x1 : UInt64) (x3 : Int32) : Option (UInt64 × (Nat → UInt64) × (Nat → UInt64)) :=
  (loopO (fun (st : (Nat → UInt64) × UInt64 × Int32) => s_M_measure_B83 vq0_m vq0_n vq0_length vq0_where vq0_effort vq0_thrown vq0_at vq0_scaled vq0_solved vq0_second vq0_nm vq0_nn vq0_number vq0_bad vq0_sa vq0_sb vq0_sc vq0_x vq0_s vq0_y vq0_p st.1 st.2.1 st.2.2) 2000 (vq0_d, x1, x3)).bind fun u83 => some (u83.2, vq0_p, u83.1)
def s_M_measure_B27 (vq0_m : Int32) (vq0_n : Int32) (vq0_length : Int32) (vq0_where : Int32) (vq0_effort : Int32) (vq0_thrown : Int32) (vq0_at : Int32) (vq0_scaled : Int32) (vq0_solved : Int32) (vq0_second : Int32) (vq0_nm : Int32) (vq0_nn : Int32) (vq0_number : UInt64) (vq0_bad : Int32) (vq0_sa : Nat → UInt64) (vq0_sb : Nat → UInt64) (vq0_sc : Nat → UInt64) (vq0_x : Nat → UInt64) (vq0_s : Nat → UInt64) (vq0_y : Nat → UInt64) (vq0_d : Nat → UInt64) (x1 : UInt64) (x3 : Int32) (vq0_p : Nat → UInt64) (x4 : Int32) : Option (((Nat → UInt64) × Int32) ⊕ ((Nat → UInt64))) :=
  if vq0_n ≤ x4 then (some (.inr vq0_p)) else (gd (inb x3 5) <| gd (inb ((8 * x3) + x4) 40) <| gd (inb x4 8) <| gd (isn (FP.dmul (vq0_sa ((8 * x3) + x4).toNatClampNeg) (vq0_x x4.toNatClampNeg))) <| gd (isn (FP.dsub (vq0_p x3.toNatClampNeg) (FP.dmul (vq0_sa ((8 * x3) + x4).toNatClampNeg) (vq0_x x4.toNatClampNeg)))) <| gd (inb x3 5) <| some (.inl (vf_upd vq0_p x3.toNatClampNeg (FP.dsub (vq0_p x3.toNatClampNeg) (FP.dmul (vq0_sa ((8 * x3) + x4).toNatClampNeg) (vq0_x x4.toNatClampNeg))), x4 + 1)))
def s_M_measure_L27 (vq0_m : Int32) (vq0_n : Int32) (vq0_length : Int32) (vq0_where : Int32) (vq0_effort : Int32) (vq0_thrown : Int32) (vq0_at : Int32) (vq0_scaled : Int32) (vq0_solved : Int32) (vq0_second : Int32) (vq0_nm : Int32) (vq0_nn : Int32) (vq0_number : UInt64) (vq0_bad : Int32) (vq0_sa : Nat → UInt64) (vq0_sb : Nat → UInt64) (vq0_sc : Nat → UInt64) (vq0_x : Nat → UInt64) (vq0_s : Nat → UInt64) (vq0_y : Nat → UInt64) (vq0_p : Nat → UInt64) (vq0_d : Nat → UInt64) (x1 : UInt64) (x3 : Int32) (x4 : Int32) : Option (((Nat → UInt64) × Int32) ⊕ ((Nat → UInt64))) :=
  (loopO (fun (st : (Nat → UInt64) × Int32) => s_M_measure_B27 vq0_m vq0_n vq0_length vq0_where vq0_effort vq0_thrown vq0_at vq0_scaled vq0_solved vq0_second vq0_nm vq0_nn vq0_number vq0_bad vq0_sa vq0_sb vq0_sc vq0_x vq0_s vq0_y vq0_d x1 x3 st.1 st.2) 2000 (vq0_p, x4)).bind fun u27 => some (.inl (u27, x3 + 1))
def s_M_measure_B4 (vq0_m : Int32) (vq0_n : Int32) (vq0_length : Int32) (vq0_where : Int32) (vq0_effort : Int32) (vq0_thrown : Int32) (vq0_at : Int32) (vq0_scaled : Int32) (vq0_solved : Int32) (vq0_second : Int32) (vq0_nm : Int32) (vq0_nn : Int32) (vq0_number : UInt64) (vq0_bad : Int32) (vq0_sa : Nat → UInt64) (vq0_sb : Nat → UInt64) (vq0_sc : Nat → UInt64) (vq0_x : Nat → UInt64) (vq0_s : Nat → UInt64) (vq0_y : Nat → UInt64) (vq0_d : Nat → UInt64) (x1 : UInt64) (vq0_p : Nat → UInt64) (x3 : Int32) : Option (((Nat → UInt64) × Int32) ⊕ ((Nat → UInt64))) :=
  if vq0_m ≤ x3 then (some (.inr vq0_p)) else (gd (inb x3 5) <| gd (inb x3 5) <| s_M_measure_L27 vq0_m vq0_n vq0_length vq0_where vq0_effort vq0_thrown vq0_at vq0_scaled vq0_solved vq0_second vq0_nm vq0_nn vq0_number vq0_bad vq0_sa vq0_sb vq0_sc vq0_x vq0_s vq0_y (vf_upd vq0_p x3.toNatClampNeg (vq0_sb x3.toNatClampNeg)) vq0_d x1 x3 0)
def s_M_measure_L4 (vq0_m : Int32) (vq0_n : Int32) (vq0_length : Int32) (vq0_where : Int32) (vq0_effort : Int32) (vq0_thrown : Int32) (vq0_at : Int32) (vq0_scaled : Int32) (vq0_solved : Int32) (vq0_second : Int32) (vq0_nm : Int32) (vq0_nn : Int32) (vq0_number : UInt64) (vq0_bad : Int32) (vq0_sa : Nat → UInt64) (vq0_sb : Nat → UInt64) (vq0_sc : Nat → UInt64) (vq0_x : Nat → UInt64) (vq0_s : Nat → UInt64) (vq0_y : Nat → UInt64) (vq0_p : Nat → UInt64) (vq0_d : Nat → UInt64) (x1 : UInt64) (x3 : Int32) : Option (UInt64 × (Nat → UInt64) × (Nat → UInt64)) :=
  (loopO (fun (st : (Nat → UInt64) × Int32) => s_M_measure_B4 vq0_m vq0_n vq0_length vq0_where vq0_effort vq0_thrown vq0_at vq0_scaled vq0_solved vq0_second vq0_nm vq0_nn vq0_number vq0_bad vq0_sa vq0_sb vq0_sc vq0_x vq0_s vq0_y vq0_d x1 st.1 st.2) 2000 (vq0_p, x3)).bind fun u4 => s_M_measure_L83 vq0_m vq0_n vq0_length vq0_where vq0_effort vq0_thrown vq0_at vq0_scaled vq0_solved vq0_second vq0_nm vq0_nn vq0_number vq0_bad vq0_sa vq0_sb vq0_sc vq0_x vq0_s vq0_y u4 vq0_d x1 0
def s_M_measure (vq0_m : Int32) (vq0_n : Int32) (vq0_length : Int32) (vq0_where : Int32) (vq0_effort : Int32) (vq0_thrown : Int32) (vq0_at : Int32) (vq0_scaled : Int32) (vq0_solved : Int32) (vq0_second : Int32) (vq0_nm : Int32) (vq0_nn : Int32) (vq0_number : UInt64) (vq0_bad : Int32) (vq0_sa : Nat → UInt64) (vq0_sb : Nat → UInt64) (vq0_sc : Nat → UInt64) (vq0_x : Nat → UInt64) (vq0_s : Nat → UInt64) (vq0_y : Nat → UInt64) (vq0_p : Nat → UInt64) (vq0_d : Nat → UInt64) : Option (UInt64 × (Nat → UInt64) × (Nat → UInt64)) :=
  s_M_measure_L4 vq0_m vq0_n vq0_length vq0_where vq0_effort vq0_thrown vq0_at vq0_scaled vq0_solved vq0_second vq0_nm vq0_nn vq0_number vq0_bad vq0_sa vq0_sb vq0_sc vq0_x vq0_s vq0_y vq0_p vq0_d FP.dconst0 0
set_option maxHeartbeats 4000000 in
set_option maxRecDepth 100000 in
theorem c_M_measure (l : Launch) (D : va_G) (T : Nat → ClassId) (q0 : Nat) (q0_a : Nat) (q0_b : Nat) (q0_c : Nat) (q0_rowScale : Nat) (q0_columnScale : Nat) (q0_sa : Nat) (q0_sb : Nat) (q0_sc : Nat) (q0_x : Nat) (q0_s : Nat) (q0_y : Nat) (q0_p : Nat) (q0_d : Nat) (q0_h : Nat) (q0_f : Nat) (q0_mm : Nat) (q0_low : Nat) (q0_dd : Nat) (q0_r : Nat) (q0_big : Nat) (q0_dt : Nat) (q0_dx : Nat) (q0_t : Nat) (q0_cost : Nat) (q0_rowScaleNow : Nat) (q0_columnScaleNow : Nat) (q0_basic : Nat) (q0_text : Nat) (q0_turned : Nat) (q0_na : Nat) (q0_nb : Nat) (q0_nc : Nat) (vq0_m : Int32) (vq0_n : Int32) (vq0_length : Int32) (vq0_where : Int32) (vq0_effort : Int32) (vq0_thrown : Int32) (vq0_at : Int32) (vq0_scaled : Int32) (vq0_solved : Int32) (vq0_second : Int32) (vq0_nm : Int32) (vq0_nn : Int32) (vq0_number : UInt64) (vq0_bad : Int32) (vq0_sa : Nat → UInt64) (vq0_sb : Nat → UInt64) (vq0_sc : Nat → UInt64) (vq0_x : Nat → UInt64) (vq0_s : Nat → UInt64) (vq0_y : Nat → UInt64) (vq0_p : Nat → UInt64) (vq0_d : Nat → UInt64) (rm : UInt64 × (Nat → UInt64) × (Nat → UInt64)) (h : s_M_measure vq0_m vq0_n vq0_length vq0_where vq0_effort vq0_thrown vq0_at vq0_scaled vq0_solved vq0_second vq0_nm vq0_nn vq0_number vq0_bad vq0_sa vq0_sb vq0_sc vq0_x vq0_s vq0_y vq0_p vq0_d = some rm) : CtD l y_M_measure (Cond.code y_M_measure prog_10_method_22_code 5 (some .double) :: BIG) 0 0 D T [.ref q0] (w_M_measure T q0 q0_a q0_b q0_c q0_rowScale q0_columnScale q0_sa q0_sb q0_sc q0_x q0_s q0_y q0_p q0_d q0_h q0_f q0_mm q0_low q0_dd q0_r q0_big q0_dt q0_dx q0_t q0_cost q0_rowScaleNow q0_columnScaleNow q0_basic q0_text q0_turned q0_na q0_nb q0_nc vq0_m vq0_n vq0_length vq0_where vq0_effort vq0_thrown vq0_at vq0_scaled vq0_solved vq0_second vq0_nm vq0_nn vq0_number vq0_bad vq0_sa vq0_sb vq0_sc vq0_x vq0_s vq0_y vq0_p vq0_d) (fun r => r.1) (fun r => (w_M_measure T q0 q0_a q0_b q0_c q0_rowScale q0_columnScale q0_sa q0_sb q0_sc q0_x q0_s q0_y q0_p q0_d q0_h q0_f q0_mm q0_low q0_dd q0_r q0_big q0_dt q0_dx q0_t q0_cost q0_rowScaleNow q0_columnScaleNow q0_basic q0_text q0_turned q0_na q0_nb q0_nc vq0_m vq0_n vq0_length vq0_where vq0_effort vq0_thrown vq0_at vq0_scaled vq0_solved vq0_second vq0_nm vq0_nn vq0_number vq0_bad vq0_sa vq0_sb vq0_sc vq0_x vq0_s vq0_y r.2.1 r.2.2)) rm := by
  refine cf_entry (y := y_M_measure) (cc := prog_10_method_22_code) (nL := 5) (ret := (some .double)) (fr := 0) (lo := 0) (T := T) (av := [.ref q0]) (w := (w_M_measure T q0 q0_a q0_b q0_c q0_rowScale q0_columnScale q0_sa q0_sb q0_sc q0_x q0_s q0_y q0_p q0_d q0_h q0_f q0_mm q0_low q0_dd q0_r q0_big q0_dt q0_dx q0_t q0_cost q0_rowScaleNow q0_columnScaleNow q0_basic q0_text q0_turned q0_na q0_nb q0_nc vq0_m vq0_n vq0_length vq0_where vq0_effort vq0_thrown vq0_at vq0_scaled vq0_solved vq0_second vq0_nm vq0_nn vq0_number vq0_bad vq0_sa vq0_sb vq0_sc vq0_x vq0_s vq0_y vq0_p vq0_d)) (Qc := cfQd D (fun r => r.1) (fun r => (w_M_measure T q0 q0_a q0_b q0_c q0_rowScale q0_columnScale q0_sa q0_sb q0_sc q0_x q0_s q0_y q0_p q0_d q0_h q0_f q0_mm q0_low q0_dd q0_r q0_big q0_dt q0_dx q0_t q0_cost q0_rowScaleNow q0_columnScaleNow q0_basic q0_text q0_turned q0_na q0_nb q0_nc vq0_m vq0_n vq0_length vq0_where vq0_effort vq0_thrown vq0_at vq0_scaled vq0_solved vq0_second vq0_nm vq0_nn vq0_number vq0_bad vq0_sa vq0_sb vq0_sc vq0_x vq0_s vq0_y r.2.1 r.2.2)) rm) (by decide) rfl (Nat.le_of_ble_eq_true rfl) ?_
  intro p e s m args below meth c A Q H locs ls hx hb hr hlocks hml hown hts hNW hK hA hQ hP hD hS hl
  have hown : s.vm.findClass "ConeForgeModel" = some m.cls := hown
  have hl : lv_has ls 5 [(0, .ref q0)] := hl
  have L83 : ∀ (vq0_p : Nat → UInt64) (vq0_d : Nat → UInt64) (x1 : UInt64) (x3 : Int32), ∀ (H : Heap) (locs : List Loc) (ls : Array Slot), va_P D CL (w_M_measure T q0 q0_a q0_b q0_c q0_rowScale q0_columnScale q0_sa q0_sb q0_sc q0_x q0_s q0_y q0_p q0_d q0_h q0_f q0_mm q0_low q0_dd q0_r q0_big q0_dt q0_dx q0_t q0_cost q0_rowScaleNow q0_columnScaleNow q0_basic q0_text q0_turned q0_na q0_nb q0_nc vq0_m vq0_n vq0_length vq0_where vq0_effort vq0_thrown vq0_at vq0_scaled vq0_solved vq0_second vq0_nm vq0_nn vq0_number vq0_bad vq0_sa vq0_sb vq0_sc vq0_x vq0_s vq0_y vq0_p vq0_d) H → va_D A (w_M_measure T q0 q0_a q0_b q0_c q0_rowScale q0_columnScale q0_sa q0_sb q0_sc q0_x q0_s q0_y q0_p q0_d q0_h q0_f q0_mm q0_low q0_dd q0_r q0_big q0_dt q0_dx q0_t q0_cost q0_rowScaleNow q0_columnScaleNow q0_basic q0_text q0_turned q0_na q0_nb q0_nc vq0_m vq0_n vq0_length vq0_where vq0_effort vq0_thrown vq0_at vq0_scaled vq0_solved vq0_second vq0_nm vq0_nn vq0_number vq0_bad vq0_sa vq0_sb vq0_sc vq0_x vq0_s vq0_y vq0_p vq0_d) → va_S A s.heap H locs → lv_has ls 5 [(0, .ref q0), (1, .double x1), (3, .int x3)] → s_M_measure_L83 vq0_m vq0_n vq0_length vq0_where vq0_effort vq0_thrown vq0_at vq0_scaled vq0_solved vq0_second vq0_nm vq0_nn vq0_number vq0_bad vq0_sa vq0_sb vq0_sc vq0_x vq0_s vq0_y vq0_p vq0_d x1 x3 = some rm → W p l e (rmk 0 0) s m args below meth c H locs 0 0 Q (F0 m 83 ls []) := by
    intro vq0_p vq0_d x1 x3 H locs ls hP hD hS hl h
    unfold s_M_measure_L83 at h
    obtain ⟨u83, hu83, h⟩ := bi_some h
    refine loopO_W (Wh := fun (st : (Nat → UInt64) × UInt64 × Int32) => ∀ (H : Heap) (locs : List Loc) (ls : Array Slot), va_P D CL (w_M_measure T q0 q0_a q0_b q0_c q0_rowScale q0_columnScale q0_sa q0_sb q0_sc q0_x q0_s q0_y q0_p q0_d q0_h q0_f q0_mm q0_low q0_dd q0_r q0_big q0_dt q0_dx q0_t q0_cost q0_rowScaleNow q0_columnScaleNow q0_basic q0_text q0_turned q0_na q0_nb q0_nc vq0_m vq0_n vq0_length vq0_where vq0_effort vq0_thrown vq0_at vq0_scaled vq0_solved vq0_second vq0_nm vq0_nn vq0_number vq0_bad vq0_sa vq0_sb vq0_sc vq0_x vq0_s vq0_y vq0_p st.1) H → va_D A (w_M_measure T q0 q0_a q0_b q0_c q0_rowScale q0_columnScale q0_sa q0_sb q0_sc q0_x q0_s q0_y q0_p q0_d q0_h q0_f q0_mm q0_low q0_dd q0_r q0_big q0_dt q0_dx q0_t q0_cost q0_rowScaleNow q0_columnScaleNow q0_basic q0_text q0_turned q0_na q0_nb q0_nc vq0_m vq0_n vq0_length vq0_where vq0_effort vq0_thrown vq0_at vq0_scaled vq0_solved vq0_second vq0_nm vq0_nn vq0_number vq0_bad vq0_sa vq0_sb vq0_sc vq0_x vq0_s vq0_y vq0_p st.1) → va_S A s.heap H locs → lv_has ls 5 [(0, .ref q0), (1, .double st.2.1), (3, .int st.2.2)] → W p l e (rmk 0 0) s m args below meth c H locs 0 0 Q (F0 m 83 ls [])) (Wx := fun (e1 : (Nat → UInt64) × UInt64) => ∀ (H : Heap) (locs : List Loc) (ls : Array Slot), va_P D CL (w_M_measure T q0 q0_a q0_b q0_c q0_rowScale q0_columnScale q0_sa q0_sb q0_sc q0_x q0_s q0_y q0_p q0_d q0_h q0_f q0_mm q0_low q0_dd q0_r q0_big q0_dt q0_dx q0_t q0_cost q0_rowScaleNow q0_columnScaleNow q0_basic q0_text q0_turned q0_na q0_nb q0_nc vq0_m vq0_n vq0_length vq0_where vq0_effort vq0_thrown vq0_at vq0_scaled vq0_solved vq0_second vq0_nm vq0_nn vq0_number vq0_bad vq0_sa vq0_sb vq0_sc vq0_x vq0_s vq0_y vq0_p e1.1) H → va_D A (w_M_measure T q0 q0_a q0_b q0_c q0_rowScale q0_columnScale q0_sa q0_sb q0_sc q0_x q0_s q0_y q0_p q0_d q0_h q0_f q0_mm q0_low q0_dd q0_r q0_big q0_dt q0_dx q0_t q0_cost q0_rowScaleNow q0_columnScaleNow q0_basic q0_text q0_turned q0_na q0_nb q0_nc vq0_m vq0_n vq0_length vq0_where vq0_effort vq0_thrown vq0_at vq0_scaled vq0_solved vq0_second vq0_nm vq0_nn vq0_number vq0_bad vq0_sa vq0_sb vq0_sc vq0_x vq0_s vq0_y vq0_p e1.1) → va_S A s.heap H locs → lv_has ls 5 [(1, .double e1.2)] → W p l e (rmk 0 0) s m args below meth c H locs 0 0 Q (F0 m 195 ls [])) ?_ 2000 _ u83 hu83 ?_ H locs ls hP hD hS hl
    · intro st rb83 h kc83 kx83 H locs ls hP hD hS hl
      obtain ⟨vq0_d, x1, x3⟩ := st
      have h : s_M_measure_B83 vq0_m vq0_n vq0_length vq0_where vq0_effort vq0_thrown vq0_at vq0_scaled vq0_solved vq0_second vq0_nm vq0_nn vq0_number vq0_bad vq0_sa vq0_sb vq0_sc vq0_x vq0_s vq0_y vq0_p vq0_d x1 x3 = some rb83 := h
      have L106 : ∀ (vq0_d : Nat → UInt64) (x1 : UInt64) (x3 : Int32) (x4 : Int32), ∀ (H : Heap) (locs : List Loc) (ls : Array Slot), va_P D CL (w_M_measure T q0 q0_a q0_b q0_c q0_rowScale q0_columnScale q0_sa q0_sb q0_sc q0_x q0_s q0_y q0_p q0_d q0_h q0_f q0_mm q0_low q0_dd q0_r q0_big q0_dt q0_dx q0_t q0_cost q0_rowScaleNow q0_columnScaleNow q0_basic q0_text q0_turned q0_na q0_nb q0_nc vq0_m vq0_n vq0_length vq0_where vq0_effort vq0_thrown vq0_at vq0_scaled vq0_solved vq0_second vq0_nm vq0_nn vq0_number vq0_bad vq0_sa vq0_sb vq0_sc vq0_x vq0_s vq0_y vq0_p vq0_d) H → va_D A (w_M_measure T q0 q0_a q0_b q0_c q0_rowScale q0_columnScale q0_sa q0_sb q0_sc q0_x q0_s q0_y q0_p q0_d q0_h q0_f q0_mm q0_low q0_dd q0_r q0_big q0_dt q0_dx q0_t q0_cost q0_rowScaleNow q0_columnScaleNow q0_basic q0_text q0_turned q0_na q0_nb q0_nc vq0_m vq0_n vq0_length vq0_where vq0_effort vq0_thrown vq0_at vq0_scaled vq0_solved vq0_second vq0_nm vq0_nn vq0_number vq0_bad vq0_sa vq0_sb vq0_sc vq0_x vq0_s vq0_y vq0_p vq0_d) → va_S A s.heap H locs → lv_has ls 5 [(0, .ref q0), (1, .double x1), (3, .int x3), (4, .int x4)] → s_M_measure_L106 vq0_m vq0_n vq0_length vq0_where vq0_effort vq0_thrown vq0_at vq0_scaled vq0_solved vq0_second vq0_nm vq0_nn vq0_number vq0_bad vq0_sa vq0_sb vq0_sc vq0_x vq0_s vq0_y vq0_p vq0_d x1 x3 x4 = some rb83 → W p l e (rmk 0 0) s m args below meth c H locs 0 0 Q (F0 m 106 ls []) := by
        intro vq0_d x1 x3 x4 H locs ls hP hD hS hl h
        unfold s_M_measure_L106 at h
        obtain ⟨u106, hu106, h⟩ := bi_some h
        refine loopO_W (Wh := fun (st : (Nat → UInt64) × Int32) => ∀ (H : Heap) (locs : List Loc) (ls : Array Slot), va_P D CL (w_M_measure T q0 q0_a q0_b q0_c q0_rowScale q0_columnScale q0_sa q0_sb q0_sc q0_x q0_s q0_y q0_p q0_d q0_h q0_f q0_mm q0_low q0_dd q0_r q0_big q0_dt q0_dx q0_t q0_cost q0_rowScaleNow q0_columnScaleNow q0_basic q0_text q0_turned q0_na q0_nb q0_nc vq0_m vq0_n vq0_length vq0_where vq0_effort vq0_thrown vq0_at vq0_scaled vq0_solved vq0_second vq0_nm vq0_nn vq0_number vq0_bad vq0_sa vq0_sb vq0_sc vq0_x vq0_s vq0_y vq0_p st.1) H → va_D A (w_M_measure T q0 q0_a q0_b q0_c q0_rowScale q0_columnScale q0_sa q0_sb q0_sc q0_x q0_s q0_y q0_p q0_d q0_h q0_f q0_mm q0_low q0_dd q0_r q0_big q0_dt q0_dx q0_t q0_cost q0_rowScaleNow q0_columnScaleNow q0_basic q0_text q0_turned q0_na q0_nb q0_nc vq0_m vq0_n vq0_length vq0_where vq0_effort vq0_thrown vq0_at vq0_scaled vq0_solved vq0_second vq0_nm vq0_nn vq0_number vq0_bad vq0_sa vq0_sb vq0_sc vq0_x vq0_s vq0_y vq0_p st.1) → va_S A s.heap H locs → lv_has ls 5 [(0, .ref q0), (1, .double x1), (3, .int x3), (4, .int st.2)] → W p l e (rmk 0 0) s m args below meth c H locs 0 0 Q (F0 m 106 ls [])) (Wx := fun (e1 : (Nat → UInt64)) => ∀ (H : Heap) (locs : List Loc) (ls : Array Slot), va_P D CL (w_M_measure T q0 q0_a q0_b q0_c q0_rowScale q0_columnScale q0_sa q0_sb q0_sc q0_x q0_s q0_y q0_p q0_d q0_h q0_f q0_mm q0_low q0_dd q0_r q0_big q0_dt q0_dx q0_t q0_cost q0_rowScaleNow q0_columnScaleNow q0_basic q0_text q0_turned q0_na q0_nb q0_nc vq0_m vq0_n vq0_length vq0_where vq0_effort vq0_thrown vq0_at vq0_scaled vq0_solved vq0_second vq0_nm vq0_nn vq0_number vq0_bad vq0_sa vq0_sb vq0_sc vq0_x vq0_s vq0_y vq0_p e1) H → va_D A (w_M_measure T q0 q0_a q0_b q0_c q0_rowScale q0_columnScale q0_sa q0_sb q0_sc q0_x q0_s q0_y q0_p q0_d q0_h q0_f q0_mm q0_low q0_dd q0_r q0_big q0_dt q0_dx q0_t q0_cost q0_rowScaleNow q0_columnScaleNow q0_basic q0_text q0_turned q0_na q0_nb q0_nc vq0_m vq0_n vq0_length vq0_where vq0_effort vq0_thrown vq0_at vq0_scaled vq0_solved vq0_second vq0_nm vq0_nn vq0_number vq0_bad vq0_sa vq0_sb vq0_sc vq0_x vq0_s vq0_y vq0_p e1) → va_S A s.heap H locs → lv_has ls 5 [(0, .ref q0), (1, .double x1), (3, .int x3)] → W p l e (rmk 0 0) s m args below meth c H locs 0 0 Q (F0 m 154 ls [])) ?_ 2000 _ u106 hu106 ?_ H locs ls hP hD hS hl
        · intro st rb106 h kc106 kx106 H locs ls hP hD hS hl
          obtain ⟨vq0_d, x4⟩ := st
          have h : s_M_measure_B106 vq0_m vq0_n vq0_length vq0_where vq0_effort vq0_thrown vq0_at vq0_scaled vq0_solved vq0_second vq0_nm vq0_nn vq0_number vq0_bad vq0_sa vq0_sb vq0_sc vq0_x vq0_s vq0_y vq0_p x1 x3 vq0_d x4 = some rb106 := h
          unfold s_M_measure_B106 at h
          refine lv_iload hx hb d_M_measure_106 (lv_at hl 3 rfl) ?_
          refine lv_aload_n hx hb d_M_measure_108 rfl (lv_at hl 0 rfl) ?_
          refine va_get (D := D) (ci := 8) (v := .int vq0_m) (C := "ConeForgeModel") (T := FM) (N := 46) hx hb hts iM hown hK hP 0 rfl rfl 29 (by decide) (hts _ (bgc bw713)) (fun _ h9 => h9) rfl d_M_measure_109 ?_
          refine lv_icmp_ge (tgt := 154) hx hb d_M_measure_112 (by decide) (fun c1 => ?_) (fun c1 => ?_)
          · have h := it_t c1 h
            exact kx106 _ (Option.some.inj h).symm H locs ls hP hD hS (lv_sub hl [0, 1, 2] rfl)
          · have h := it_f c1 h
            refine lv_aload_n hx hb d_M_measure_115 rfl (lv_at hl 0 rfl) ?_
            refine va_get (D := D) (ci := 8) (v := .ref q0_d) (C := "ConeForgeModel") (T := FM) (N := 46) hx hb hts iM hown hK hP 0 rfl rfl 12 (by decide) (hts _ (bgc bw696)) (fun _ h9 => h9) rfl d_M_measure_116 ?_
            refine lv_iload_n hx hb d_M_measure_119 rfl (lv_at hl 2 rfl) ?_
            refine lv_aload_n hx hb d_M_measure_120 rfl (lv_at hl 0 rfl) ?_
            refine va_get (D := D) (ci := 8) (v := .ref q0_d) (C := "ConeForgeModel") (T := FM) (N := 46) hx hb hts iM hown hK hP 0 rfl rfl 12 (by decide) (hts _ (bgc bw696)) (fun _ h9 => h9) rfl d_M_measure_121 ?_
            refine lv_iload_n hx hb d_M_measure_124 rfl (lv_at hl 2 rfl) ?_
            obtain ⟨g2, h⟩ := gd_some h
            refine va_dald hx hb hK hP 8 0 rfl rfl (inb_in g2) d_M_measure_125 ?_
            refine lv_aload_n hx hb d_M_measure_126 rfl (lv_at hl 0 rfl) ?_
            refine va_get (D := D) (ci := 8) (v := .ref q0_sa) (C := "ConeForgeModel") (T := FM) (N := 46) hx hb hts iM hown hK hP 0 rfl rfl 5 (by decide) (hts _ (bgc bw689)) (fun _ h9 => h9) rfl d_M_measure_127 ?_
            refine lv_bipush (v := 8) hx hb d_M_measure_130 (by decide) ?_
            refine lv_iload hx hb d_M_measure_132 (lv_at hl 3 rfl) ?_
            refine lv_imul hx hb d_M_measure_134 ?_
            refine lv_iload_n hx hb d_M_measure_135 rfl (lv_at hl 2 rfl) ?_
            refine lv_iadd hx hb d_M_measure_136 ?_
            obtain ⟨g3, h⟩ := gd_some h
            refine va_dald hx hb hK hP 1 0 rfl rfl (inb_in g3) d_M_measure_137 ?_
            refine lv_aload_n hx hb d_M_measure_138 rfl (lv_at hl 0 rfl) ?_
            refine va_get (D := D) (ci := 8) (v := .ref q0_y) (C := "ConeForgeModel") (T := FM) (N := 46) hx hb hts iM hown hK hP 0 rfl rfl 10 (by decide) (hts _ (bgc bw694)) (fun _ h9 => h9) rfl d_M_measure_139 ?_
            refine lv_iload hx hb d_M_measure_142 (lv_at hl 3 rfl) ?_
            obtain ⟨g4, h⟩ := gd_some h
            refine va_dald hx hb hK hP 6 0 rfl rfl (inb_in g4) d_M_measure_144 ?_
            obtain ⟨g5, h⟩ := gd_some h
            refine lv_dmul hx hb d_M_measure_145 (isn_n g5) ?_
            obtain ⟨g6, h⟩ := gd_some h
            refine lv_dsub hx hb d_M_measure_146 (isn_n g6) ?_
            obtain ⟨g7, h⟩ := gd_some h
            refine va_dast hx hb hK hP hD hS 8 0 rfl rfl (inb_in g7) d_M_measure_147 (fun H locs hP hD hS => ?_)
            have hP : va_P D CL (w_M_measure T q0 q0_a q0_b q0_c q0_rowScale q0_columnScale q0_sa q0_sb q0_sc q0_x q0_s q0_y q0_p q0_d q0_h q0_f q0_mm q0_low q0_dd q0_r q0_big q0_dt q0_dx q0_t q0_cost q0_rowScaleNow q0_columnScaleNow q0_basic q0_text q0_turned q0_na q0_nb q0_nc vq0_m vq0_n vq0_length vq0_where vq0_effort vq0_thrown vq0_at vq0_scaled vq0_solved vq0_second vq0_nm vq0_nn vq0_number vq0_bad vq0_sa vq0_sb vq0_sc vq0_x vq0_s vq0_y vq0_p (vf_upd vq0_d x3.toNatClampNeg (FP.dsub (vq0_d x3.toNatClampNeg) (FP.dmul (vq0_sa ((8 * x4) + x3).toNatClampNeg) (vq0_y x4.toNatClampNeg))))) H := hP
            have hD : va_D A (w_M_measure T q0 q0_a q0_b q0_c q0_rowScale q0_columnScale q0_sa q0_sb q0_sc q0_x q0_s q0_y q0_p q0_d q0_h q0_f q0_mm q0_low q0_dd q0_r q0_big q0_dt q0_dx q0_t q0_cost q0_rowScaleNow q0_columnScaleNow q0_basic q0_text q0_turned q0_na q0_nb q0_nc vq0_m vq0_n vq0_length vq0_where vq0_effort vq0_thrown vq0_at vq0_scaled vq0_solved vq0_second vq0_nm vq0_nn vq0_number vq0_bad vq0_sa vq0_sb vq0_sc vq0_x vq0_s vq0_y vq0_p (vf_upd vq0_d x3.toNatClampNeg (FP.dsub (vq0_d x3.toNatClampNeg) (FP.dmul (vq0_sa ((8 * x4) + x3).toNatClampNeg) (vq0_y x4.toNatClampNeg))))) := hD
            refine lv_iinc (v := x4 + 1) (lv' := [(4, .int (x4 + 1)), (0, .ref q0), (1, .double x1), (3, .int x3)]) hx hb d_M_measure_148 hl (k := 3) rfl rfl (by decide) rfl (fun ls hl => ?_)
            refine lv_goto (tgt := 106) hx hb d_M_measure_151 (by decide) ?_
            exact kc106 _ (Option.some.inj h).symm H locs ls hP hD hS (lv_sub hl [1, 2, 3, 0] rfl)
        · intro H locs ls hP hD hS hl
          refine lv_aload_n hx hb d_M_measure_154 rfl (lv_at hl 0 rfl) ?_
          refine va_get (D := D) (ci := 8) (v := .ref q0_d) (C := "ConeForgeModel") (T := FM) (N := 46) hx hb hts iM hown hK hP 0 rfl rfl 12 (by decide) (hts _ (bgc bw696)) (fun _ h9 => h9) rfl d_M_measure_155 ?_
          refine lv_iload_n hx hb d_M_measure_158 rfl (lv_at hl 2 rfl) ?_
          refine lv_aload_n hx hb d_M_measure_159 rfl (lv_at hl 0 rfl) ?_
          refine va_get (D := D) (ci := 8) (v := .ref q0_d) (C := "ConeForgeModel") (T := FM) (N := 46) hx hb hts iM hown hK hP 0 rfl rfl 12 (by decide) (hts _ (bgc bw696)) (fun _ h9 => h9) rfl d_M_measure_160 ?_
          refine lv_iload_n hx hb d_M_measure_163 rfl (lv_at hl 2 rfl) ?_
          obtain ⟨g8, h⟩ := gd_some h
          refine va_dald hx hb hK hP 8 0 rfl rfl (inb_in g8) d_M_measure_164 ?_
          refine lv_aload_n hx hb d_M_measure_165 rfl (lv_at hl 0 rfl) ?_
          refine va_get (D := D) (ci := 8) (v := .ref q0_s) (C := "ConeForgeModel") (T := FM) (N := 46) hx hb hts iM hown hK hP 0 rfl rfl 9 (by decide) (hts _ (bgc bw693)) (fun _ h9 => h9) rfl d_M_measure_166 ?_
          refine lv_iload_n hx hb d_M_measure_169 rfl (lv_at hl 2 rfl) ?_
          obtain ⟨g9, h⟩ := gd_some h
          refine va_dald hx hb hK hP 5 0 rfl rfl (inb_in g9) d_M_measure_170 ?_
          obtain ⟨g10, h⟩ := gd_some h
          refine lv_dsub hx hb d_M_measure_171 (isn_n g10) ?_
          obtain ⟨g11, h⟩ := gd_some h
          refine va_dast hx hb hK hP hD hS 8 0 rfl rfl (inb_in g11) d_M_measure_172 (fun H locs hP hD hS => ?_)
          have hP : va_P D CL (w_M_measure T q0 q0_a q0_b q0_c q0_rowScale q0_columnScale q0_sa q0_sb q0_sc q0_x q0_s q0_y q0_p q0_d q0_h q0_f q0_mm q0_low q0_dd q0_r q0_big q0_dt q0_dx q0_t q0_cost q0_rowScaleNow q0_columnScaleNow q0_basic q0_text q0_turned q0_na q0_nb q0_nc vq0_m vq0_n vq0_length vq0_where vq0_effort vq0_thrown vq0_at vq0_scaled vq0_solved vq0_second vq0_nm vq0_nn vq0_number vq0_bad vq0_sa vq0_sb vq0_sc vq0_x vq0_s vq0_y vq0_p (vf_upd u106 x3.toNatClampNeg (FP.dsub (u106 x3.toNatClampNeg) (vq0_s x3.toNatClampNeg)))) H := hP
          have hD : va_D A (w_M_measure T q0 q0_a q0_b q0_c q0_rowScale q0_columnScale q0_sa q0_sb q0_sc q0_x q0_s q0_y q0_p q0_d q0_h q0_f q0_mm q0_low q0_dd q0_r q0_big q0_dt q0_dx q0_t q0_cost q0_rowScaleNow q0_columnScaleNow q0_basic q0_text q0_turned q0_na q0_nb q0_nc vq0_m vq0_n vq0_length vq0_where vq0_effort vq0_thrown vq0_at vq0_scaled vq0_solved vq0_second vq0_nm vq0_nn vq0_number vq0_bad vq0_sa vq0_sb vq0_sc vq0_x vq0_s vq0_y vq0_p (vf_upd u106 x3.toNatClampNeg (FP.dsub (u106 x3.toNatClampNeg) (vq0_s x3.toNatClampNeg)))) := hD
          refine lv_dload_n hx hb d_M_measure_173 rfl (lv_at hl 1 rfl) ?_
          refine lv_aload_n hx hb d_M_measure_174 rfl (lv_at hl 0 rfl) ?_
          refine va_get (D := D) (ci := 8) (v := .ref q0_x) (C := "ConeForgeModel") (T := FM) (N := 46) hx hb hts iM hown hK hP 0 rfl rfl 8 (by decide) (hts _ (bgc bw692)) (fun _ h9 => h9) rfl d_M_measure_175 ?_
          refine lv_iload_n hx hb d_M_measure_178 rfl (lv_at hl 2 rfl) ?_
          obtain ⟨g12, h⟩ := gd_some h
          refine va_dald hx hb hK hP 4 0 rfl rfl (inb_in g12) d_M_measure_179 ?_
          refine lv_aload_n hx hb d_M_measure_180 rfl (lv_at hl 0 rfl) ?_
          refine va_get (D := D) (ci := 8) (v := .ref q0_s) (C := "ConeForgeModel") (T := FM) (N := 46) hx hb hts iM hown hK hP 0 rfl rfl 9 (by decide) (hts _ (bgc bw693)) (fun _ h9 => h9) rfl d_M_measure_181 ?_
          refine lv_iload_n hx hb d_M_measure_184 rfl (lv_at hl 2 rfl) ?_
          obtain ⟨g13, h⟩ := gd_some h
          refine va_dald hx hb hK hP 5 0 rfl rfl (inb_in g13) d_M_measure_185 ?_
          obtain ⟨g14, h⟩ := gd_some h
          refine lv_dmul hx hb d_M_measure_186 (isn_n g14) ?_
          obtain ⟨g15, h⟩ := gd_some h
          refine lv_dadd hx hb d_M_measure_187 (isn_n g15) ?_
          refine lv_dstore_n (lv' := [(1, .double (FP.dadd x1 (FP.dmul (vq0_x x3.toNatClampNeg) (vq0_s x3.toNatClampNeg)))), (0, .ref q0), (3, .int x3)]) hx hb d_M_measure_188 rfl hl (by decide) rfl (fun ls hl => ?_)
          refine lv_iinc (v := x3 + 1) (lv' := [(3, .int (x3 + 1)), (1, .double (FP.dadd x1 (FP.dmul (vq0_x x3.toNatClampNeg) (vq0_s x3.toNatClampNeg)))), (0, .ref q0)]) hx hb d_M_measure_189 hl (k := 2) rfl rfl (by decide) rfl (fun ls hl => ?_)
          refine lv_goto (tgt := 83) hx hb d_M_measure_192 (by decide) ?_
          exact kc83 _ (Option.some.inj h).symm H locs ls hP hD hS (lv_sub hl [2, 1, 0] rfl)
      unfold s_M_measure_B83 at h
      refine lv_iload_n hx hb d_M_measure_83 rfl (lv_at hl 2 rfl) ?_
      refine lv_aload_n hx hb d_M_measure_84 rfl (lv_at hl 0 rfl) ?_
      refine va_get (D := D) (ci := 8) (v := .int vq0_n) (C := "ConeForgeModel") (T := FM) (N := 46) hx hb hts iM hown hK hP 0 rfl rfl 30 (by decide) (hts _ (bgc bw714)) (fun _ h9 => h9) rfl d_M_measure_85 ?_
      refine lv_icmp_ge (tgt := 195) hx hb d_M_measure_88 (by decide) (fun c16 => ?_) (fun c16 => ?_)
      · have h := it_t c16 h
        exact kx83 _ (Option.some.inj h).symm H locs ls hP hD hS (lv_sub hl [1] rfl)
      · have h := it_f c16 h
        refine lv_aload_n hx hb d_M_measure_91 rfl (lv_at hl 0 rfl) ?_
        refine va_get (D := D) (ci := 8) (v := .ref q0_d) (C := "ConeForgeModel") (T := FM) (N := 46) hx hb hts iM hown hK hP 0 rfl rfl 12 (by decide) (hts _ (bgc bw696)) (fun _ h9 => h9) rfl d_M_measure_92 ?_
        refine lv_iload_n hx hb d_M_measure_95 rfl (lv_at hl 2 rfl) ?_
        refine lv_aload_n hx hb d_M_measure_96 rfl (lv_at hl 0 rfl) ?_
        refine va_get (D := D) (ci := 8) (v := .ref q0_sc) (C := "ConeForgeModel") (T := FM) (N := 46) hx hb hts iM hown hK hP 0 rfl rfl 7 (by decide) (hts _ (bgc bw691)) (fun _ h9 => h9) rfl d_M_measure_97 ?_
        refine lv_iload_n hx hb d_M_measure_100 rfl (lv_at hl 2 rfl) ?_
        obtain ⟨g17, h⟩ := gd_some h
        refine va_dald hx hb hK hP 3 0 rfl rfl (inb_in g17) d_M_measure_101 ?_
        obtain ⟨g18, h⟩ := gd_some h
        refine va_dast hx hb hK hP hD hS 8 0 rfl rfl (inb_in g18) d_M_measure_102 (fun H locs hP hD hS => ?_)
        have hP : va_P D CL (w_M_measure T q0 q0_a q0_b q0_c q0_rowScale q0_columnScale q0_sa q0_sb q0_sc q0_x q0_s q0_y q0_p q0_d q0_h q0_f q0_mm q0_low q0_dd q0_r q0_big q0_dt q0_dx q0_t q0_cost q0_rowScaleNow q0_columnScaleNow q0_basic q0_text q0_turned q0_na q0_nb q0_nc vq0_m vq0_n vq0_length vq0_where vq0_effort vq0_thrown vq0_at vq0_scaled vq0_solved vq0_second vq0_nm vq0_nn vq0_number vq0_bad vq0_sa vq0_sb vq0_sc vq0_x vq0_s vq0_y vq0_p (vf_upd vq0_d x3.toNatClampNeg (vq0_sc x3.toNatClampNeg))) H := hP
        have hD : va_D A (w_M_measure T q0 q0_a q0_b q0_c q0_rowScale q0_columnScale q0_sa q0_sb q0_sc q0_x q0_s q0_y q0_p q0_d q0_h q0_f q0_mm q0_low q0_dd q0_r q0_big q0_dt q0_dx q0_t q0_cost q0_rowScaleNow q0_columnScaleNow q0_basic q0_text q0_turned q0_na q0_nb q0_nc vq0_m vq0_n vq0_length vq0_where vq0_effort vq0_thrown vq0_at vq0_scaled vq0_solved vq0_second vq0_nm vq0_nn vq0_number vq0_bad vq0_sa vq0_sb vq0_sc vq0_x vq0_s vq0_y vq0_p (vf_upd vq0_d x3.toNatClampNeg (vq0_sc x3.toNatClampNeg))) := hD
        refine lv_iconst (v := 0) hx hb d_M_measure_103 (by decide) ?_
        refine lv_istore (lv' := [(4, .int 0), (0, .ref q0), (1, .double x1), (3, .int x3)]) hx hb d_M_measure_104 hl (by decide) rfl (fun ls hl => ?_)
        exact L106 (vf_upd vq0_d x3.toNatClampNeg (vq0_sc x3.toNatClampNeg)) x1 x3 0 H locs ls hP hD hS (lv_sub hl [1, 2, 3, 0] rfl) h
    · intro H locs ls hP hD hS hl
      refine lv_dload_n hx hb d_M_measure_195 rfl (lv_at hl 0 rfl) ?_
      exact rtD hx hb hr hlocks hQ (Option.some.inj h) hP hS d_M_measure_196 rfl rfl
  have L4 : ∀ (vq0_p : Nat → UInt64) (vq0_d : Nat → UInt64) (x1 : UInt64) (x3 : Int32), ∀ (H : Heap) (locs : List Loc) (ls : Array Slot), va_P D CL (w_M_measure T q0 q0_a q0_b q0_c q0_rowScale q0_columnScale q0_sa q0_sb q0_sc q0_x q0_s q0_y q0_p q0_d q0_h q0_f q0_mm q0_low q0_dd q0_r q0_big q0_dt q0_dx q0_t q0_cost q0_rowScaleNow q0_columnScaleNow q0_basic q0_text q0_turned q0_na q0_nb q0_nc vq0_m vq0_n vq0_length vq0_where vq0_effort vq0_thrown vq0_at vq0_scaled vq0_solved vq0_second vq0_nm vq0_nn vq0_number vq0_bad vq0_sa vq0_sb vq0_sc vq0_x vq0_s vq0_y vq0_p vq0_d) H → va_D A (w_M_measure T q0 q0_a q0_b q0_c q0_rowScale q0_columnScale q0_sa q0_sb q0_sc q0_x q0_s q0_y q0_p q0_d q0_h q0_f q0_mm q0_low q0_dd q0_r q0_big q0_dt q0_dx q0_t q0_cost q0_rowScaleNow q0_columnScaleNow q0_basic q0_text q0_turned q0_na q0_nb q0_nc vq0_m vq0_n vq0_length vq0_where vq0_effort vq0_thrown vq0_at vq0_scaled vq0_solved vq0_second vq0_nm vq0_nn vq0_number vq0_bad vq0_sa vq0_sb vq0_sc vq0_x vq0_s vq0_y vq0_p vq0_d) → va_S A s.heap H locs → lv_has ls 5 [(0, .ref q0), (1, .double x1), (3, .int x3)] → s_M_measure_L4 vq0_m vq0_n vq0_length vq0_where vq0_effort vq0_thrown vq0_at vq0_scaled vq0_solved vq0_second vq0_nm vq0_nn vq0_number vq0_bad vq0_sa vq0_sb vq0_sc vq0_x vq0_s vq0_y vq0_p vq0_d x1 x3 = some rm → W p l e (rmk 0 0) s m args below meth c H locs 0 0 Q (F0 m 4 ls []) := by
    intro vq0_p vq0_d x1 x3 H locs ls hP hD hS hl h
    unfold s_M_measure_L4 at h
    obtain ⟨u4, hu4, h⟩ := bi_some h
    refine loopO_W (Wh := fun (st : (Nat → UInt64) × Int32) => ∀ (H : Heap) (locs : List Loc) (ls : Array Slot), va_P D CL (w_M_measure T q0 q0_a q0_b q0_c q0_rowScale q0_columnScale q0_sa q0_sb q0_sc q0_x q0_s q0_y q0_p q0_d q0_h q0_f q0_mm q0_low q0_dd q0_r q0_big q0_dt q0_dx q0_t q0_cost q0_rowScaleNow q0_columnScaleNow q0_basic q0_text q0_turned q0_na q0_nb q0_nc vq0_m vq0_n vq0_length vq0_where vq0_effort vq0_thrown vq0_at vq0_scaled vq0_solved vq0_second vq0_nm vq0_nn vq0_number vq0_bad vq0_sa vq0_sb vq0_sc vq0_x vq0_s vq0_y st.1 vq0_d) H → va_D A (w_M_measure T q0 q0_a q0_b q0_c q0_rowScale q0_columnScale q0_sa q0_sb q0_sc q0_x q0_s q0_y q0_p q0_d q0_h q0_f q0_mm q0_low q0_dd q0_r q0_big q0_dt q0_dx q0_t q0_cost q0_rowScaleNow q0_columnScaleNow q0_basic q0_text q0_turned q0_na q0_nb q0_nc vq0_m vq0_n vq0_length vq0_where vq0_effort vq0_thrown vq0_at vq0_scaled vq0_solved vq0_second vq0_nm vq0_nn vq0_number vq0_bad vq0_sa vq0_sb vq0_sc vq0_x vq0_s vq0_y st.1 vq0_d) → va_S A s.heap H locs → lv_has ls 5 [(0, .ref q0), (1, .double x1), (3, .int st.2)] → W p l e (rmk 0 0) s m args below meth c H locs 0 0 Q (F0 m 4 ls [])) (Wx := fun (e1 : (Nat → UInt64)) => ∀ (H : Heap) (locs : List Loc) (ls : Array Slot), va_P D CL (w_M_measure T q0 q0_a q0_b q0_c q0_rowScale q0_columnScale q0_sa q0_sb q0_sc q0_x q0_s q0_y q0_p q0_d q0_h q0_f q0_mm q0_low q0_dd q0_r q0_big q0_dt q0_dx q0_t q0_cost q0_rowScaleNow q0_columnScaleNow q0_basic q0_text q0_turned q0_na q0_nb q0_nc vq0_m vq0_n vq0_length vq0_where vq0_effort vq0_thrown vq0_at vq0_scaled vq0_solved vq0_second vq0_nm vq0_nn vq0_number vq0_bad vq0_sa vq0_sb vq0_sc vq0_x vq0_s vq0_y e1 vq0_d) H → va_D A (w_M_measure T q0 q0_a q0_b q0_c q0_rowScale q0_columnScale q0_sa q0_sb q0_sc q0_x q0_s q0_y q0_p q0_d q0_h q0_f q0_mm q0_low q0_dd q0_r q0_big q0_dt q0_dx q0_t q0_cost q0_rowScaleNow q0_columnScaleNow q0_basic q0_text q0_turned q0_na q0_nb q0_nc vq0_m vq0_n vq0_length vq0_where vq0_effort vq0_thrown vq0_at vq0_scaled vq0_solved vq0_second vq0_nm vq0_nn vq0_number vq0_bad vq0_sa vq0_sb vq0_sc vq0_x vq0_s vq0_y e1 vq0_d) → va_S A s.heap H locs → lv_has ls 5 [(0, .ref q0), (1, .double x1)] → W p l e (rmk 0 0) s m args below meth c H locs 0 0 Q (F0 m 81 ls [])) ?_ 2000 _ u4 hu4 ?_ H locs ls hP hD hS hl
    · intro st rb4 h kc4 kx4 H locs ls hP hD hS hl
      obtain ⟨vq0_p, x3⟩ := st
      have h : s_M_measure_B4 vq0_m vq0_n vq0_length vq0_where vq0_effort vq0_thrown vq0_at vq0_scaled vq0_solved vq0_second vq0_nm vq0_nn vq0_number vq0_bad vq0_sa vq0_sb vq0_sc vq0_x vq0_s vq0_y vq0_d x1 vq0_p x3 = some rb4 := h
      have L27 : ∀ (vq0_p : Nat → UInt64) (x3 : Int32) (x4 : Int32), ∀ (H : Heap) (locs : List Loc) (ls : Array Slot), va_P D CL (w_M_measure T q0 q0_a q0_b q0_c q0_rowScale q0_columnScale q0_sa q0_sb q0_sc q0_x q0_s q0_y q0_p q0_d q0_h q0_f q0_mm q0_low q0_dd q0_r q0_big q0_dt q0_dx q0_t q0_cost q0_rowScaleNow q0_columnScaleNow q0_basic q0_text q0_turned q0_na q0_nb q0_nc vq0_m vq0_n vq0_length vq0_where vq0_effort vq0_thrown vq0_at vq0_scaled vq0_solved vq0_second vq0_nm vq0_nn vq0_number vq0_bad vq0_sa vq0_sb vq0_sc vq0_x vq0_s vq0_y vq0_p vq0_d) H → va_D A (w_M_measure T q0 q0_a q0_b q0_c q0_rowScale q0_columnScale q0_sa q0_sb q0_sc q0_x q0_s q0_y q0_p q0_d q0_h q0_f q0_mm q0_low q0_dd q0_r q0_big q0_dt q0_dx q0_t q0_cost q0_rowScaleNow q0_columnScaleNow q0_basic q0_text q0_turned q0_na q0_nb q0_nc vq0_m vq0_n vq0_length vq0_where vq0_effort vq0_thrown vq0_at vq0_scaled vq0_solved vq0_second vq0_nm vq0_nn vq0_number vq0_bad vq0_sa vq0_sb vq0_sc vq0_x vq0_s vq0_y vq0_p vq0_d) → va_S A s.heap H locs → lv_has ls 5 [(0, .ref q0), (1, .double x1), (3, .int x3), (4, .int x4)] → s_M_measure_L27 vq0_m vq0_n vq0_length vq0_where vq0_effort vq0_thrown vq0_at vq0_scaled vq0_solved vq0_second vq0_nm vq0_nn vq0_number vq0_bad vq0_sa vq0_sb vq0_sc vq0_x vq0_s vq0_y vq0_p vq0_d x1 x3 x4 = some rb4 → W p l e (rmk 0 0) s m args below meth c H locs 0 0 Q (F0 m 27 ls []) := by
        intro vq0_p x3 x4 H locs ls hP hD hS hl h
        unfold s_M_measure_L27 at h
        obtain ⟨u27, hu27, h⟩ := bi_some h
        refine loopO_W (Wh := fun (st : (Nat → UInt64) × Int32) => ∀ (H : Heap) (locs : List Loc) (ls : Array Slot), va_P D CL (w_M_measure T q0 q0_a q0_b q0_c q0_rowScale q0_columnScale q0_sa q0_sb q0_sc q0_x q0_s q0_y q0_p q0_d q0_h q0_f q0_mm q0_low q0_dd q0_r q0_big q0_dt q0_dx q0_t q0_cost q0_rowScaleNow q0_columnScaleNow q0_basic q0_text q0_turned q0_na q0_nb q0_nc vq0_m vq0_n vq0_length vq0_where vq0_effort vq0_thrown vq0_at vq0_scaled vq0_solved vq0_second vq0_nm vq0_nn vq0_number vq0_bad vq0_sa vq0_sb vq0_sc vq0_x vq0_s vq0_y st.1 vq0_d) H → va_D A (w_M_measure T q0 q0_a q0_b q0_c q0_rowScale q0_columnScale q0_sa q0_sb q0_sc q0_x q0_s q0_y q0_p q0_d q0_h q0_f q0_mm q0_low q0_dd q0_r q0_big q0_dt q0_dx q0_t q0_cost q0_rowScaleNow q0_columnScaleNow q0_basic q0_text q0_turned q0_na q0_nb q0_nc vq0_m vq0_n vq0_length vq0_where vq0_effort vq0_thrown vq0_at vq0_scaled vq0_solved vq0_second vq0_nm vq0_nn vq0_number vq0_bad vq0_sa vq0_sb vq0_sc vq0_x vq0_s vq0_y st.1 vq0_d) → va_S A s.heap H locs → lv_has ls 5 [(0, .ref q0), (1, .double x1), (3, .int x3), (4, .int st.2)] → W p l e (rmk 0 0) s m args below meth c H locs 0 0 Q (F0 m 27 ls [])) (Wx := fun (e1 : (Nat → UInt64)) => ∀ (H : Heap) (locs : List Loc) (ls : Array Slot), va_P D CL (w_M_measure T q0 q0_a q0_b q0_c q0_rowScale q0_columnScale q0_sa q0_sb q0_sc q0_x q0_s q0_y q0_p q0_d q0_h q0_f q0_mm q0_low q0_dd q0_r q0_big q0_dt q0_dx q0_t q0_cost q0_rowScaleNow q0_columnScaleNow q0_basic q0_text q0_turned q0_na q0_nb q0_nc vq0_m vq0_n vq0_length vq0_where vq0_effort vq0_thrown vq0_at vq0_scaled vq0_solved vq0_second vq0_nm vq0_nn vq0_number vq0_bad vq0_sa vq0_sb vq0_sc vq0_x vq0_s vq0_y e1 vq0_d) H → va_D A (w_M_measure T q0 q0_a q0_b q0_c q0_rowScale q0_columnScale q0_sa q0_sb q0_sc q0_x q0_s q0_y q0_p q0_d q0_h q0_f q0_mm q0_low q0_dd q0_r q0_big q0_dt q0_dx q0_t q0_cost q0_rowScaleNow q0_columnScaleNow q0_basic q0_text q0_turned q0_na q0_nb q0_nc vq0_m vq0_n vq0_length vq0_where vq0_effort vq0_thrown vq0_at vq0_scaled vq0_solved vq0_second vq0_nm vq0_nn vq0_number vq0_bad vq0_sa vq0_sb vq0_sc vq0_x vq0_s vq0_y e1 vq0_d) → va_S A s.heap H locs → lv_has ls 5 [(0, .ref q0), (1, .double x1), (3, .int x3)] → W p l e (rmk 0 0) s m args below meth c H locs 0 0 Q (F0 m 75 ls [])) ?_ 2000 _ u27 hu27 ?_ H locs ls hP hD hS hl
        · intro st rb27 h kc27 kx27 H locs ls hP hD hS hl
          obtain ⟨vq0_p, x4⟩ := st
          have h : s_M_measure_B27 vq0_m vq0_n vq0_length vq0_where vq0_effort vq0_thrown vq0_at vq0_scaled vq0_solved vq0_second vq0_nm vq0_nn vq0_number vq0_bad vq0_sa vq0_sb vq0_sc vq0_x vq0_s vq0_y vq0_d x1 x3 vq0_p x4 = some rb27 := h
          unfold s_M_measure_B27 at h
          refine lv_iload hx hb d_M_measure_27 (lv_at hl 3 rfl) ?_
          refine lv_aload_n hx hb d_M_measure_29 rfl (lv_at hl 0 rfl) ?_
          refine va_get (D := D) (ci := 8) (v := .int vq0_n) (C := "ConeForgeModel") (T := FM) (N := 46) hx hb hts iM hown hK hP 0 rfl rfl 30 (by decide) (hts _ (bgc bw714)) (fun _ h9 => h9) rfl d_M_measure_30 ?_
          refine lv_icmp_ge (tgt := 75) hx hb d_M_measure_33 (by decide) (fun c19 => ?_) (fun c19 => ?_)
          · have h := it_t c19 h
            exact kx27 _ (Option.some.inj h).symm H locs ls hP hD hS (lv_sub hl [0, 1, 2] rfl)
          · have h := it_f c19 h
            refine lv_aload_n hx hb d_M_measure_36 rfl (lv_at hl 0 rfl) ?_
            refine va_get (D := D) (ci := 8) (v := .ref q0_p) (C := "ConeForgeModel") (T := FM) (N := 46) hx hb hts iM hown hK hP 0 rfl rfl 11 (by decide) (hts _ (bgc bw695)) (fun _ h9 => h9) rfl d_M_measure_37 ?_
            refine lv_iload_n hx hb d_M_measure_40 rfl (lv_at hl 2 rfl) ?_
            refine lv_aload_n hx hb d_M_measure_41 rfl (lv_at hl 0 rfl) ?_
            refine va_get (D := D) (ci := 8) (v := .ref q0_p) (C := "ConeForgeModel") (T := FM) (N := 46) hx hb hts iM hown hK hP 0 rfl rfl 11 (by decide) (hts _ (bgc bw695)) (fun _ h9 => h9) rfl d_M_measure_42 ?_
            refine lv_iload_n hx hb d_M_measure_45 rfl (lv_at hl 2 rfl) ?_
            obtain ⟨g20, h⟩ := gd_some h
            refine va_dald hx hb hK hP 7 0 rfl rfl (inb_in g20) d_M_measure_46 ?_
            refine lv_aload_n hx hb d_M_measure_47 rfl (lv_at hl 0 rfl) ?_
            refine va_get (D := D) (ci := 8) (v := .ref q0_sa) (C := "ConeForgeModel") (T := FM) (N := 46) hx hb hts iM hown hK hP 0 rfl rfl 5 (by decide) (hts _ (bgc bw689)) (fun _ h9 => h9) rfl d_M_measure_48 ?_
            refine lv_bipush (v := 8) hx hb d_M_measure_51 (by decide) ?_
            refine lv_iload_n hx hb d_M_measure_53 rfl (lv_at hl 2 rfl) ?_
            refine lv_imul hx hb d_M_measure_54 ?_
            refine lv_iload hx hb d_M_measure_55 (lv_at hl 3 rfl) ?_
            refine lv_iadd hx hb d_M_measure_57 ?_
            obtain ⟨g21, h⟩ := gd_some h
            refine va_dald hx hb hK hP 1 0 rfl rfl (inb_in g21) d_M_measure_58 ?_
            refine lv_aload_n hx hb d_M_measure_59 rfl (lv_at hl 0 rfl) ?_
            refine va_get (D := D) (ci := 8) (v := .ref q0_x) (C := "ConeForgeModel") (T := FM) (N := 46) hx hb hts iM hown hK hP 0 rfl rfl 8 (by decide) (hts _ (bgc bw692)) (fun _ h9 => h9) rfl d_M_measure_60 ?_
            refine lv_iload hx hb d_M_measure_63 (lv_at hl 3 rfl) ?_
            obtain ⟨g22, h⟩ := gd_some h
            refine va_dald hx hb hK hP 4 0 rfl rfl (inb_in g22) d_M_measure_65 ?_
            obtain ⟨g23, h⟩ := gd_some h
            refine lv_dmul hx hb d_M_measure_66 (isn_n g23) ?_
            obtain ⟨g24, h⟩ := gd_some h
            refine lv_dsub hx hb d_M_measure_67 (isn_n g24) ?_
            obtain ⟨g25, h⟩ := gd_some h
            refine va_dast hx hb hK hP hD hS 7 0 rfl rfl (inb_in g25) d_M_measure_68 (fun H locs hP hD hS => ?_)
            have hP : va_P D CL (w_M_measure T q0 q0_a q0_b q0_c q0_rowScale q0_columnScale q0_sa q0_sb q0_sc q0_x q0_s q0_y q0_p q0_d q0_h q0_f q0_mm q0_low q0_dd q0_r q0_big q0_dt q0_dx q0_t q0_cost q0_rowScaleNow q0_columnScaleNow q0_basic q0_text q0_turned q0_na q0_nb q0_nc vq0_m vq0_n vq0_length vq0_where vq0_effort vq0_thrown vq0_at vq0_scaled vq0_solved vq0_second vq0_nm vq0_nn vq0_number vq0_bad vq0_sa vq0_sb vq0_sc vq0_x vq0_s vq0_y (vf_upd vq0_p x3.toNatClampNeg (FP.dsub (vq0_p x3.toNatClampNeg) (FP.dmul (vq0_sa ((8 * x3) + x4).toNatClampNeg) (vq0_x x4.toNatClampNeg)))) vq0_d) H := hP
            have hD : va_D A (w_M_measure T q0 q0_a q0_b q0_c q0_rowScale q0_columnScale q0_sa q0_sb q0_sc q0_x q0_s q0_y q0_p q0_d q0_h q0_f q0_mm q0_low q0_dd q0_r q0_big q0_dt q0_dx q0_t q0_cost q0_rowScaleNow q0_columnScaleNow q0_basic q0_text q0_turned q0_na q0_nb q0_nc vq0_m vq0_n vq0_length vq0_where vq0_effort vq0_thrown vq0_at vq0_scaled vq0_solved vq0_second vq0_nm vq0_nn vq0_number vq0_bad vq0_sa vq0_sb vq0_sc vq0_x vq0_s vq0_y (vf_upd vq0_p x3.toNatClampNeg (FP.dsub (vq0_p x3.toNatClampNeg) (FP.dmul (vq0_sa ((8 * x3) + x4).toNatClampNeg) (vq0_x x4.toNatClampNeg)))) vq0_d) := hD
            refine lv_iinc (v := x4 + 1) (lv' := [(4, .int (x4 + 1)), (0, .ref q0), (1, .double x1), (3, .int x3)]) hx hb d_M_measure_69 hl (k := 3) rfl rfl (by decide) rfl (fun ls hl => ?_)
            refine lv_goto (tgt := 27) hx hb d_M_measure_72 (by decide) ?_
            exact kc27 _ (Option.some.inj h).symm H locs ls hP hD hS (lv_sub hl [1, 2, 3, 0] rfl)
        · intro H locs ls hP hD hS hl
          refine lv_iinc (v := x3 + 1) (lv' := [(3, .int (x3 + 1)), (0, .ref q0), (1, .double x1)]) hx hb d_M_measure_75 hl (k := 2) rfl rfl (by decide) rfl (fun ls hl => ?_)
          refine lv_goto (tgt := 4) hx hb d_M_measure_78 (by decide) ?_
          exact kc4 _ (Option.some.inj h).symm H locs ls hP hD hS (lv_sub hl [1, 2, 0] rfl)
      unfold s_M_measure_B4 at h
      refine lv_iload_n hx hb d_M_measure_4 rfl (lv_at hl 2 rfl) ?_
      refine lv_aload_n hx hb d_M_measure_5 rfl (lv_at hl 0 rfl) ?_
      refine va_get (D := D) (ci := 8) (v := .int vq0_m) (C := "ConeForgeModel") (T := FM) (N := 46) hx hb hts iM hown hK hP 0 rfl rfl 29 (by decide) (hts _ (bgc bw713)) (fun _ h9 => h9) rfl d_M_measure_6 ?_
      refine lv_icmp_ge (tgt := 81) hx hb d_M_measure_9 (by decide) (fun c26 => ?_) (fun c26 => ?_)
      · have h := it_t c26 h
        exact kx4 _ (Option.some.inj h).symm H locs ls hP hD hS (lv_sub hl [0, 1] rfl)
      · have h := it_f c26 h
        refine lv_aload_n hx hb d_M_measure_12 rfl (lv_at hl 0 rfl) ?_
        refine va_get (D := D) (ci := 8) (v := .ref q0_p) (C := "ConeForgeModel") (T := FM) (N := 46) hx hb hts iM hown hK hP 0 rfl rfl 11 (by decide) (hts _ (bgc bw695)) (fun _ h9 => h9) rfl d_M_measure_13 ?_
        refine lv_iload_n hx hb d_M_measure_16 rfl (lv_at hl 2 rfl) ?_
        refine lv_aload_n hx hb d_M_measure_17 rfl (lv_at hl 0 rfl) ?_
        refine va_get (D := D) (ci := 8) (v := .ref q0_sb) (C := "ConeForgeModel") (T := FM) (N := 46) hx hb hts iM hown hK hP 0 rfl rfl 6 (by decide) (hts _ (bgc bw690)) (fun _ h9 => h9) rfl d_M_measure_18 ?_
        refine lv_iload_n hx hb d_M_measure_21 rfl (lv_at hl 2 rfl) ?_
        obtain ⟨g27, h⟩ := gd_some h
        refine va_dald hx hb hK hP 2 0 rfl rfl (inb_in g27) d_M_measure_22 ?_
        obtain ⟨g28, h⟩ := gd_some h
        refine va_dast hx hb hK hP hD hS 7 0 rfl rfl (inb_in g28) d_M_measure_23 (fun H locs hP hD hS => ?_)
        have hP : va_P D CL (w_M_measure T q0 q0_a q0_b q0_c q0_rowScale q0_columnScale q0_sa q0_sb q0_sc q0_x q0_s q0_y q0_p q0_d q0_h q0_f q0_mm q0_low q0_dd q0_r q0_big q0_dt q0_dx q0_t q0_cost q0_rowScaleNow q0_columnScaleNow q0_basic q0_text q0_turned q0_na q0_nb q0_nc vq0_m vq0_n vq0_length vq0_where vq0_effort vq0_thrown vq0_at vq0_scaled vq0_solved vq0_second vq0_nm vq0_nn vq0_number vq0_bad vq0_sa vq0_sb vq0_sc vq0_x vq0_s vq0_y (vf_upd vq0_p x3.toNatClampNeg (vq0_sb x3.toNatClampNeg)) vq0_d) H := hP
        have hD : va_D A (w_M_measure T q0 q0_a q0_b q0_c q0_rowScale q0_columnScale q0_sa q0_sb q0_sc q0_x q0_s q0_y q0_p q0_d q0_h q0_f q0_mm q0_low q0_dd q0_r q0_big q0_dt q0_dx q0_t q0_cost q0_rowScaleNow q0_columnScaleNow q0_basic q0_text q0_turned q0_na q0_nb q0_nc vq0_m vq0_n vq0_length vq0_where vq0_effort vq0_thrown vq0_at vq0_scaled vq0_solved vq0_second vq0_nm vq0_nn vq0_number vq0_bad vq0_sa vq0_sb vq0_sc vq0_x vq0_s vq0_y (vf_upd vq0_p x3.toNatClampNeg (vq0_sb x3.toNatClampNeg)) vq0_d) := hD
        refine lv_iconst (v := 0) hx hb d_M_measure_24 (by decide) ?_
        refine lv_istore (lv' := [(4, .int 0), (0, .ref q0), (1, .double x1), (3, .int x3)]) hx hb d_M_measure_25 hl (by decide) rfl (fun ls hl => ?_)
        exact L27 (vf_upd vq0_p x3.toNatClampNeg (vq0_sb x3.toNatClampNeg)) x3 0 H locs ls hP hD hS (lv_sub hl [1, 2, 3, 0] rfl) h
    · intro H locs ls hP hD hS hl
      refine lv_iconst (v := 0) hx hb d_M_measure_81 (by decide) ?_
      refine lv_istore_n (lv' := [(3, .int 0), (0, .ref q0), (1, .double x1)]) hx hb d_M_measure_82 rfl hl (by decide) rfl (fun ls hl => ?_)
      exact L83 u4 vq0_d x1 0 H locs ls hP hD hS (lv_sub hl [1, 2, 0] rfl) h
  unfold s_M_measure at h
  refine lv_dconst0 hx hb d_M_measure_0 ?_
  refine lv_dstore_n (lv' := [(1, .double FP.dconst0), (0, .ref q0)]) hx hb d_M_measure_1 rfl hl (by decide) rfl (fun ls hl => ?_)
  refine lv_iconst (v := 0) hx hb d_M_measure_2 (by decide) ?_
  refine lv_istore_n (lv' := [(3, .int 0), (1, .double FP.dconst0), (0, .ref q0)]) hx hb d_M_measure_3 rfl hl (by decide) rfl (fun ls hl => ?_)
  exact L4 vq0_p vq0_d FP.dconst0 0 H locs ls hP hD hS (lv_sub hl [2, 1, 0] rfl) h
theorem d_M_isSolved_0 : decode prog_10_method_23_code 0 = .ok (.dconst 0, 1) := by decide +kernel
theorem d_M_isSolved_1 : decode prog_10_method_23_code 1 = .ok (.dstore_n 3, 1) := by decide +kernel
theorem d_M_isSolved_2 : decode prog_10_method_23_code 2 = .ok (.dconst 0, 1) := by decide +kernel
theorem d_M_isSolved_3 : decode prog_10_method_23_code 3 = .ok (.dstore 5, 2) := by decide +kernel
theorem d_M_isSolved_5 : decode prog_10_method_23_code 5 = .ok (.dconst 0, 1) := by decide +kernel
theorem d_M_isSolved_6 : decode prog_10_method_23_code 6 = .ok (.dstore 7, 2) := by decide +kernel
theorem d_M_isSolved_8 : decode prog_10_method_23_code 8 = .ok (.dconst 0, 1) := by decide +kernel
theorem d_M_isSolved_9 : decode prog_10_method_23_code 9 = .ok (.dstore 9, 2) := by decide +kernel
theorem d_M_isSolved_11 : decode prog_10_method_23_code 11 = .ok (.dconst 0, 1) := by decide +kernel
theorem d_M_isSolved_12 : decode prog_10_method_23_code 12 = .ok (.dstore 11, 2) := by decide +kernel
theorem d_M_isSolved_14 : decode prog_10_method_23_code 14 = .ok (.iconst 0, 1) := by decide +kernel
theorem d_M_isSolved_15 : decode prog_10_method_23_code 15 = .ok (.istore 13, 2) := by decide +kernel
theorem d_M_isSolved_17 : decode prog_10_method_23_code 17 = .ok (.iload 13, 2) := by decide +kernel
theorem d_M_isSolved_19 : decode prog_10_method_23_code 19 = .ok (.aload_n 0, 1) := by decide +kernel
theorem d_M_isSolved_20 : decode prog_10_method_23_code 20 = .ok (.getfield 103, 3) := by decide +kernel
theorem d_M_isSolved_23 : decode prog_10_method_23_code 23 = .ok (.if_icmp .ge 61, 3) := by decide +kernel
theorem d_M_isSolved_26 : decode prog_10_method_23_code 26 = .ok (.dload_n 3, 1) := by decide +kernel
theorem d_M_isSolved_27 : decode prog_10_method_23_code 27 = .ok (.aload_n 0, 1) := by decide +kernel
theorem d_M_isSolved_28 : decode prog_10_method_23_code 28 = .ok (.getfield 31, 3) := by decide +kernel
theorem d_M_isSolved_31 : decode prog_10_method_23_code 31 = .ok (.iload 13, 2) := by decide +kernel
theorem d_M_isSolved_33 : decode prog_10_method_23_code 33 = .ok (.daload, 1) := by decide +kernel
theorem d_M_isSolved_34 : decode prog_10_method_23_code 34 = .ok (.aload_n 0, 1) := by decide +kernel
theorem d_M_isSolved_35 : decode prog_10_method_23_code 35 = .ok (.getfield 34, 3) := by decide +kernel
theorem d_M_isSolved_38 : decode prog_10_method_23_code 38 = .ok (.iload 13, 2) := by decide +kernel
theorem d_M_isSolved_40 : decode prog_10_method_23_code 40 = .ok (.daload, 1) := by decide +kernel
theorem d_M_isSolved_41 : decode prog_10_method_23_code 41 = .ok (.dmul, 1) := by decide +kernel
theorem d_M_isSolved_42 : decode prog_10_method_23_code 42 = .ok (.dadd, 1) := by decide +kernel
theorem d_M_isSolved_43 : decode prog_10_method_23_code 43 = .ok (.dstore_n 3, 1) := by decide +kernel
theorem d_M_isSolved_44 : decode prog_10_method_23_code 44 = .ok (.dload 7, 2) := by decide +kernel
theorem d_M_isSolved_46 : decode prog_10_method_23_code 46 = .ok (.aload_n 0, 1) := by decide +kernel
theorem d_M_isSolved_47 : decode prog_10_method_23_code 47 = .ok (.getfield 46, 3) := by decide +kernel
theorem d_M_isSolved_50 : decode prog_10_method_23_code 50 = .ok (.iload 13, 2) := by decide +kernel
theorem d_M_isSolved_52 : decode prog_10_method_23_code 52 = .ok (.daload, 1) := by decide +kernel
theorem d_M_isSolved_53 : decode prog_10_method_23_code 53 = .ok (.invokestatic 197, 3) := by decide +kernel
theorem d_M_isSolved_56 : decode prog_10_method_23_code 56 = .ok (.invokestatic 201, 3) := by decide +kernel
theorem d_M_isSolved_59 : decode prog_10_method_23_code 59 = .ok (.dstore 7, 2) := by decide +kernel
theorem d_M_isSolved_61 : decode prog_10_method_23_code 61 = .ok (.dload 11, 2) := by decide +kernel
theorem d_M_isSolved_63 : decode prog_10_method_23_code 63 = .ok (.aload_n 0, 1) := by decide +kernel
theorem d_M_isSolved_64 : decode prog_10_method_23_code 64 = .ok (.getfield 31, 3) := by decide +kernel
theorem d_M_isSolved_67 : decode prog_10_method_23_code 67 = .ok (.iload 13, 2) := by decide +kernel
theorem d_M_isSolved_69 : decode prog_10_method_23_code 69 = .ok (.daload, 1) := by decide +kernel
theorem d_M_isSolved_70 : decode prog_10_method_23_code 70 = .ok (.invokestatic 197, 3) := by decide +kernel
theorem d_M_isSolved_73 : decode prog_10_method_23_code 73 = .ok (.invokestatic 201, 3) := by decide +kernel
theorem d_M_isSolved_76 : decode prog_10_method_23_code 76 = .ok (.dstore 11, 2) := by decide +kernel
theorem d_M_isSolved_78 : decode prog_10_method_23_code 78 = .ok (.iinc 13 1, 3) := by decide +kernel
theorem d_M_isSolved_81 : decode prog_10_method_23_code 81 = .ok (.goto (-64), 3) := by decide +kernel
theorem d_M_isSolved_84 : decode prog_10_method_23_code 84 = .ok (.iconst 0, 1) := by decide +kernel
theorem d_M_isSolved_85 : decode prog_10_method_23_code 85 = .ok (.istore 13, 2) := by decide +kernel
theorem d_M_isSolved_87 : decode prog_10_method_23_code 87 = .ok (.iload 13, 2) := by decide +kernel
theorem d_M_isSolved_89 : decode prog_10_method_23_code 89 = .ok (.aload_n 0, 1) := by decide +kernel
theorem d_M_isSolved_90 : decode prog_10_method_23_code 90 = .ok (.getfield 99, 3) := by decide +kernel
theorem d_M_isSolved_93 : decode prog_10_method_23_code 93 = .ok (.if_icmp .ge 43, 3) := by decide +kernel
theorem d_M_isSolved_96 : decode prog_10_method_23_code 96 = .ok (.dload 5, 2) := by decide +kernel
theorem d_M_isSolved_98 : decode prog_10_method_23_code 98 = .ok (.aload_n 0, 1) := by decide +kernel
theorem d_M_isSolved_99 : decode prog_10_method_23_code 99 = .ok (.getfield 43, 3) := by decide +kernel
theorem d_M_isSolved_102 : decode prog_10_method_23_code 102 = .ok (.iload 13, 2) := by decide +kernel
theorem d_M_isSolved_104 : decode prog_10_method_23_code 104 = .ok (.daload, 1) := by decide +kernel
theorem d_M_isSolved_105 : decode prog_10_method_23_code 105 = .ok (.invokestatic 197, 3) := by decide +kernel
theorem d_M_isSolved_108 : decode prog_10_method_23_code 108 = .ok (.invokestatic 201, 3) := by decide +kernel
theorem d_M_isSolved_111 : decode prog_10_method_23_code 111 = .ok (.dstore 5, 2) := by decide +kernel
theorem d_M_isSolved_113 : decode prog_10_method_23_code 113 = .ok (.dload 9, 2) := by decide +kernel
theorem d_M_isSolved_115 : decode prog_10_method_23_code 115 = .ok (.aload_n 0, 1) := by decide +kernel
theorem d_M_isSolved_116 : decode prog_10_method_23_code 116 = .ok (.getfield 28, 3) := by decide +kernel
theorem d_M_isSolved_119 : decode prog_10_method_23_code 119 = .ok (.iload 13, 2) := by decide +kernel
theorem d_M_isSolved_121 : decode prog_10_method_23_code 121 = .ok (.daload, 1) := by decide +kernel
theorem d_M_isSolved_122 : decode prog_10_method_23_code 122 = .ok (.invokestatic 197, 3) := by decide +kernel
theorem d_M_isSolved_125 : decode prog_10_method_23_code 125 = .ok (.invokestatic 201, 3) := by decide +kernel
theorem d_M_isSolved_128 : decode prog_10_method_23_code 128 = .ok (.dstore 9, 2) := by decide +kernel
theorem d_M_isSolved_130 : decode prog_10_method_23_code 130 = .ok (.iinc 13 1, 3) := by decide +kernel
theorem d_M_isSolved_133 : decode prog_10_method_23_code 133 = .ok (.goto (-46), 3) := by decide +kernel
theorem d_M_isSolved_136 : decode prog_10_method_23_code 136 = .ok (.dload 5, 2) := by decide +kernel
theorem d_M_isSolved_138 : decode prog_10_method_23_code 138 = .ok (.ldc2_w 208, 3) := by decide +kernel
theorem d_M_isSolved_141 : decode prog_10_method_23_code 141 = .ok (.dconst 1, 1) := by decide +kernel
theorem d_M_isSolved_142 : decode prog_10_method_23_code 142 = .ok (.dload 9, 2) := by decide +kernel
theorem d_M_isSolved_144 : decode prog_10_method_23_code 144 = .ok (.dadd, 1) := by decide +kernel
theorem d_M_isSolved_145 : decode prog_10_method_23_code 145 = .ok (.dmul, 1) := by decide +kernel
theorem d_M_isSolved_146 : decode prog_10_method_23_code 146 = .ok (.dcmp .g, 1) := by decide +kernel
theorem d_M_isSolved_147 : decode prog_10_method_23_code 147 = .ok (.ifCond .gt 36, 3) := by decide +kernel
theorem d_M_isSolved_150 : decode prog_10_method_23_code 150 = .ok (.dload 7, 2) := by decide +kernel
theorem d_M_isSolved_152 : decode prog_10_method_23_code 152 = .ok (.ldc2_w 208, 3) := by decide +kernel
theorem d_M_isSolved_155 : decode prog_10_method_23_code 155 = .ok (.dconst 1, 1) := by decide +kernel
theorem d_M_isSolved_156 : decode prog_10_method_23_code 156 = .ok (.dload 11, 2) := by decide +kernel
theorem d_M_isSolved_158 : decode prog_10_method_23_code 158 = .ok (.dadd, 1) := by decide +kernel
theorem d_M_isSolved_159 : decode prog_10_method_23_code 159 = .ok (.dmul, 1) := by decide +kernel
theorem d_M_isSolved_160 : decode prog_10_method_23_code 160 = .ok (.dcmp .g, 1) := by decide +kernel
theorem d_M_isSolved_161 : decode prog_10_method_23_code 161 = .ok (.ifCond .gt 22, 3) := by decide +kernel
theorem d_M_isSolved_164 : decode prog_10_method_23_code 164 = .ok (.dload_n 1, 1) := by decide +kernel
theorem d_M_isSolved_165 : decode prog_10_method_23_code 165 = .ok (.ldc2_w 208, 3) := by decide +kernel
theorem d_M_isSolved_168 : decode prog_10_method_23_code 168 = .ok (.dconst 1, 1) := by decide +kernel
theorem d_M_isSolved_169 : decode prog_10_method_23_code 169 = .ok (.dload_n 3, 1) := by decide +kernel
theorem d_M_isSolved_170 : decode prog_10_method_23_code 170 = .ok (.invokestatic 197, 3) := by decide +kernel
theorem d_M_isSolved_173 : decode prog_10_method_23_code 173 = .ok (.dadd, 1) := by decide +kernel
theorem d_M_isSolved_174 : decode prog_10_method_23_code 174 = .ok (.dmul, 1) := by decide +kernel
theorem d_M_isSolved_175 : decode prog_10_method_23_code 175 = .ok (.dcmp .g, 1) := by decide +kernel
theorem d_M_isSolved_176 : decode prog_10_method_23_code 176 = .ok (.ifCond .gt 7, 3) := by decide +kernel
theorem d_M_isSolved_179 : decode prog_10_method_23_code 179 = .ok (.iconst 1, 1) := by decide +kernel
theorem d_M_isSolved_180 : decode prog_10_method_23_code 180 = .ok (.goto 4, 3) := by decide +kernel
theorem d_M_isSolved_183 : decode prog_10_method_23_code 183 = .ok (.iconst 0, 1) := by decide +kernel
theorem d_M_isSolved_184 : decode prog_10_method_23_code 184 = .ok (.ireturn, 1) := by decide +kernel
abbrev w_M_isSolved (T : Nat → ClassId) (q0 : Nat) (q0_a : Nat) (q0_b : Nat) (q0_c : Nat) (q0_rowScale : Nat) (q0_columnScale : Nat) (q0_sa : Nat) (q0_sb : Nat) (q0_sc : Nat) (q0_x : Nat) (q0_s : Nat) (q0_y : Nat) (q0_p : Nat) (q0_d : Nat) (q0_h : Nat) (q0_f : Nat) (q0_mm : Nat) (q0_low : Nat) (q0_dd : Nat) (q0_r : Nat) (q0_big : Nat) (q0_dt : Nat) (q0_dx : Nat) (q0_t : Nat) (q0_cost : Nat) (q0_rowScaleNow : Nat) (q0_columnScaleNow : Nat) (q0_basic : Nat) (q0_text : Nat) (q0_turned : Nat) (q0_na : Nat) (q0_nb : Nat) (q0_nc : Nat) (vq0_m : Int32) (vq0_n : Int32) (vq0_length : Int32) (vq0_where : Int32) (vq0_effort : Int32) (vq0_thrown : Int32) (vq0_at : Int32) (vq0_scaled : Int32) (vq0_solved : Int32) (vq0_second : Int32) (vq0_nm : Int32) (vq0_nn : Int32) (vq0_number : UInt64) (vq0_bad : Int32) (vq0_sb : Nat → UInt64) (vq0_sc : Nat → UInt64) (vq0_x : Nat → UInt64) (vq0_p : Nat → UInt64) (vq0_d : Nat → UInt64) : va_W := [(q0, .inr (8, [.ref q0_a, .ref q0_b, .ref q0_c, .ref q0_rowScale, .ref q0_columnScale, .ref q0_sa, .ref q0_sb, .ref q0_sc, .ref q0_x, .ref q0_s, .ref q0_y, .ref q0_p, .ref q0_d, .ref q0_h, .ref q0_f, .ref q0_mm, .ref q0_low, .ref q0_dd, .ref q0_r, .ref q0_big, .ref q0_dt, .ref q0_dx, .ref q0_t, .ref q0_cost, .ref q0_rowScaleNow, .ref q0_columnScaleNow, .ref q0_basic, .ref q0_text, .ref q0_turned, .int vq0_m, .int vq0_n, .int vq0_length, .int vq0_where, .int vq0_effort, .int vq0_thrown, .int vq0_at, .int vq0_scaled, .int vq0_solved, .int vq0_second, .ref q0_na, .ref q0_nb, .ref q0_nc, .int vq0_nm, .int vq0_nn, .double vq0_number, .int vq0_bad])), (q0_sb, .inl (T 0, 5, .inr (.inr (.inr (.inl vq0_sb))))), (q0_sc, .inl (T 0, 8, .inr (.inr (.inr (.inl vq0_sc))))), (q0_x, .inl (T 0, 8, .inr (.inr (.inr (.inl vq0_x))))), (q0_p, .inl (T 0, 5, .inr (.inr (.inr (.inl vq0_p))))), (q0_d, .inl (T 0, 8, .inr (.inr (.inr (.inl vq0_d)))))]
def s_M_isSolved_J183 (vq0_m : Int32) (vq0_n : Int32) (vq0_length : Int32) (vq0_where : Int32) (vq0_effort : Int32) (vq0_thrown : Int32) (vq0_at : Int32) (vq0_scaled : Int32) (vq0_solved : Int32) (vq0_second : Int32) (vq0_nm : Int32) (vq0_nn : Int32) (vq0_number : UInt64) (vq0_bad : Int32) (vq0_sb : Nat → UInt64) (vq0_sc : Nat → UInt64) (vq0_x : Nat → UInt64) (vq0_p : Nat → UInt64) (vq0_d : Nat → UInt64) : Option (Int32) :=
  gd (isb 0) <| some 0
def s_M_isSolved_B87 (vq0_m : Int32) (vq0_n : Int32) (vq0_length : Int32) (vq0_where : Int32) (vq0_effort : Int32) (vq0_thrown : Int32) (vq0_at : Int32) (vq0_scaled : Int32) (vq0_solved : Int32) (vq0_second : Int32) (vq0_nm : Int32) (vq0_nn : Int32) (vq0_number : UInt64) (vq0_bad : Int32) (vq0_sb : Nat → UInt64) (vq0_sc : Nat → UInt64) (vq0_x : Nat → UInt64) (vq0_p : Nat → UInt64) (vq0_d : Nat → UInt64) (x1 : UInt64) (x3 : UInt64) (x7 : UInt64) (x11 : UInt64) (x5 : UInt64) (x9 : UInt64) (x13 : Int32) : Option ((UInt64 × UInt64 × Int32) ⊕ (UInt64 × UInt64)) :=
  if vq0_m ≤ x13 then (some (.inr (x5, x9))) else (gd (inb x13 5) <| (s_M_abs (vq0_p x13.toNatClampNeg)).bind fun u4 => (s_M_max x5 u4).bind fun u5 => gd (inb x13 5) <| (s_M_abs (vq0_sb x13.toNatClampNeg)).bind fun u7 => (s_M_max x9 u7).bind fun u8 => some (.inl (u5, u8, x13 + 1)))
def s_M_isSolved_L87 (vq0_m : Int32) (vq0_n : Int32) (vq0_length : Int32) (vq0_where : Int32) (vq0_effort : Int32) (vq0_thrown : Int32) (vq0_at : Int32) (vq0_scaled : Int32) (vq0_solved : Int32) (vq0_second : Int32) (vq0_nm : Int32) (vq0_nn : Int32) (vq0_number : UInt64) (vq0_bad : Int32) (vq0_sb : Nat → UInt64) (vq0_sc : Nat → UInt64) (vq0_x : Nat → UInt64) (vq0_p : Nat → UInt64) (vq0_d : Nat → UInt64) (x1 : UInt64) (x3 : UInt64) (x5 : UInt64) (x7 : UInt64) (x9 : UInt64) (x11 : UInt64) (x13 : Int32) : Option (Int32) :=
  (loopO (fun (st : UInt64 × UInt64 × Int32) => s_M_isSolved_B87 vq0_m vq0_n vq0_length vq0_where vq0_effort vq0_thrown vq0_at vq0_scaled vq0_solved vq0_second vq0_nm vq0_nn vq0_number vq0_bad vq0_sb vq0_sc vq0_x vq0_p vq0_d x1 x3 x7 x11 st.1 st.2.1 st.2.2) 2000 (x5, x9, x13)).bind fun u87 => gd (isn (FP.dadd FP.dconst1 u87.2)) <| gd (isn (FP.dmul 4487126258331716666 (FP.dadd FP.dconst1 u87.2))) <| if 0 < (Op.cmpValue (FP.dcmp u87.1 (FP.dmul 4487126258331716666 (FP.dadd FP.dconst1 u87.2))) .g) then (s_M_isSolved_J183 vq0_m vq0_n vq0_length vq0_where vq0_effort vq0_thrown vq0_at vq0_scaled vq0_solved vq0_second vq0_nm vq0_nn vq0_number vq0_bad vq0_sb vq0_sc vq0_x vq0_p vq0_d) else (gd (isn (FP.dadd FP.dconst1 x11)) <| gd (isn (FP.dmul 4487126258331716666 (FP.dadd FP.dconst1 x11))) <| if 0 < (Op.cmpValue (FP.dcmp x7 (FP.dmul 4487126258331716666 (FP.dadd FP.dconst1 x11))) .g) then (s_M_isSolved_J183 vq0_m vq0_n vq0_length vq0_where vq0_effort vq0_thrown vq0_at vq0_scaled vq0_solved vq0_second vq0_nm vq0_nn vq0_number vq0_bad vq0_sb vq0_sc vq0_x vq0_p vq0_d) else ((s_M_abs x3).bind fun u15 => gd (isn (FP.dadd FP.dconst1 u15)) <| gd (isn (FP.dmul 4487126258331716666 (FP.dadd FP.dconst1 u15))) <| if 0 < (Op.cmpValue (FP.dcmp x1 (FP.dmul 4487126258331716666 (FP.dadd FP.dconst1 u15))) .g) then (s_M_isSolved_J183 vq0_m vq0_n vq0_length vq0_where vq0_effort vq0_thrown vq0_at vq0_scaled vq0_solved vq0_second vq0_nm vq0_nn vq0_number vq0_bad vq0_sb vq0_sc vq0_x vq0_p vq0_d) else (gd (isb 1) <| some 1)))
def s_M_isSolved_B17 (vq0_m : Int32) (vq0_n : Int32) (vq0_length : Int32) (vq0_where : Int32) (vq0_effort : Int32) (vq0_thrown : Int32) (vq0_at : Int32) (vq0_scaled : Int32) (vq0_solved : Int32) (vq0_second : Int32) (vq0_nm : Int32) (vq0_nn : Int32) (vq0_number : UInt64) (vq0_bad : Int32) (vq0_sb : Nat → UInt64) (vq0_sc : Nat → UInt64) (vq0_x : Nat → UInt64) (vq0_p : Nat → UInt64) (vq0_d : Nat → UInt64) (x1 : UInt64) (x5 : UInt64) (x9 : UInt64) (x3 : UInt64) (x7 : UInt64) (x11 : UInt64) (x13 : Int32) : Option ((UInt64 × UInt64 × UInt64 × Int32) ⊕ (UInt64 × UInt64 × UInt64)) :=
  if vq0_n ≤ x13 then (some (.inr (x3, x7, x11))) else (gd (inb x13 8) <| gd (inb x13 8) <| gd (isn (FP.dmul (vq0_sc x13.toNatClampNeg) (vq0_x x13.toNatClampNeg))) <| gd (isn (FP.dadd x3 (FP.dmul (vq0_sc x13.toNatClampNeg) (vq0_x x13.toNatClampNeg)))) <| gd (inb x13 8) <| (s_M_abs (vq0_d x13.toNatClampNeg)).bind fun u26 => (s_M_max x7 u26).bind fun u27 => gd (inb x13 8) <| (s_M_abs (vq0_sc x13.toNatClampNeg)).bind fun u29 => (s_M_max x11 u29).bind fun u30 => some (.inl (FP.dadd x3 (FP.dmul (vq0_sc x13.toNatClampNeg) (vq0_x x13.toNatClampNeg)), u27, u30, x13 + 1)))
def s_M_isSolved_L17 (vq0_m : Int32) (vq0_n : Int32) (vq0_length : Int32) (vq0_where : Int32) (vq0_effort : Int32) (vq0_thrown : Int32) (vq0_at : Int32) (vq0_scaled : Int32) (vq0_solved : Int32) (vq0_second : Int32) (vq0_nm : Int32) (vq0_nn : Int32) (vq0_number : UInt64) (vq0_bad : Int32) (vq0_sb : Nat → UInt64) (vq0_sc : Nat → UInt64) (vq0_x : Nat → UInt64) (vq0_p : Nat → UInt64) (vq0_d : Nat → UInt64) (x1 : UInt64) (x3 : UInt64) (x5 : UInt64) (x7 : UInt64) (x9 : UInt64) (x11 : UInt64) (x13 : Int32) : Option (Int32) :=
  (loopO (fun (st : UInt64 × UInt64 × UInt64 × Int32) => s_M_isSolved_B17 vq0_m vq0_n vq0_length vq0_where vq0_effort vq0_thrown vq0_at vq0_scaled vq0_solved vq0_second vq0_nm vq0_nn vq0_number vq0_bad vq0_sb vq0_sc vq0_x vq0_p vq0_d x1 x5 x9 st.1 st.2.1 st.2.2.1 st.2.2.2) 2000 (x3, x7, x11, x13)).bind fun u17 => s_M_isSolved_L87 vq0_m vq0_n vq0_length vq0_where vq0_effort vq0_thrown vq0_at vq0_scaled vq0_solved vq0_second vq0_nm vq0_nn vq0_number vq0_bad vq0_sb vq0_sc vq0_x vq0_p vq0_d x1 u17.1 x5 u17.2.1 x9 u17.2.2 0
def s_M_isSolved (vq0_m : Int32) (vq0_n : Int32) (vq0_length : Int32) (vq0_where : Int32) (vq0_effort : Int32) (vq0_thrown : Int32) (vq0_at : Int32) (vq0_scaled : Int32) (vq0_solved : Int32) (vq0_second : Int32) (vq0_nm : Int32) (vq0_nn : Int32) (vq0_number : UInt64) (vq0_bad : Int32) (vq0_sb : Nat → UInt64) (vq0_sc : Nat → UInt64) (vq0_x : Nat → UInt64) (vq0_p : Nat → UInt64) (vq0_d : Nat → UInt64) (x1 : UInt64) : Option (Int32) :=
  s_M_isSolved_L17 vq0_m vq0_n vq0_length vq0_where vq0_effort vq0_thrown vq0_at vq0_scaled vq0_solved vq0_second vq0_nm vq0_nn vq0_number vq0_bad vq0_sb vq0_sc vq0_x vq0_p vq0_d x1 FP.dconst0 FP.dconst0 FP.dconst0 FP.dconst0 FP.dconst0 0
set_option maxHeartbeats 4000000 in
set_option maxRecDepth 100000 in
theorem c_M_isSolved (l : Launch) (D : va_G) (T : Nat → ClassId) (q0 : Nat) (q0_a : Nat) (q0_b : Nat) (q0_c : Nat) (q0_rowScale : Nat) (q0_columnScale : Nat) (q0_sa : Nat) (q0_sb : Nat) (q0_sc : Nat) (q0_x : Nat) (q0_s : Nat) (q0_y : Nat) (q0_p : Nat) (q0_d : Nat) (q0_h : Nat) (q0_f : Nat) (q0_mm : Nat) (q0_low : Nat) (q0_dd : Nat) (q0_r : Nat) (q0_big : Nat) (q0_dt : Nat) (q0_dx : Nat) (q0_t : Nat) (q0_cost : Nat) (q0_rowScaleNow : Nat) (q0_columnScaleNow : Nat) (q0_basic : Nat) (q0_text : Nat) (q0_turned : Nat) (q0_na : Nat) (q0_nb : Nat) (q0_nc : Nat) (vq0_m : Int32) (vq0_n : Int32) (vq0_length : Int32) (vq0_where : Int32) (vq0_effort : Int32) (vq0_thrown : Int32) (vq0_at : Int32) (vq0_scaled : Int32) (vq0_solved : Int32) (vq0_second : Int32) (vq0_nm : Int32) (vq0_nn : Int32) (vq0_number : UInt64) (vq0_bad : Int32) (vq0_sb : Nat → UInt64) (vq0_sc : Nat → UInt64) (vq0_x : Nat → UInt64) (vq0_p : Nat → UInt64) (vq0_d : Nat → UInt64) (x1 : UInt64) (rm : Int32) (h : s_M_isSolved vq0_m vq0_n vq0_length vq0_where vq0_effort vq0_thrown vq0_at vq0_scaled vq0_solved vq0_second vq0_nm vq0_nn vq0_number vq0_bad vq0_sb vq0_sc vq0_x vq0_p vq0_d x1 = some rm) : CtI l y_M_isSolved (Cond.code y_M_isSolved prog_10_method_23_code 14 (some .boolean) :: BIG) 1 23 D T [.ref q0, .double x1] (w_M_isSolved T q0 q0_a q0_b q0_c q0_rowScale q0_columnScale q0_sa q0_sb q0_sc q0_x q0_s q0_y q0_p q0_d q0_h q0_f q0_mm q0_low q0_dd q0_r q0_big q0_dt q0_dx q0_t q0_cost q0_rowScaleNow q0_columnScaleNow q0_basic q0_text q0_turned q0_na q0_nb q0_nc vq0_m vq0_n vq0_length vq0_where vq0_effort vq0_thrown vq0_at vq0_scaled vq0_solved vq0_second vq0_nm vq0_nn vq0_number vq0_bad vq0_sb vq0_sc vq0_x vq0_p vq0_d) (fun r => r) (fun r => (w_M_isSolved T q0 q0_a q0_b q0_c q0_rowScale q0_columnScale q0_sa q0_sb q0_sc q0_x q0_s q0_y q0_p q0_d q0_h q0_f q0_mm q0_low q0_dd q0_r q0_big q0_dt q0_dx q0_t q0_cost q0_rowScaleNow q0_columnScaleNow q0_basic q0_text q0_turned q0_na q0_nb q0_nc vq0_m vq0_n vq0_length vq0_where vq0_effort vq0_thrown vq0_at vq0_scaled vq0_solved vq0_second vq0_nm vq0_nn vq0_number vq0_bad vq0_sb vq0_sc vq0_x vq0_p vq0_d)) rm := by
  refine cf_entry (y := y_M_isSolved) (cc := prog_10_method_23_code) (nL := 14) (ret := (some .boolean)) (fr := 1) (lo := 23) (T := T) (av := [.ref q0, .double x1]) (w := (w_M_isSolved T q0 q0_a q0_b q0_c q0_rowScale q0_columnScale q0_sa q0_sb q0_sc q0_x q0_s q0_y q0_p q0_d q0_h q0_f q0_mm q0_low q0_dd q0_r q0_big q0_dt q0_dx q0_t q0_cost q0_rowScaleNow q0_columnScaleNow q0_basic q0_text q0_turned q0_na q0_nb q0_nc vq0_m vq0_n vq0_length vq0_where vq0_effort vq0_thrown vq0_at vq0_scaled vq0_solved vq0_second vq0_nm vq0_nn vq0_number vq0_bad vq0_sb vq0_sc vq0_x vq0_p vq0_d)) (Qc := cfQi D (fun r => r) (fun r => (w_M_isSolved T q0 q0_a q0_b q0_c q0_rowScale q0_columnScale q0_sa q0_sb q0_sc q0_x q0_s q0_y q0_p q0_d q0_h q0_f q0_mm q0_low q0_dd q0_r q0_big q0_dt q0_dx q0_t q0_cost q0_rowScaleNow q0_columnScaleNow q0_basic q0_text q0_turned q0_na q0_nb q0_nc vq0_m vq0_n vq0_length vq0_where vq0_effort vq0_thrown vq0_at vq0_scaled vq0_solved vq0_second vq0_nm vq0_nn vq0_number vq0_bad vq0_sb vq0_sc vq0_x vq0_p vq0_d)) rm) (by decide) rfl (Nat.le_of_ble_eq_true rfl) ?_
  intro p e s m args below meth c A Q H locs ls hx hb hr hlocks hml hown hts hNW hK hA hQ hP hD hS hl
  have hown : s.vm.findClass "ConeForgeModel" = some m.cls := hown
  have hl : lv_has ls 14 [(0, .ref q0), (1, .double x1)] := hl
  have J183 : ∀ (H : Heap) (locs : List Loc) (ls : Array Slot), va_P D CL (w_M_isSolved T q0 q0_a q0_b q0_c q0_rowScale q0_columnScale q0_sa q0_sb q0_sc q0_x q0_s q0_y q0_p q0_d q0_h q0_f q0_mm q0_low q0_dd q0_r q0_big q0_dt q0_dx q0_t q0_cost q0_rowScaleNow q0_columnScaleNow q0_basic q0_text q0_turned q0_na q0_nb q0_nc vq0_m vq0_n vq0_length vq0_where vq0_effort vq0_thrown vq0_at vq0_scaled vq0_solved vq0_second vq0_nm vq0_nn vq0_number vq0_bad vq0_sb vq0_sc vq0_x vq0_p vq0_d) H → va_D A (w_M_isSolved T q0 q0_a q0_b q0_c q0_rowScale q0_columnScale q0_sa q0_sb q0_sc q0_x q0_s q0_y q0_p q0_d q0_h q0_f q0_mm q0_low q0_dd q0_r q0_big q0_dt q0_dx q0_t q0_cost q0_rowScaleNow q0_columnScaleNow q0_basic q0_text q0_turned q0_na q0_nb q0_nc vq0_m vq0_n vq0_length vq0_where vq0_effort vq0_thrown vq0_at vq0_scaled vq0_solved vq0_second vq0_nm vq0_nn vq0_number vq0_bad vq0_sb vq0_sc vq0_x vq0_p vq0_d) → va_S A s.heap H locs → lv_has ls 14 [] → s_M_isSolved_J183 vq0_m vq0_n vq0_length vq0_where vq0_effort vq0_thrown vq0_at vq0_scaled vq0_solved vq0_second vq0_nm vq0_nn vq0_number vq0_bad vq0_sb vq0_sc vq0_x vq0_p vq0_d = some rm → W p l e (rmk 1 23) s m args below meth c H locs 0 0 Q (F0 m 183 ls []) := by
    intro  H locs ls hP hD hS hl h
    unfold s_M_isSolved_J183 at h
    refine lv_iconst (v := 0) hx hb d_M_isSolved_183 (by decide) ?_
    obtain ⟨g1, h⟩ := gd_some h
    exact rtZ hx hb hr hlocks g1 hQ (Option.some.inj h) hP hS d_M_isSolved_184 rfl rfl
  have L87 : ∀ (x1 : UInt64) (x3 : UInt64) (x5 : UInt64) (x7 : UInt64) (x9 : UInt64) (x11 : UInt64) (x13 : Int32), ∀ (H : Heap) (locs : List Loc) (ls : Array Slot), va_P D CL (w_M_isSolved T q0 q0_a q0_b q0_c q0_rowScale q0_columnScale q0_sa q0_sb q0_sc q0_x q0_s q0_y q0_p q0_d q0_h q0_f q0_mm q0_low q0_dd q0_r q0_big q0_dt q0_dx q0_t q0_cost q0_rowScaleNow q0_columnScaleNow q0_basic q0_text q0_turned q0_na q0_nb q0_nc vq0_m vq0_n vq0_length vq0_where vq0_effort vq0_thrown vq0_at vq0_scaled vq0_solved vq0_second vq0_nm vq0_nn vq0_number vq0_bad vq0_sb vq0_sc vq0_x vq0_p vq0_d) H → va_D A (w_M_isSolved T q0 q0_a q0_b q0_c q0_rowScale q0_columnScale q0_sa q0_sb q0_sc q0_x q0_s q0_y q0_p q0_d q0_h q0_f q0_mm q0_low q0_dd q0_r q0_big q0_dt q0_dx q0_t q0_cost q0_rowScaleNow q0_columnScaleNow q0_basic q0_text q0_turned q0_na q0_nb q0_nc vq0_m vq0_n vq0_length vq0_where vq0_effort vq0_thrown vq0_at vq0_scaled vq0_solved vq0_second vq0_nm vq0_nn vq0_number vq0_bad vq0_sb vq0_sc vq0_x vq0_p vq0_d) → va_S A s.heap H locs → lv_has ls 14 [(0, .ref q0), (1, .double x1), (3, .double x3), (5, .double x5), (7, .double x7), (9, .double x9), (11, .double x11), (13, .int x13)] → s_M_isSolved_L87 vq0_m vq0_n vq0_length vq0_where vq0_effort vq0_thrown vq0_at vq0_scaled vq0_solved vq0_second vq0_nm vq0_nn vq0_number vq0_bad vq0_sb vq0_sc vq0_x vq0_p vq0_d x1 x3 x5 x7 x9 x11 x13 = some rm → W p l e (rmk 1 23) s m args below meth c H locs 0 0 Q (F0 m 87 ls []) := by
    intro x1 x3 x5 x7 x9 x11 x13 H locs ls hP hD hS hl h
    unfold s_M_isSolved_L87 at h
    obtain ⟨u87, hu87, h⟩ := bi_some h
    refine loopO_W (Wh := fun (st : UInt64 × UInt64 × Int32) => ∀ (H : Heap) (locs : List Loc) (ls : Array Slot), va_P D CL (w_M_isSolved T q0 q0_a q0_b q0_c q0_rowScale q0_columnScale q0_sa q0_sb q0_sc q0_x q0_s q0_y q0_p q0_d q0_h q0_f q0_mm q0_low q0_dd q0_r q0_big q0_dt q0_dx q0_t q0_cost q0_rowScaleNow q0_columnScaleNow q0_basic q0_text q0_turned q0_na q0_nb q0_nc vq0_m vq0_n vq0_length vq0_where vq0_effort vq0_thrown vq0_at vq0_scaled vq0_solved vq0_second vq0_nm vq0_nn vq0_number vq0_bad vq0_sb vq0_sc vq0_x vq0_p vq0_d) H → va_D A (w_M_isSolved T q0 q0_a q0_b q0_c q0_rowScale q0_columnScale q0_sa q0_sb q0_sc q0_x q0_s q0_y q0_p q0_d q0_h q0_f q0_mm q0_low q0_dd q0_r q0_big q0_dt q0_dx q0_t q0_cost q0_rowScaleNow q0_columnScaleNow q0_basic q0_text q0_turned q0_na q0_nb q0_nc vq0_m vq0_n vq0_length vq0_where vq0_effort vq0_thrown vq0_at vq0_scaled vq0_solved vq0_second vq0_nm vq0_nn vq0_number vq0_bad vq0_sb vq0_sc vq0_x vq0_p vq0_d) → va_S A s.heap H locs → lv_has ls 14 [(0, .ref q0), (1, .double x1), (3, .double x3), (5, .double st.1), (7, .double x7), (9, .double st.2.1), (11, .double x11), (13, .int st.2.2)] → W p l e (rmk 1 23) s m args below meth c H locs 0 0 Q (F0 m 87 ls [])) (Wx := fun (e1 : UInt64 × UInt64) => ∀ (H : Heap) (locs : List Loc) (ls : Array Slot), va_P D CL (w_M_isSolved T q0 q0_a q0_b q0_c q0_rowScale q0_columnScale q0_sa q0_sb q0_sc q0_x q0_s q0_y q0_p q0_d q0_h q0_f q0_mm q0_low q0_dd q0_r q0_big q0_dt q0_dx q0_t q0_cost q0_rowScaleNow q0_columnScaleNow q0_basic q0_text q0_turned q0_na q0_nb q0_nc vq0_m vq0_n vq0_length vq0_where vq0_effort vq0_thrown vq0_at vq0_scaled vq0_solved vq0_second vq0_nm vq0_nn vq0_number vq0_bad vq0_sb vq0_sc vq0_x vq0_p vq0_d) H → va_D A (w_M_isSolved T q0 q0_a q0_b q0_c q0_rowScale q0_columnScale q0_sa q0_sb q0_sc q0_x q0_s q0_y q0_p q0_d q0_h q0_f q0_mm q0_low q0_dd q0_r q0_big q0_dt q0_dx q0_t q0_cost q0_rowScaleNow q0_columnScaleNow q0_basic q0_text q0_turned q0_na q0_nb q0_nc vq0_m vq0_n vq0_length vq0_where vq0_effort vq0_thrown vq0_at vq0_scaled vq0_solved vq0_second vq0_nm vq0_nn vq0_number vq0_bad vq0_sb vq0_sc vq0_x vq0_p vq0_d) → va_S A s.heap H locs → lv_has ls 14 [(1, .double x1), (3, .double x3), (5, .double e1.1), (7, .double x7), (9, .double e1.2), (11, .double x11)] → W p l e (rmk 1 23) s m args below meth c H locs 0 0 Q (F0 m 136 ls [])) ?_ 2000 _ u87 hu87 ?_ H locs ls hP hD hS hl
    · intro st rb87 h kc87 kx87 H locs ls hP hD hS hl
      obtain ⟨x5, x9, x13⟩ := st
      have h : s_M_isSolved_B87 vq0_m vq0_n vq0_length vq0_where vq0_effort vq0_thrown vq0_at vq0_scaled vq0_solved vq0_second vq0_nm vq0_nn vq0_number vq0_bad vq0_sb vq0_sc vq0_x vq0_p vq0_d x1 x3 x7 x11 x5 x9 x13 = some rb87 := h
      unfold s_M_isSolved_B87 at h
      refine lv_iload hx hb d_M_isSolved_87 (lv_at hl 7 rfl) ?_
      refine lv_aload_n hx hb d_M_isSolved_89 rfl (lv_at hl 0 rfl) ?_
      refine va_get (D := D) (ci := 8) (v := .int vq0_m) (C := "ConeForgeModel") (T := FM) (N := 46) hx hb hts iM hown hK hP 0 rfl rfl 29 (by decide) (hts _ (bgc bw713)) (fun _ h9 => h9) rfl d_M_isSolved_90 ?_
      refine lv_icmp_ge (tgt := 136) hx hb d_M_isSolved_93 (by decide) (fun c2 => ?_) (fun c2 => ?_)
      · have h := it_t c2 h
        exact kx87 _ (Option.some.inj h).symm H locs ls hP hD hS (lv_sub hl [1, 2, 3, 4, 5, 6] rfl)
      · have h := it_f c2 h
        refine lv_dload hx hb d_M_isSolved_96 (lv_at hl 3 rfl) ?_
        refine lv_aload_n hx hb d_M_isSolved_98 rfl (lv_at hl 0 rfl) ?_
        refine va_get (D := D) (ci := 8) (v := .ref q0_p) (C := "ConeForgeModel") (T := FM) (N := 46) hx hb hts iM hown hK hP 0 rfl rfl 11 (by decide) (hts _ (bgc bw695)) (fun _ h9 => h9) rfl d_M_isSolved_99 ?_
        refine lv_iload hx hb d_M_isSolved_102 (lv_at hl 7 rfl) ?_
        obtain ⟨g3, h⟩ := gd_some h
        refine va_dald hx hb hK hP 4 0 rfl rfl (inb_in g3) d_M_isSolved_104 ?_
        obtain ⟨u4, hu4, h⟩ := bi_some h
        refine kD (v := u4) (wc := (w_M_abs T  )) (wc' := (w_M_abs T  )) (runOS (As := [.double (vq0_p x13.toNatClampNeg)]) (rest := [.double x5]) ((c_M_abs l D T   (vq0_p x13.toNatClampNeg) u4 hu4) H.size) ⟨hx, hb, hml, hown, hts⟩ (cwOS bw844 bw845 bw105 bw846 dd_M_abs hts ⟨Nat.le_of_ble_eq_true rfl, Nat.le_of_ble_eq_true rfl⟩)  hNW hK hP hD [] rfl (by decide) rfl hl.1 rfl (lv_room (Nat.le_of_ble_eq_true rfl)) d_M_isSolved_105 ⟨Nat.le_of_ble_eq_true rfl, Nat.le_of_ble_eq_true rfl⟩) hP hD hS hA [] rfl rfl (fun H locs hP hD hS => ?_)
        have hP : va_P D CL (w_M_isSolved T q0 q0_a q0_b q0_c q0_rowScale q0_columnScale q0_sa q0_sb q0_sc q0_x q0_s q0_y q0_p q0_d q0_h q0_f q0_mm q0_low q0_dd q0_r q0_big q0_dt q0_dx q0_t q0_cost q0_rowScaleNow q0_columnScaleNow q0_basic q0_text q0_turned q0_na q0_nb q0_nc vq0_m vq0_n vq0_length vq0_where vq0_effort vq0_thrown vq0_at vq0_scaled vq0_solved vq0_second vq0_nm vq0_nn vq0_number vq0_bad vq0_sb vq0_sc vq0_x vq0_p vq0_d) H := hP
        have hD : va_D A (w_M_isSolved T q0 q0_a q0_b q0_c q0_rowScale q0_columnScale q0_sa q0_sb q0_sc q0_x q0_s q0_y q0_p q0_d q0_h q0_f q0_mm q0_low q0_dd q0_r q0_big q0_dt q0_dx q0_t q0_cost q0_rowScaleNow q0_columnScaleNow q0_basic q0_text q0_turned q0_na q0_nb q0_nc vq0_m vq0_n vq0_length vq0_where vq0_effort vq0_thrown vq0_at vq0_scaled vq0_solved vq0_second vq0_nm vq0_nn vq0_number vq0_bad vq0_sb vq0_sc vq0_x vq0_p vq0_d) := hD
        obtain ⟨u5, hu5, h⟩ := bi_some h
        refine kD (v := u5) (wc := (w_M_max T  )) (wc' := (w_M_max T  )) (runOS (As := [.double x5, .double u4]) (rest := []) ((c_M_max l D T   x5 u4 u5 hu5) H.size) ⟨hx, hb, hml, hown, hts⟩ (cwOS bw847 bw848 bw105 bw849 dd_M_max hts ⟨Nat.le_of_ble_eq_true rfl, Nat.le_of_ble_eq_true rfl⟩)  hNW hK hP hD [] rfl (by decide) rfl hl.1 rfl (lv_room (Nat.le_of_ble_eq_true rfl)) d_M_isSolved_108 ⟨Nat.le_of_ble_eq_true rfl, Nat.le_of_ble_eq_true rfl⟩) hP hD hS hA [] rfl rfl (fun H locs hP hD hS => ?_)
        have hP : va_P D CL (w_M_isSolved T q0 q0_a q0_b q0_c q0_rowScale q0_columnScale q0_sa q0_sb q0_sc q0_x q0_s q0_y q0_p q0_d q0_h q0_f q0_mm q0_low q0_dd q0_r q0_big q0_dt q0_dx q0_t q0_cost q0_rowScaleNow q0_columnScaleNow q0_basic q0_text q0_turned q0_na q0_nb q0_nc vq0_m vq0_n vq0_length vq0_where vq0_effort vq0_thrown vq0_at vq0_scaled vq0_solved vq0_second vq0_nm vq0_nn vq0_number vq0_bad vq0_sb vq0_sc vq0_x vq0_p vq0_d) H := hP
        have hD : va_D A (w_M_isSolved T q0 q0_a q0_b q0_c q0_rowScale q0_columnScale q0_sa q0_sb q0_sc q0_x q0_s q0_y q0_p q0_d q0_h q0_f q0_mm q0_low q0_dd q0_r q0_big q0_dt q0_dx q0_t q0_cost q0_rowScaleNow q0_columnScaleNow q0_basic q0_text q0_turned q0_na q0_nb q0_nc vq0_m vq0_n vq0_length vq0_where vq0_effort vq0_thrown vq0_at vq0_scaled vq0_solved vq0_second vq0_nm vq0_nn vq0_number vq0_bad vq0_sb vq0_sc vq0_x vq0_p vq0_d) := hD
        refine lv_dstore (lv' := [(5, .double u5), (0, .ref q0), (1, .double x1), (3, .double x3), (7, .double x7), (9, .double x9), (11, .double x11), (13, .int x13)]) hx hb d_M_isSolved_111 hl (by decide) rfl (fun ls hl => ?_)
        refine lv_dload hx hb d_M_isSolved_113 (lv_at hl 5 rfl) ?_
        refine lv_aload_n hx hb d_M_isSolved_115 rfl (lv_at hl 1 rfl) ?_
        refine va_get (D := D) (ci := 8) (v := .ref q0_sb) (C := "ConeForgeModel") (T := FM) (N := 46) hx hb hts iM hown hK hP 0 rfl rfl 6 (by decide) (hts _ (bgc bw690)) (fun _ h9 => h9) rfl d_M_isSolved_116 ?_
        refine lv_iload hx hb d_M_isSolved_119 (lv_at hl 7 rfl) ?_
        obtain ⟨g6, h⟩ := gd_some h
        refine va_dald hx hb hK hP 1 0 rfl rfl (inb_in g6) d_M_isSolved_121 ?_
        obtain ⟨u7, hu7, h⟩ := bi_some h
        refine kD (v := u7) (wc := (w_M_abs T  )) (wc' := (w_M_abs T  )) (runOS (As := [.double (vq0_sb x13.toNatClampNeg)]) (rest := [.double x9]) ((c_M_abs l D T   (vq0_sb x13.toNatClampNeg) u7 hu7) H.size) ⟨hx, hb, hml, hown, hts⟩ (cwOS bw844 bw845 bw105 bw846 dd_M_abs hts ⟨Nat.le_of_ble_eq_true rfl, Nat.le_of_ble_eq_true rfl⟩)  hNW hK hP hD [] rfl (by decide) rfl hl.1 rfl (lv_room (Nat.le_of_ble_eq_true rfl)) d_M_isSolved_122 ⟨Nat.le_of_ble_eq_true rfl, Nat.le_of_ble_eq_true rfl⟩) hP hD hS hA [] rfl rfl (fun H locs hP hD hS => ?_)
        have hP : va_P D CL (w_M_isSolved T q0 q0_a q0_b q0_c q0_rowScale q0_columnScale q0_sa q0_sb q0_sc q0_x q0_s q0_y q0_p q0_d q0_h q0_f q0_mm q0_low q0_dd q0_r q0_big q0_dt q0_dx q0_t q0_cost q0_rowScaleNow q0_columnScaleNow q0_basic q0_text q0_turned q0_na q0_nb q0_nc vq0_m vq0_n vq0_length vq0_where vq0_effort vq0_thrown vq0_at vq0_scaled vq0_solved vq0_second vq0_nm vq0_nn vq0_number vq0_bad vq0_sb vq0_sc vq0_x vq0_p vq0_d) H := hP
        have hD : va_D A (w_M_isSolved T q0 q0_a q0_b q0_c q0_rowScale q0_columnScale q0_sa q0_sb q0_sc q0_x q0_s q0_y q0_p q0_d q0_h q0_f q0_mm q0_low q0_dd q0_r q0_big q0_dt q0_dx q0_t q0_cost q0_rowScaleNow q0_columnScaleNow q0_basic q0_text q0_turned q0_na q0_nb q0_nc vq0_m vq0_n vq0_length vq0_where vq0_effort vq0_thrown vq0_at vq0_scaled vq0_solved vq0_second vq0_nm vq0_nn vq0_number vq0_bad vq0_sb vq0_sc vq0_x vq0_p vq0_d) := hD
        obtain ⟨u8, hu8, h⟩ := bi_some h
        refine kD (v := u8) (wc := (w_M_max T  )) (wc' := (w_M_max T  )) (runOS (As := [.double x9, .double u7]) (rest := []) ((c_M_max l D T   x9 u7 u8 hu8) H.size) ⟨hx, hb, hml, hown, hts⟩ (cwOS bw847 bw848 bw105 bw849 dd_M_max hts ⟨Nat.le_of_ble_eq_true rfl, Nat.le_of_ble_eq_true rfl⟩)  hNW hK hP hD [] rfl (by decide) rfl hl.1 rfl (lv_room (Nat.le_of_ble_eq_true rfl)) d_M_isSolved_125 ⟨Nat.le_of_ble_eq_true rfl, Nat.le_of_ble_eq_true rfl⟩) hP hD hS hA [] rfl rfl (fun H locs hP hD hS => ?_)
        have hP : va_P D CL (w_M_isSolved T q0 q0_a q0_b q0_c q0_rowScale q0_columnScale q0_sa q0_sb q0_sc q0_x q0_s q0_y q0_p q0_d q0_h q0_f q0_mm q0_low q0_dd q0_r q0_big q0_dt q0_dx q0_t q0_cost q0_rowScaleNow q0_columnScaleNow q0_basic q0_text q0_turned q0_na q0_nb q0_nc vq0_m vq0_n vq0_length vq0_where vq0_effort vq0_thrown vq0_at vq0_scaled vq0_solved vq0_second vq0_nm vq0_nn vq0_number vq0_bad vq0_sb vq0_sc vq0_x vq0_p vq0_d) H := hP
        have hD : va_D A (w_M_isSolved T q0 q0_a q0_b q0_c q0_rowScale q0_columnScale q0_sa q0_sb q0_sc q0_x q0_s q0_y q0_p q0_d q0_h q0_f q0_mm q0_low q0_dd q0_r q0_big q0_dt q0_dx q0_t q0_cost q0_rowScaleNow q0_columnScaleNow q0_basic q0_text q0_turned q0_na q0_nb q0_nc vq0_m vq0_n vq0_length vq0_where vq0_effort vq0_thrown vq0_at vq0_scaled vq0_solved vq0_second vq0_nm vq0_nn vq0_number vq0_bad vq0_sb vq0_sc vq0_x vq0_p vq0_d) := hD
        refine lv_dstore (lv' := [(9, .double u8), (5, .double u5), (0, .ref q0), (1, .double x1), (3, .double x3), (7, .double x7), (11, .double x11), (13, .int x13)]) hx hb d_M_isSolved_128 hl (by decide) rfl (fun ls hl => ?_)
        refine lv_iinc (v := x13 + 1) (lv' := [(13, .int (x13 + 1)), (9, .double u8), (5, .double u5), (0, .ref q0), (1, .double x1), (3, .double x3), (7, .double x7), (11, .double x11)]) hx hb d_M_isSolved_130 hl (k := 7) rfl rfl (by decide) rfl (fun ls hl => ?_)
        refine lv_goto (tgt := 87) hx hb d_M_isSolved_133 (by decide) ?_
        exact kc87 _ (Option.some.inj h).symm H locs ls hP hD hS (lv_sub hl [3, 4, 5, 2, 6, 1, 7, 0] rfl)
    · intro H locs ls hP hD hS hl
      refine lv_dload hx hb d_M_isSolved_136 (lv_at hl 2 rfl) ?_
      refine lv_ldc2d (v := 4487126258331716666) hx hb hown (hts _ (bgc bw860)) d_M_isSolved_138 ?_
      refine lv_dconst1 hx hb d_M_isSolved_141 ?_
      refine lv_dload hx hb d_M_isSolved_142 (lv_at hl 4 rfl) ?_
      obtain ⟨g9, h⟩ := gd_some h
      refine lv_dadd hx hb d_M_isSolved_144 (isn_n g9) ?_
      obtain ⟨g10, h⟩ := gd_some h
      refine lv_dmul hx hb d_M_isSolved_145 (isn_n g10) ?_
      refine lv_dcmp hx hb d_M_isSolved_146 ?_
      refine lv_if_gt (tgt := 183) hx hb d_M_isSolved_147 (by decide) (fun c11 => ?_) (fun c11 => ?_)
      · have h := it_t c11 h
        exact J183  H locs ls hP hD hS (lv_sub hl [] rfl) h
      · have h := it_f c11 h
        refine lv_dload hx hb d_M_isSolved_150 (lv_at hl 3 rfl) ?_
        refine lv_ldc2d (v := 4487126258331716666) hx hb hown (hts _ (bgc bw860)) d_M_isSolved_152 ?_
        refine lv_dconst1 hx hb d_M_isSolved_155 ?_
        refine lv_dload hx hb d_M_isSolved_156 (lv_at hl 5 rfl) ?_
        obtain ⟨g12, h⟩ := gd_some h
        refine lv_dadd hx hb d_M_isSolved_158 (isn_n g12) ?_
        obtain ⟨g13, h⟩ := gd_some h
        refine lv_dmul hx hb d_M_isSolved_159 (isn_n g13) ?_
        refine lv_dcmp hx hb d_M_isSolved_160 ?_
        refine lv_if_gt (tgt := 183) hx hb d_M_isSolved_161 (by decide) (fun c14 => ?_) (fun c14 => ?_)
        · have h := it_t c14 h
          exact J183  H locs ls hP hD hS (lv_sub hl [] rfl) h
        · have h := it_f c14 h
          refine lv_dload_n hx hb d_M_isSolved_164 rfl (lv_at hl 0 rfl) ?_
          refine lv_ldc2d (v := 4487126258331716666) hx hb hown (hts _ (bgc bw860)) d_M_isSolved_165 ?_
          refine lv_dconst1 hx hb d_M_isSolved_168 ?_
          refine lv_dload_n hx hb d_M_isSolved_169 rfl (lv_at hl 1 rfl) ?_
          obtain ⟨u15, hu15, h⟩ := bi_some h
          refine kD (v := u15) (wc := (w_M_abs T  )) (wc' := (w_M_abs T  )) (runOS (As := [.double x3]) (rest := [.double FP.dconst1, .double 4487126258331716666, .double x1]) ((c_M_abs l D T   x3 u15 hu15) H.size) ⟨hx, hb, hml, hown, hts⟩ (cwOS bw844 bw845 bw105 bw846 dd_M_abs hts ⟨Nat.le_of_ble_eq_true rfl, Nat.le_of_ble_eq_true rfl⟩)  hNW hK hP hD [] rfl (by decide) rfl hl.1 rfl (lv_room (Nat.le_of_ble_eq_true rfl)) d_M_isSolved_170 ⟨Nat.le_of_ble_eq_true rfl, Nat.le_of_ble_eq_true rfl⟩) hP hD hS hA [] rfl rfl (fun H locs hP hD hS => ?_)
          have hP : va_P D CL (w_M_isSolved T q0 q0_a q0_b q0_c q0_rowScale q0_columnScale q0_sa q0_sb q0_sc q0_x q0_s q0_y q0_p q0_d q0_h q0_f q0_mm q0_low q0_dd q0_r q0_big q0_dt q0_dx q0_t q0_cost q0_rowScaleNow q0_columnScaleNow q0_basic q0_text q0_turned q0_na q0_nb q0_nc vq0_m vq0_n vq0_length vq0_where vq0_effort vq0_thrown vq0_at vq0_scaled vq0_solved vq0_second vq0_nm vq0_nn vq0_number vq0_bad vq0_sb vq0_sc vq0_x vq0_p vq0_d) H := hP
          have hD : va_D A (w_M_isSolved T q0 q0_a q0_b q0_c q0_rowScale q0_columnScale q0_sa q0_sb q0_sc q0_x q0_s q0_y q0_p q0_d q0_h q0_f q0_mm q0_low q0_dd q0_r q0_big q0_dt q0_dx q0_t q0_cost q0_rowScaleNow q0_columnScaleNow q0_basic q0_text q0_turned q0_na q0_nb q0_nc vq0_m vq0_n vq0_length vq0_where vq0_effort vq0_thrown vq0_at vq0_scaled vq0_solved vq0_second vq0_nm vq0_nn vq0_number vq0_bad vq0_sb vq0_sc vq0_x vq0_p vq0_d) := hD
          obtain ⟨g16, h⟩ := gd_some h
          refine lv_dadd hx hb d_M_isSolved_173 (isn_n g16) ?_
          obtain ⟨g17, h⟩ := gd_some h
          refine lv_dmul hx hb d_M_isSolved_174 (isn_n g17) ?_
          refine lv_dcmp hx hb d_M_isSolved_175 ?_
          refine lv_if_gt (tgt := 183) hx hb d_M_isSolved_176 (by decide) (fun c18 => ?_) (fun c18 => ?_)
          · have h := it_t c18 h
            exact J183  H locs ls hP hD hS (lv_sub hl [] rfl) h
          · have h := it_f c18 h
            refine lv_iconst (v := 1) hx hb d_M_isSolved_179 (by decide) ?_
            refine lv_goto (tgt := 184) hx hb d_M_isSolved_180 (by decide) ?_
            obtain ⟨g19, h⟩ := gd_some h
            exact rtZ hx hb hr hlocks g19 hQ (Option.some.inj h) hP hS d_M_isSolved_184 rfl rfl
  have L17 : ∀ (x1 : UInt64) (x3 : UInt64) (x5 : UInt64) (x7 : UInt64) (x9 : UInt64) (x11 : UInt64) (x13 : Int32), ∀ (H : Heap) (locs : List Loc) (ls : Array Slot), va_P D CL (w_M_isSolved T q0 q0_a q0_b q0_c q0_rowScale q0_columnScale q0_sa q0_sb q0_sc q0_x q0_s q0_y q0_p q0_d q0_h q0_f q0_mm q0_low q0_dd q0_r q0_big q0_dt q0_dx q0_t q0_cost q0_rowScaleNow q0_columnScaleNow q0_basic q0_text q0_turned q0_na q0_nb q0_nc vq0_m vq0_n vq0_length vq0_where vq0_effort vq0_thrown vq0_at vq0_scaled vq0_solved vq0_second vq0_nm vq0_nn vq0_number vq0_bad vq0_sb vq0_sc vq0_x vq0_p vq0_d) H → va_D A (w_M_isSolved T q0 q0_a q0_b q0_c q0_rowScale q0_columnScale q0_sa q0_sb q0_sc q0_x q0_s q0_y q0_p q0_d q0_h q0_f q0_mm q0_low q0_dd q0_r q0_big q0_dt q0_dx q0_t q0_cost q0_rowScaleNow q0_columnScaleNow q0_basic q0_text q0_turned q0_na q0_nb q0_nc vq0_m vq0_n vq0_length vq0_where vq0_effort vq0_thrown vq0_at vq0_scaled vq0_solved vq0_second vq0_nm vq0_nn vq0_number vq0_bad vq0_sb vq0_sc vq0_x vq0_p vq0_d) → va_S A s.heap H locs → lv_has ls 14 [(0, .ref q0), (1, .double x1), (3, .double x3), (5, .double x5), (7, .double x7), (9, .double x9), (11, .double x11), (13, .int x13)] → s_M_isSolved_L17 vq0_m vq0_n vq0_length vq0_where vq0_effort vq0_thrown vq0_at vq0_scaled vq0_solved vq0_second vq0_nm vq0_nn vq0_number vq0_bad vq0_sb vq0_sc vq0_x vq0_p vq0_d x1 x3 x5 x7 x9 x11 x13 = some rm → W p l e (rmk 1 23) s m args below meth c H locs 0 0 Q (F0 m 17 ls []) := by
    intro x1 x3 x5 x7 x9 x11 x13 H locs ls hP hD hS hl h
    unfold s_M_isSolved_L17 at h
    obtain ⟨u17, hu17, h⟩ := bi_some h
    refine loopO_W (Wh := fun (st : UInt64 × UInt64 × UInt64 × Int32) => ∀ (H : Heap) (locs : List Loc) (ls : Array Slot), va_P D CL (w_M_isSolved T q0 q0_a q0_b q0_c q0_rowScale q0_columnScale q0_sa q0_sb q0_sc q0_x q0_s q0_y q0_p q0_d q0_h q0_f q0_mm q0_low q0_dd q0_r q0_big q0_dt q0_dx q0_t q0_cost q0_rowScaleNow q0_columnScaleNow q0_basic q0_text q0_turned q0_na q0_nb q0_nc vq0_m vq0_n vq0_length vq0_where vq0_effort vq0_thrown vq0_at vq0_scaled vq0_solved vq0_second vq0_nm vq0_nn vq0_number vq0_bad vq0_sb vq0_sc vq0_x vq0_p vq0_d) H → va_D A (w_M_isSolved T q0 q0_a q0_b q0_c q0_rowScale q0_columnScale q0_sa q0_sb q0_sc q0_x q0_s q0_y q0_p q0_d q0_h q0_f q0_mm q0_low q0_dd q0_r q0_big q0_dt q0_dx q0_t q0_cost q0_rowScaleNow q0_columnScaleNow q0_basic q0_text q0_turned q0_na q0_nb q0_nc vq0_m vq0_n vq0_length vq0_where vq0_effort vq0_thrown vq0_at vq0_scaled vq0_solved vq0_second vq0_nm vq0_nn vq0_number vq0_bad vq0_sb vq0_sc vq0_x vq0_p vq0_d) → va_S A s.heap H locs → lv_has ls 14 [(0, .ref q0), (1, .double x1), (3, .double st.1), (5, .double x5), (7, .double st.2.1), (9, .double x9), (11, .double st.2.2.1), (13, .int st.2.2.2)] → W p l e (rmk 1 23) s m args below meth c H locs 0 0 Q (F0 m 17 ls [])) (Wx := fun (e1 : UInt64 × UInt64 × UInt64) => ∀ (H : Heap) (locs : List Loc) (ls : Array Slot), va_P D CL (w_M_isSolved T q0 q0_a q0_b q0_c q0_rowScale q0_columnScale q0_sa q0_sb q0_sc q0_x q0_s q0_y q0_p q0_d q0_h q0_f q0_mm q0_low q0_dd q0_r q0_big q0_dt q0_dx q0_t q0_cost q0_rowScaleNow q0_columnScaleNow q0_basic q0_text q0_turned q0_na q0_nb q0_nc vq0_m vq0_n vq0_length vq0_where vq0_effort vq0_thrown vq0_at vq0_scaled vq0_solved vq0_second vq0_nm vq0_nn vq0_number vq0_bad vq0_sb vq0_sc vq0_x vq0_p vq0_d) H → va_D A (w_M_isSolved T q0 q0_a q0_b q0_c q0_rowScale q0_columnScale q0_sa q0_sb q0_sc q0_x q0_s q0_y q0_p q0_d q0_h q0_f q0_mm q0_low q0_dd q0_r q0_big q0_dt q0_dx q0_t q0_cost q0_rowScaleNow q0_columnScaleNow q0_basic q0_text q0_turned q0_na q0_nb q0_nc vq0_m vq0_n vq0_length vq0_where vq0_effort vq0_thrown vq0_at vq0_scaled vq0_solved vq0_second vq0_nm vq0_nn vq0_number vq0_bad vq0_sb vq0_sc vq0_x vq0_p vq0_d) → va_S A s.heap H locs → lv_has ls 14 [(0, .ref q0), (1, .double x1), (3, .double e1.1), (5, .double x5), (7, .double e1.2.1), (9, .double x9), (11, .double e1.2.2)] → W p l e (rmk 1 23) s m args below meth c H locs 0 0 Q (F0 m 84 ls [])) ?_ 2000 _ u17 hu17 ?_ H locs ls hP hD hS hl
    · intro st rb17 h kc17 kx17 H locs ls hP hD hS hl
      obtain ⟨x3, x7, x11, x13⟩ := st
      have h : s_M_isSolved_B17 vq0_m vq0_n vq0_length vq0_where vq0_effort vq0_thrown vq0_at vq0_scaled vq0_solved vq0_second vq0_nm vq0_nn vq0_number vq0_bad vq0_sb vq0_sc vq0_x vq0_p vq0_d x1 x5 x9 x3 x7 x11 x13 = some rb17 := h
      unfold s_M_isSolved_B17 at h
      refine lv_iload hx hb d_M_isSolved_17 (lv_at hl 7 rfl) ?_
      refine lv_aload_n hx hb d_M_isSolved_19 rfl (lv_at hl 0 rfl) ?_
      refine va_get (D := D) (ci := 8) (v := .int vq0_n) (C := "ConeForgeModel") (T := FM) (N := 46) hx hb hts iM hown hK hP 0 rfl rfl 30 (by decide) (hts _ (bgc bw714)) (fun _ h9 => h9) rfl d_M_isSolved_20 ?_
      refine lv_icmp_ge (tgt := 84) hx hb d_M_isSolved_23 (by decide) (fun c20 => ?_) (fun c20 => ?_)
      · have h := it_t c20 h
        exact kx17 _ (Option.some.inj h).symm H locs ls hP hD hS (lv_sub hl [0, 1, 2, 3, 4, 5, 6] rfl)
      · have h := it_f c20 h
        refine lv_dload_n hx hb d_M_isSolved_26 rfl (lv_at hl 2 rfl) ?_
        refine lv_aload_n hx hb d_M_isSolved_27 rfl (lv_at hl 0 rfl) ?_
        refine va_get (D := D) (ci := 8) (v := .ref q0_sc) (C := "ConeForgeModel") (T := FM) (N := 46) hx hb hts iM hown hK hP 0 rfl rfl 7 (by decide) (hts _ (bgc bw691)) (fun _ h9 => h9) rfl d_M_isSolved_28 ?_
        refine lv_iload hx hb d_M_isSolved_31 (lv_at hl 7 rfl) ?_
        obtain ⟨g21, h⟩ := gd_some h
        refine va_dald hx hb hK hP 2 0 rfl rfl (inb_in g21) d_M_isSolved_33 ?_
        refine lv_aload_n hx hb d_M_isSolved_34 rfl (lv_at hl 0 rfl) ?_
        refine va_get (D := D) (ci := 8) (v := .ref q0_x) (C := "ConeForgeModel") (T := FM) (N := 46) hx hb hts iM hown hK hP 0 rfl rfl 8 (by decide) (hts _ (bgc bw692)) (fun _ h9 => h9) rfl d_M_isSolved_35 ?_
        refine lv_iload hx hb d_M_isSolved_38 (lv_at hl 7 rfl) ?_
        obtain ⟨g22, h⟩ := gd_some h
        refine va_dald hx hb hK hP 3 0 rfl rfl (inb_in g22) d_M_isSolved_40 ?_
        obtain ⟨g23, h⟩ := gd_some h
        refine lv_dmul hx hb d_M_isSolved_41 (isn_n g23) ?_
        obtain ⟨g24, h⟩ := gd_some h
        refine lv_dadd hx hb d_M_isSolved_42 (isn_n g24) ?_
        refine lv_dstore_n (lv' := [(3, .double (FP.dadd x3 (FP.dmul (vq0_sc x13.toNatClampNeg) (vq0_x x13.toNatClampNeg)))), (0, .ref q0), (1, .double x1), (5, .double x5), (7, .double x7), (9, .double x9), (11, .double x11), (13, .int x13)]) hx hb d_M_isSolved_43 rfl hl (by decide) rfl (fun ls hl => ?_)
        refine lv_dload hx hb d_M_isSolved_44 (lv_at hl 4 rfl) ?_
        refine lv_aload_n hx hb d_M_isSolved_46 rfl (lv_at hl 1 rfl) ?_
        refine va_get (D := D) (ci := 8) (v := .ref q0_d) (C := "ConeForgeModel") (T := FM) (N := 46) hx hb hts iM hown hK hP 0 rfl rfl 12 (by decide) (hts _ (bgc bw696)) (fun _ h9 => h9) rfl d_M_isSolved_47 ?_
        refine lv_iload hx hb d_M_isSolved_50 (lv_at hl 7 rfl) ?_
        obtain ⟨g25, h⟩ := gd_some h
        refine va_dald hx hb hK hP 5 0 rfl rfl (inb_in g25) d_M_isSolved_52 ?_
        obtain ⟨u26, hu26, h⟩ := bi_some h
        refine kD (v := u26) (wc := (w_M_abs T  )) (wc' := (w_M_abs T  )) (runOS (As := [.double (vq0_d x13.toNatClampNeg)]) (rest := [.double x7]) ((c_M_abs l D T   (vq0_d x13.toNatClampNeg) u26 hu26) H.size) ⟨hx, hb, hml, hown, hts⟩ (cwOS bw844 bw845 bw105 bw846 dd_M_abs hts ⟨Nat.le_of_ble_eq_true rfl, Nat.le_of_ble_eq_true rfl⟩)  hNW hK hP hD [] rfl (by decide) rfl hl.1 rfl (lv_room (Nat.le_of_ble_eq_true rfl)) d_M_isSolved_53 ⟨Nat.le_of_ble_eq_true rfl, Nat.le_of_ble_eq_true rfl⟩) hP hD hS hA [] rfl rfl (fun H locs hP hD hS => ?_)
        have hP : va_P D CL (w_M_isSolved T q0 q0_a q0_b q0_c q0_rowScale q0_columnScale q0_sa q0_sb q0_sc q0_x q0_s q0_y q0_p q0_d q0_h q0_f q0_mm q0_low q0_dd q0_r q0_big q0_dt q0_dx q0_t q0_cost q0_rowScaleNow q0_columnScaleNow q0_basic q0_text q0_turned q0_na q0_nb q0_nc vq0_m vq0_n vq0_length vq0_where vq0_effort vq0_thrown vq0_at vq0_scaled vq0_solved vq0_second vq0_nm vq0_nn vq0_number vq0_bad vq0_sb vq0_sc vq0_x vq0_p vq0_d) H := hP
        have hD : va_D A (w_M_isSolved T q0 q0_a q0_b q0_c q0_rowScale q0_columnScale q0_sa q0_sb q0_sc q0_x q0_s q0_y q0_p q0_d q0_h q0_f q0_mm q0_low q0_dd q0_r q0_big q0_dt q0_dx q0_t q0_cost q0_rowScaleNow q0_columnScaleNow q0_basic q0_text q0_turned q0_na q0_nb q0_nc vq0_m vq0_n vq0_length vq0_where vq0_effort vq0_thrown vq0_at vq0_scaled vq0_solved vq0_second vq0_nm vq0_nn vq0_number vq0_bad vq0_sb vq0_sc vq0_x vq0_p vq0_d) := hD
        obtain ⟨u27, hu27, h⟩ := bi_some h
        refine kD (v := u27) (wc := (w_M_max T  )) (wc' := (w_M_max T  )) (runOS (As := [.double x7, .double u26]) (rest := []) ((c_M_max l D T   x7 u26 u27 hu27) H.size) ⟨hx, hb, hml, hown, hts⟩ (cwOS bw847 bw848 bw105 bw849 dd_M_max hts ⟨Nat.le_of_ble_eq_true rfl, Nat.le_of_ble_eq_true rfl⟩)  hNW hK hP hD [] rfl (by decide) rfl hl.1 rfl (lv_room (Nat.le_of_ble_eq_true rfl)) d_M_isSolved_56 ⟨Nat.le_of_ble_eq_true rfl, Nat.le_of_ble_eq_true rfl⟩) hP hD hS hA [] rfl rfl (fun H locs hP hD hS => ?_)
        have hP : va_P D CL (w_M_isSolved T q0 q0_a q0_b q0_c q0_rowScale q0_columnScale q0_sa q0_sb q0_sc q0_x q0_s q0_y q0_p q0_d q0_h q0_f q0_mm q0_low q0_dd q0_r q0_big q0_dt q0_dx q0_t q0_cost q0_rowScaleNow q0_columnScaleNow q0_basic q0_text q0_turned q0_na q0_nb q0_nc vq0_m vq0_n vq0_length vq0_where vq0_effort vq0_thrown vq0_at vq0_scaled vq0_solved vq0_second vq0_nm vq0_nn vq0_number vq0_bad vq0_sb vq0_sc vq0_x vq0_p vq0_d) H := hP
        have hD : va_D A (w_M_isSolved T q0 q0_a q0_b q0_c q0_rowScale q0_columnScale q0_sa q0_sb q0_sc q0_x q0_s q0_y q0_p q0_d q0_h q0_f q0_mm q0_low q0_dd q0_r q0_big q0_dt q0_dx q0_t q0_cost q0_rowScaleNow q0_columnScaleNow q0_basic q0_text q0_turned q0_na q0_nb q0_nc vq0_m vq0_n vq0_length vq0_where vq0_effort vq0_thrown vq0_at vq0_scaled vq0_solved vq0_second vq0_nm vq0_nn vq0_number vq0_bad vq0_sb vq0_sc vq0_x vq0_p vq0_d) := hD
        refine lv_dstore (lv' := [(7, .double u27), (3, .double (FP.dadd x3 (FP.dmul (vq0_sc x13.toNatClampNeg) (vq0_x x13.toNatClampNeg)))), (0, .ref q0), (1, .double x1), (5, .double x5), (9, .double x9), (11, .double x11), (13, .int x13)]) hx hb d_M_isSolved_59 hl (by decide) rfl (fun ls hl => ?_)
        refine lv_dload hx hb d_M_isSolved_61 (lv_at hl 6 rfl) ?_
        refine lv_aload_n hx hb d_M_isSolved_63 rfl (lv_at hl 2 rfl) ?_
        refine va_get (D := D) (ci := 8) (v := .ref q0_sc) (C := "ConeForgeModel") (T := FM) (N := 46) hx hb hts iM hown hK hP 0 rfl rfl 7 (by decide) (hts _ (bgc bw691)) (fun _ h9 => h9) rfl d_M_isSolved_64 ?_
        refine lv_iload hx hb d_M_isSolved_67 (lv_at hl 7 rfl) ?_
        obtain ⟨g28, h⟩ := gd_some h
        refine va_dald hx hb hK hP 2 0 rfl rfl (inb_in g28) d_M_isSolved_69 ?_
        obtain ⟨u29, hu29, h⟩ := bi_some h
        refine kD (v := u29) (wc := (w_M_abs T  )) (wc' := (w_M_abs T  )) (runOS (As := [.double (vq0_sc x13.toNatClampNeg)]) (rest := [.double x11]) ((c_M_abs l D T   (vq0_sc x13.toNatClampNeg) u29 hu29) H.size) ⟨hx, hb, hml, hown, hts⟩ (cwOS bw844 bw845 bw105 bw846 dd_M_abs hts ⟨Nat.le_of_ble_eq_true rfl, Nat.le_of_ble_eq_true rfl⟩)  hNW hK hP hD [] rfl (by decide) rfl hl.1 rfl (lv_room (Nat.le_of_ble_eq_true rfl)) d_M_isSolved_70 ⟨Nat.le_of_ble_eq_true rfl, Nat.le_of_ble_eq_true rfl⟩) hP hD hS hA [] rfl rfl (fun H locs hP hD hS => ?_)
        have hP : va_P D CL (w_M_isSolved T q0 q0_a q0_b q0_c q0_rowScale q0_columnScale q0_sa q0_sb q0_sc q0_x q0_s q0_y q0_p q0_d q0_h q0_f q0_mm q0_low q0_dd q0_r q0_big q0_dt q0_dx q0_t q0_cost q0_rowScaleNow q0_columnScaleNow q0_basic q0_text q0_turned q0_na q0_nb q0_nc vq0_m vq0_n vq0_length vq0_where vq0_effort vq0_thrown vq0_at vq0_scaled vq0_solved vq0_second vq0_nm vq0_nn vq0_number vq0_bad vq0_sb vq0_sc vq0_x vq0_p vq0_d) H := hP
        have hD : va_D A (w_M_isSolved T q0 q0_a q0_b q0_c q0_rowScale q0_columnScale q0_sa q0_sb q0_sc q0_x q0_s q0_y q0_p q0_d q0_h q0_f q0_mm q0_low q0_dd q0_r q0_big q0_dt q0_dx q0_t q0_cost q0_rowScaleNow q0_columnScaleNow q0_basic q0_text q0_turned q0_na q0_nb q0_nc vq0_m vq0_n vq0_length vq0_where vq0_effort vq0_thrown vq0_at vq0_scaled vq0_solved vq0_second vq0_nm vq0_nn vq0_number vq0_bad vq0_sb vq0_sc vq0_x vq0_p vq0_d) := hD
        obtain ⟨u30, hu30, h⟩ := bi_some h
        refine kD (v := u30) (wc := (w_M_max T  )) (wc' := (w_M_max T  )) (runOS (As := [.double x11, .double u29]) (rest := []) ((c_M_max l D T   x11 u29 u30 hu30) H.size) ⟨hx, hb, hml, hown, hts⟩ (cwOS bw847 bw848 bw105 bw849 dd_M_max hts ⟨Nat.le_of_ble_eq_true rfl, Nat.le_of_ble_eq_true rfl⟩)  hNW hK hP hD [] rfl (by decide) rfl hl.1 rfl (lv_room (Nat.le_of_ble_eq_true rfl)) d_M_isSolved_73 ⟨Nat.le_of_ble_eq_true rfl, Nat.le_of_ble_eq_true rfl⟩) hP hD hS hA [] rfl rfl (fun H locs hP hD hS => ?_)
        have hP : va_P D CL (w_M_isSolved T q0 q0_a q0_b q0_c q0_rowScale q0_columnScale q0_sa q0_sb q0_sc q0_x q0_s q0_y q0_p q0_d q0_h q0_f q0_mm q0_low q0_dd q0_r q0_big q0_dt q0_dx q0_t q0_cost q0_rowScaleNow q0_columnScaleNow q0_basic q0_text q0_turned q0_na q0_nb q0_nc vq0_m vq0_n vq0_length vq0_where vq0_effort vq0_thrown vq0_at vq0_scaled vq0_solved vq0_second vq0_nm vq0_nn vq0_number vq0_bad vq0_sb vq0_sc vq0_x vq0_p vq0_d) H := hP
        have hD : va_D A (w_M_isSolved T q0 q0_a q0_b q0_c q0_rowScale q0_columnScale q0_sa q0_sb q0_sc q0_x q0_s q0_y q0_p q0_d q0_h q0_f q0_mm q0_low q0_dd q0_r q0_big q0_dt q0_dx q0_t q0_cost q0_rowScaleNow q0_columnScaleNow q0_basic q0_text q0_turned q0_na q0_nb q0_nc vq0_m vq0_n vq0_length vq0_where vq0_effort vq0_thrown vq0_at vq0_scaled vq0_solved vq0_second vq0_nm vq0_nn vq0_number vq0_bad vq0_sb vq0_sc vq0_x vq0_p vq0_d) := hD
        refine lv_dstore (lv' := [(11, .double u30), (7, .double u27), (3, .double (FP.dadd x3 (FP.dmul (vq0_sc x13.toNatClampNeg) (vq0_x x13.toNatClampNeg)))), (0, .ref q0), (1, .double x1), (5, .double x5), (9, .double x9), (13, .int x13)]) hx hb d_M_isSolved_76 hl (by decide) rfl (fun ls hl => ?_)
        refine lv_iinc (v := x13 + 1) (lv' := [(13, .int (x13 + 1)), (11, .double u30), (7, .double u27), (3, .double (FP.dadd x3 (FP.dmul (vq0_sc x13.toNatClampNeg) (vq0_x x13.toNatClampNeg)))), (0, .ref q0), (1, .double x1), (5, .double x5), (9, .double x9)]) hx hb d_M_isSolved_78 hl (k := 7) rfl rfl (by decide) rfl (fun ls hl => ?_)
        refine lv_goto (tgt := 17) hx hb d_M_isSolved_81 (by decide) ?_
        exact kc17 _ (Option.some.inj h).symm H locs ls hP hD hS (lv_sub hl [4, 5, 3, 6, 2, 7, 1, 0] rfl)
    · intro H locs ls hP hD hS hl
      refine lv_iconst (v := 0) hx hb d_M_isSolved_84 (by decide) ?_
      refine lv_istore (lv' := [(13, .int 0), (0, .ref q0), (1, .double x1), (3, .double u17.1), (5, .double x5), (7, .double u17.2.1), (9, .double x9), (11, .double u17.2.2)]) hx hb d_M_isSolved_85 hl (by decide) rfl (fun ls hl => ?_)
      exact L87 x1 u17.1 x5 u17.2.1 x9 u17.2.2 0 H locs ls hP hD hS (lv_sub hl [1, 2, 3, 4, 5, 6, 7, 0] rfl) h
  unfold s_M_isSolved at h
  refine lv_dconst0 hx hb d_M_isSolved_0 ?_
  refine lv_dstore_n (lv' := [(3, .double FP.dconst0), (0, .ref q0), (1, .double x1)]) hx hb d_M_isSolved_1 rfl hl (by decide) rfl (fun ls hl => ?_)
  refine lv_dconst0 hx hb d_M_isSolved_2 ?_
  refine lv_dstore (lv' := [(5, .double FP.dconst0), (3, .double FP.dconst0), (0, .ref q0), (1, .double x1)]) hx hb d_M_isSolved_3 hl (by decide) rfl (fun ls hl => ?_)
  refine lv_dconst0 hx hb d_M_isSolved_5 ?_
  refine lv_dstore (lv' := [(7, .double FP.dconst0), (5, .double FP.dconst0), (3, .double FP.dconst0), (0, .ref q0), (1, .double x1)]) hx hb d_M_isSolved_6 hl (by decide) rfl (fun ls hl => ?_)
  refine lv_dconst0 hx hb d_M_isSolved_8 ?_
  refine lv_dstore (lv' := [(9, .double FP.dconst0), (7, .double FP.dconst0), (5, .double FP.dconst0), (3, .double FP.dconst0), (0, .ref q0), (1, .double x1)]) hx hb d_M_isSolved_9 hl (by decide) rfl (fun ls hl => ?_)
  refine lv_dconst0 hx hb d_M_isSolved_11 ?_
  refine lv_dstore (lv' := [(11, .double FP.dconst0), (9, .double FP.dconst0), (7, .double FP.dconst0), (5, .double FP.dconst0), (3, .double FP.dconst0), (0, .ref q0), (1, .double x1)]) hx hb d_M_isSolved_12 hl (by decide) rfl (fun ls hl => ?_)
  refine lv_iconst (v := 0) hx hb d_M_isSolved_14 (by decide) ?_
  refine lv_istore (lv' := [(13, .int 0), (11, .double FP.dconst0), (9, .double FP.dconst0), (7, .double FP.dconst0), (5, .double FP.dconst0), (3, .double FP.dconst0), (0, .ref q0), (1, .double x1)]) hx hb d_M_isSolved_15 hl (by decide) rfl (fun ls hl => ?_)
  exact L17 x1 FP.dconst0 FP.dconst0 FP.dconst0 FP.dconst0 FP.dconst0 0 H locs ls hP hD hS (lv_sub hl [6, 7, 5, 4, 3, 2, 1, 0] rfl) h
theorem d_M_isLost_0 : decode prog_10_method_24_code 0 = .ok (.iconst 0, 1) := by decide +kernel
theorem d_M_isLost_1 : decode prog_10_method_24_code 1 = .ok (.istore_n 1, 1) := by decide +kernel
theorem d_M_isLost_2 : decode prog_10_method_24_code 2 = .ok (.iload_n 1, 1) := by decide +kernel
theorem d_M_isLost_3 : decode prog_10_method_24_code 3 = .ok (.aload_n 0, 1) := by decide +kernel
theorem d_M_isLost_4 : decode prog_10_method_24_code 4 = .ok (.getfield 103, 3) := by decide +kernel
theorem d_M_isLost_7 : decode prog_10_method_24_code 7 = .ok (.if_icmp .ge 63, 3) := by decide +kernel
theorem d_M_isLost_10 : decode prog_10_method_24_code 10 = .ok (.aload_n 0, 1) := by decide +kernel
theorem d_M_isLost_11 : decode prog_10_method_24_code 11 = .ok (.getfield 34, 3) := by decide +kernel
theorem d_M_isLost_14 : decode prog_10_method_24_code 14 = .ok (.iload_n 1, 1) := by decide +kernel
theorem d_M_isLost_15 : decode prog_10_method_24_code 15 = .ok (.daload, 1) := by decide +kernel
theorem d_M_isLost_16 : decode prog_10_method_24_code 16 = .ok (.ldc2_w 210, 3) := by decide +kernel
theorem d_M_isLost_19 : decode prog_10_method_24_code 19 = .ok (.dcmp .l, 1) := by decide +kernel
theorem d_M_isLost_20 : decode prog_10_method_24_code 20 = .ok (.ifCond .gt 42, 3) := by decide +kernel
theorem d_M_isLost_23 : decode prog_10_method_24_code 23 = .ok (.aload_n 0, 1) := by decide +kernel
theorem d_M_isLost_24 : decode prog_10_method_24_code 24 = .ok (.getfield 37, 3) := by decide +kernel
theorem d_M_isLost_27 : decode prog_10_method_24_code 27 = .ok (.iload_n 1, 1) := by decide +kernel
theorem d_M_isLost_28 : decode prog_10_method_24_code 28 = .ok (.daload, 1) := by decide +kernel
theorem d_M_isLost_29 : decode prog_10_method_24_code 29 = .ok (.ldc2_w 210, 3) := by decide +kernel
theorem d_M_isLost_32 : decode prog_10_method_24_code 32 = .ok (.dcmp .l, 1) := by decide +kernel
theorem d_M_isLost_33 : decode prog_10_method_24_code 33 = .ok (.ifCond .gt 29, 3) := by decide +kernel
theorem d_M_isLost_36 : decode prog_10_method_24_code 36 = .ok (.aload_n 0, 1) := by decide +kernel
theorem d_M_isLost_37 : decode prog_10_method_24_code 37 = .ok (.getfield 34, 3) := by decide +kernel
theorem d_M_isLost_40 : decode prog_10_method_24_code 40 = .ok (.iload_n 1, 1) := by decide +kernel
theorem d_M_isLost_41 : decode prog_10_method_24_code 41 = .ok (.daload, 1) := by decide +kernel
theorem d_M_isLost_42 : decode prog_10_method_24_code 42 = .ok (.ldc2_w 212, 3) := by decide +kernel
theorem d_M_isLost_45 : decode prog_10_method_24_code 45 = .ok (.dcmp .g, 1) := by decide +kernel
theorem d_M_isLost_46 : decode prog_10_method_24_code 46 = .ok (.ifCond .lt 16, 3) := by decide +kernel
theorem d_M_isLost_49 : decode prog_10_method_24_code 49 = .ok (.aload_n 0, 1) := by decide +kernel
theorem d_M_isLost_50 : decode prog_10_method_24_code 50 = .ok (.getfield 37, 3) := by decide +kernel
theorem d_M_isLost_53 : decode prog_10_method_24_code 53 = .ok (.iload_n 1, 1) := by decide +kernel
theorem d_M_isLost_54 : decode prog_10_method_24_code 54 = .ok (.daload, 1) := by decide +kernel
theorem d_M_isLost_55 : decode prog_10_method_24_code 55 = .ok (.ldc2_w 212, 3) := by decide +kernel
theorem d_M_isLost_58 : decode prog_10_method_24_code 58 = .ok (.dcmp .g, 1) := by decide +kernel
theorem d_M_isLost_59 : decode prog_10_method_24_code 59 = .ok (.ifCond .ge 5, 3) := by decide +kernel
theorem d_M_isLost_62 : decode prog_10_method_24_code 62 = .ok (.iconst 1, 1) := by decide +kernel
theorem d_M_isLost_63 : decode prog_10_method_24_code 63 = .ok (.ireturn, 1) := by decide +kernel
theorem d_M_isLost_64 : decode prog_10_method_24_code 64 = .ok (.iinc 1 1, 3) := by decide +kernel
theorem d_M_isLost_67 : decode prog_10_method_24_code 67 = .ok (.goto (-65), 3) := by decide +kernel
theorem d_M_isLost_70 : decode prog_10_method_24_code 70 = .ok (.iconst 0, 1) := by decide +kernel
theorem d_M_isLost_71 : decode prog_10_method_24_code 71 = .ok (.istore_n 1, 1) := by decide +kernel
theorem d_M_isLost_72 : decode prog_10_method_24_code 72 = .ok (.iload_n 1, 1) := by decide +kernel
theorem d_M_isLost_73 : decode prog_10_method_24_code 73 = .ok (.aload_n 0, 1) := by decide +kernel
theorem d_M_isLost_74 : decode prog_10_method_24_code 74 = .ok (.getfield 99, 3) := by decide +kernel
theorem d_M_isLost_77 : decode prog_10_method_24_code 77 = .ok (.if_icmp .ge 27, 3) := by decide +kernel
theorem d_M_isLost_80 : decode prog_10_method_24_code 80 = .ok (.aload_n 0, 1) := by decide +kernel
theorem d_M_isLost_81 : decode prog_10_method_24_code 81 = .ok (.getfield 40, 3) := by decide +kernel
theorem d_M_isLost_84 : decode prog_10_method_24_code 84 = .ok (.iload_n 1, 1) := by decide +kernel
theorem d_M_isLost_85 : decode prog_10_method_24_code 85 = .ok (.daload, 1) := by decide +kernel
theorem d_M_isLost_86 : decode prog_10_method_24_code 86 = .ok (.invokestatic 197, 3) := by decide +kernel
theorem d_M_isLost_89 : decode prog_10_method_24_code 89 = .ok (.ldc2_w 210, 3) := by decide +kernel
theorem d_M_isLost_92 : decode prog_10_method_24_code 92 = .ok (.dcmp .l, 1) := by decide +kernel
theorem d_M_isLost_93 : decode prog_10_method_24_code 93 = .ok (.ifCond .le 5, 3) := by decide +kernel
theorem d_M_isLost_96 : decode prog_10_method_24_code 96 = .ok (.iconst 1, 1) := by decide +kernel
theorem d_M_isLost_97 : decode prog_10_method_24_code 97 = .ok (.ireturn, 1) := by decide +kernel
theorem d_M_isLost_98 : decode prog_10_method_24_code 98 = .ok (.iinc 1 1, 3) := by decide +kernel
theorem d_M_isLost_101 : decode prog_10_method_24_code 101 = .ok (.goto (-29), 3) := by decide +kernel
theorem d_M_isLost_104 : decode prog_10_method_24_code 104 = .ok (.iconst 0, 1) := by decide +kernel
theorem d_M_isLost_105 : decode prog_10_method_24_code 105 = .ok (.ireturn, 1) := by decide +kernel
abbrev w_M_isLost (T : Nat → ClassId) (q0 : Nat) (q0_a : Nat) (q0_b : Nat) (q0_c : Nat) (q0_rowScale : Nat) (q0_columnScale : Nat) (q0_sa : Nat) (q0_sb : Nat) (q0_sc : Nat) (q0_x : Nat) (q0_s : Nat) (q0_y : Nat) (q0_p : Nat) (q0_d : Nat) (q0_h : Nat) (q0_f : Nat) (q0_mm : Nat) (q0_low : Nat) (q0_dd : Nat) (q0_r : Nat) (q0_big : Nat) (q0_dt : Nat) (q0_dx : Nat) (q0_t : Nat) (q0_cost : Nat) (q0_rowScaleNow : Nat) (q0_columnScaleNow : Nat) (q0_basic : Nat) (q0_text : Nat) (q0_turned : Nat) (q0_na : Nat) (q0_nb : Nat) (q0_nc : Nat) (vq0_m : Int32) (vq0_n : Int32) (vq0_length : Int32) (vq0_where : Int32) (vq0_effort : Int32) (vq0_thrown : Int32) (vq0_at : Int32) (vq0_scaled : Int32) (vq0_solved : Int32) (vq0_second : Int32) (vq0_nm : Int32) (vq0_nn : Int32) (vq0_number : UInt64) (vq0_bad : Int32) (vq0_x : Nat → UInt64) (vq0_s : Nat → UInt64) (vq0_y : Nat → UInt64) : va_W := [(q0, .inr (8, [.ref q0_a, .ref q0_b, .ref q0_c, .ref q0_rowScale, .ref q0_columnScale, .ref q0_sa, .ref q0_sb, .ref q0_sc, .ref q0_x, .ref q0_s, .ref q0_y, .ref q0_p, .ref q0_d, .ref q0_h, .ref q0_f, .ref q0_mm, .ref q0_low, .ref q0_dd, .ref q0_r, .ref q0_big, .ref q0_dt, .ref q0_dx, .ref q0_t, .ref q0_cost, .ref q0_rowScaleNow, .ref q0_columnScaleNow, .ref q0_basic, .ref q0_text, .ref q0_turned, .int vq0_m, .int vq0_n, .int vq0_length, .int vq0_where, .int vq0_effort, .int vq0_thrown, .int vq0_at, .int vq0_scaled, .int vq0_solved, .int vq0_second, .ref q0_na, .ref q0_nb, .ref q0_nc, .int vq0_nm, .int vq0_nn, .double vq0_number, .int vq0_bad])), (q0_x, .inl (T 0, 8, .inr (.inr (.inr (.inl vq0_x))))), (q0_s, .inl (T 0, 8, .inr (.inr (.inr (.inl vq0_s))))), (q0_y, .inl (T 0, 5, .inr (.inr (.inr (.inl vq0_y)))))]
def s_M_isLost_B72 (vq0_m : Int32) (vq0_n : Int32) (vq0_length : Int32) (vq0_where : Int32) (vq0_effort : Int32) (vq0_thrown : Int32) (vq0_at : Int32) (vq0_scaled : Int32) (vq0_solved : Int32) (vq0_second : Int32) (vq0_nm : Int32) (vq0_nn : Int32) (vq0_number : UInt64) (vq0_bad : Int32) (vq0_x : Nat → UInt64) (vq0_s : Nat → UInt64) (vq0_y : Nat → UInt64) (x1 : Int32) : Option ((Int32) ⊕ ((Unit) ⊕ (Int32))) :=
  if vq0_m ≤ x1 then (some (.inr (.inl ()))) else (gd (inb x1 5) <| (s_M_abs (vq0_y x1.toNatClampNeg)).bind fun u3 => if (Op.cmpValue (FP.dcmp u3 4741671816366391296) .l) ≤ 0 then (some (.inl (x1 + 1))) else (gd (isb 1) <| some (.inr (.inr 1))))
def s_M_isLost_L72 (vq0_m : Int32) (vq0_n : Int32) (vq0_length : Int32) (vq0_where : Int32) (vq0_effort : Int32) (vq0_thrown : Int32) (vq0_at : Int32) (vq0_scaled : Int32) (vq0_solved : Int32) (vq0_second : Int32) (vq0_nm : Int32) (vq0_nn : Int32) (vq0_number : UInt64) (vq0_bad : Int32) (vq0_x : Nat → UInt64) (vq0_s : Nat → UInt64) (vq0_y : Nat → UInt64) (x1 : Int32) : Option (Int32) :=
  (loopO (fun (st : Int32) => s_M_isLost_B72 vq0_m vq0_n vq0_length vq0_where vq0_effort vq0_thrown vq0_at vq0_scaled vq0_solved vq0_second vq0_nm vq0_nn vq0_number vq0_bad vq0_x vq0_s vq0_y st) 2000 x1).bind fun u72 => Sum.elim (fun w72 => gd (isb 0) <| some 0) (fun w72 => some w72) u72
def s_M_isLost_B2 (vq0_m : Int32) (vq0_n : Int32) (vq0_length : Int32) (vq0_where : Int32) (vq0_effort : Int32) (vq0_thrown : Int32) (vq0_at : Int32) (vq0_scaled : Int32) (vq0_solved : Int32) (vq0_second : Int32) (vq0_nm : Int32) (vq0_nn : Int32) (vq0_number : UInt64) (vq0_bad : Int32) (vq0_x : Nat → UInt64) (vq0_s : Nat → UInt64) (vq0_y : Nat → UInt64) (x1 : Int32) : Option ((Int32) ⊕ ((Unit) ⊕ (Int32))) :=
  if vq0_n ≤ x1 then (some (.inr (.inl ()))) else (gd (inb x1 8) <| if 0 < (Op.cmpValue (FP.dcmp (vq0_x x1.toNatClampNeg) 4741671816366391296) .l) then (gd (isb 1) <| some (.inr (.inr 1))) else (gd (inb x1 8) <| if 0 < (Op.cmpValue (FP.dcmp (vq0_s x1.toNatClampNeg) 4741671816366391296) .l) then (gd (isb 1) <| some (.inr (.inr 1))) else (gd (inb x1 8) <| if (Op.cmpValue (FP.dcmp (vq0_x x1.toNatClampNeg) 4427486594234968593) .g) < 0 then (gd (isb 1) <| some (.inr (.inr 1))) else (gd (inb x1 8) <| if 0 ≤ (Op.cmpValue (FP.dcmp (vq0_s x1.toNatClampNeg) 4427486594234968593) .g) then (some (.inl (x1 + 1))) else (gd (isb 1) <| some (.inr (.inr 1)))))))
def s_M_isLost_L2 (vq0_m : Int32) (vq0_n : Int32) (vq0_length : Int32) (vq0_where : Int32) (vq0_effort : Int32) (vq0_thrown : Int32) (vq0_at : Int32) (vq0_scaled : Int32) (vq0_solved : Int32) (vq0_second : Int32) (vq0_nm : Int32) (vq0_nn : Int32) (vq0_number : UInt64) (vq0_bad : Int32) (vq0_x : Nat → UInt64) (vq0_s : Nat → UInt64) (vq0_y : Nat → UInt64) (x1 : Int32) : Option (Int32) :=
  (loopO (fun (st : Int32) => s_M_isLost_B2 vq0_m vq0_n vq0_length vq0_where vq0_effort vq0_thrown vq0_at vq0_scaled vq0_solved vq0_second vq0_nm vq0_nn vq0_number vq0_bad vq0_x vq0_s vq0_y st) 2000 x1).bind fun u2 => Sum.elim (fun w2 => s_M_isLost_L72 vq0_m vq0_n vq0_length vq0_where vq0_effort vq0_thrown vq0_at vq0_scaled vq0_solved vq0_second vq0_nm vq0_nn vq0_number vq0_bad vq0_x vq0_s vq0_y 0) (fun w2 => some w2) u2
def s_M_isLost (vq0_m : Int32) (vq0_n : Int32) (vq0_length : Int32) (vq0_where : Int32) (vq0_effort : Int32) (vq0_thrown : Int32) (vq0_at : Int32) (vq0_scaled : Int32) (vq0_solved : Int32) (vq0_second : Int32) (vq0_nm : Int32) (vq0_nn : Int32) (vq0_number : UInt64) (vq0_bad : Int32) (vq0_x : Nat → UInt64) (vq0_s : Nat → UInt64) (vq0_y : Nat → UInt64) : Option (Int32) :=
  s_M_isLost_L2 vq0_m vq0_n vq0_length vq0_where vq0_effort vq0_thrown vq0_at vq0_scaled vq0_solved vq0_second vq0_nm vq0_nn vq0_number vq0_bad vq0_x vq0_s vq0_y 0
set_option maxHeartbeats 4000000 in
set_option maxRecDepth 100000 in
theorem c_M_isLost (l : Launch) (D : va_G) (T : Nat → ClassId) (q0 : Nat) (q0_a : Nat) (q0_b : Nat) (q0_c : Nat) (q0_rowScale : Nat) (q0_columnScale : Nat) (q0_sa : Nat) (q0_sb : Nat) (q0_sc : Nat) (q0_x : Nat) (q0_s : Nat) (q0_y : Nat) (q0_p : Nat) (q0_d : Nat) (q0_h : Nat) (q0_f : Nat) (q0_mm : Nat) (q0_low : Nat) (q0_dd : Nat) (q0_r : Nat) (q0_big : Nat) (q0_dt : Nat) (q0_dx : Nat) (q0_t : Nat) (q0_cost : Nat) (q0_rowScaleNow : Nat) (q0_columnScaleNow : Nat) (q0_basic : Nat) (q0_text : Nat) (q0_turned : Nat) (q0_na : Nat) (q0_nb : Nat) (q0_nc : Nat) (vq0_m : Int32) (vq0_n : Int32) (vq0_length : Int32) (vq0_where : Int32) (vq0_effort : Int32) (vq0_thrown : Int32) (vq0_at : Int32) (vq0_scaled : Int32) (vq0_solved : Int32) (vq0_second : Int32) (vq0_nm : Int32) (vq0_nn : Int32) (vq0_number : UInt64) (vq0_bad : Int32) (vq0_x : Nat → UInt64) (vq0_s : Nat → UInt64) (vq0_y : Nat → UInt64) (rm : Int32) (h : s_M_isLost vq0_m vq0_n vq0_length vq0_where vq0_effort vq0_thrown vq0_at vq0_scaled vq0_solved vq0_second vq0_nm vq0_nn vq0_number vq0_bad vq0_x vq0_s vq0_y = some rm) : CtI l y_M_isLost (Cond.code y_M_isLost prog_10_method_24_code 2 (some .boolean) :: BIG) 1 21 D T [.ref q0] (w_M_isLost T q0 q0_a q0_b q0_c q0_rowScale q0_columnScale q0_sa q0_sb q0_sc q0_x q0_s q0_y q0_p q0_d q0_h q0_f q0_mm q0_low q0_dd q0_r q0_big q0_dt q0_dx q0_t q0_cost q0_rowScaleNow q0_columnScaleNow q0_basic q0_text q0_turned q0_na q0_nb q0_nc vq0_m vq0_n vq0_length vq0_where vq0_effort vq0_thrown vq0_at vq0_scaled vq0_solved vq0_second vq0_nm vq0_nn vq0_number vq0_bad vq0_x vq0_s vq0_y) (fun r => r) (fun r => (w_M_isLost T q0 q0_a q0_b q0_c q0_rowScale q0_columnScale q0_sa q0_sb q0_sc q0_x q0_s q0_y q0_p q0_d q0_h q0_f q0_mm q0_low q0_dd q0_r q0_big q0_dt q0_dx q0_t q0_cost q0_rowScaleNow q0_columnScaleNow q0_basic q0_text q0_turned q0_na q0_nb q0_nc vq0_m vq0_n vq0_length vq0_where vq0_effort vq0_thrown vq0_at vq0_scaled vq0_solved vq0_second vq0_nm vq0_nn vq0_number vq0_bad vq0_x vq0_s vq0_y)) rm := by
  refine cf_entry (y := y_M_isLost) (cc := prog_10_method_24_code) (nL := 2) (ret := (some .boolean)) (fr := 1) (lo := 21) (T := T) (av := [.ref q0]) (w := (w_M_isLost T q0 q0_a q0_b q0_c q0_rowScale q0_columnScale q0_sa q0_sb q0_sc q0_x q0_s q0_y q0_p q0_d q0_h q0_f q0_mm q0_low q0_dd q0_r q0_big q0_dt q0_dx q0_t q0_cost q0_rowScaleNow q0_columnScaleNow q0_basic q0_text q0_turned q0_na q0_nb q0_nc vq0_m vq0_n vq0_length vq0_where vq0_effort vq0_thrown vq0_at vq0_scaled vq0_solved vq0_second vq0_nm vq0_nn vq0_number vq0_bad vq0_x vq0_s vq0_y)) (Qc := cfQi D (fun r => r) (fun r => (w_M_isLost T q0 q0_a q0_b q0_c q0_rowScale q0_columnScale q0_sa q0_sb q0_sc q0_x q0_s q0_y q0_p q0_d q0_h q0_f q0_mm q0_low q0_dd q0_r q0_big q0_dt q0_dx q0_t q0_cost q0_rowScaleNow q0_columnScaleNow q0_basic q0_text q0_turned q0_na q0_nb q0_nc vq0_m vq0_n vq0_length vq0_where vq0_effort vq0_thrown vq0_at vq0_scaled vq0_solved vq0_second vq0_nm vq0_nn vq0_number vq0_bad vq0_x vq0_s vq0_y)) rm) (by decide) rfl (Nat.le_of_ble_eq_true rfl) ?_
  intro p e s m args below meth c A Q H locs ls hx hb hr hlocks hml hown hts hNW hK hA hQ hP hD hS hl
  have hown : s.vm.findClass "ConeForgeModel" = some m.cls := hown
  have hl : lv_has ls 2 [(0, .ref q0)] := hl
  have L72 : ∀ (x1 : Int32), ∀ (H : Heap) (locs : List Loc) (ls : Array Slot), va_P D CL (w_M_isLost T q0 q0_a q0_b q0_c q0_rowScale q0_columnScale q0_sa q0_sb q0_sc q0_x q0_s q0_y q0_p q0_d q0_h q0_f q0_mm q0_low q0_dd q0_r q0_big q0_dt q0_dx q0_t q0_cost q0_rowScaleNow q0_columnScaleNow q0_basic q0_text q0_turned q0_na q0_nb q0_nc vq0_m vq0_n vq0_length vq0_where vq0_effort vq0_thrown vq0_at vq0_scaled vq0_solved vq0_second vq0_nm vq0_nn vq0_number vq0_bad vq0_x vq0_s vq0_y) H → va_D A (w_M_isLost T q0 q0_a q0_b q0_c q0_rowScale q0_columnScale q0_sa q0_sb q0_sc q0_x q0_s q0_y q0_p q0_d q0_h q0_f q0_mm q0_low q0_dd q0_r q0_big q0_dt q0_dx q0_t q0_cost q0_rowScaleNow q0_columnScaleNow q0_basic q0_text q0_turned q0_na q0_nb q0_nc vq0_m vq0_n vq0_length vq0_where vq0_effort vq0_thrown vq0_at vq0_scaled vq0_solved vq0_second vq0_nm vq0_nn vq0_number vq0_bad vq0_x vq0_s vq0_y) → va_S A s.heap H locs → lv_has ls 2 [(0, .ref q0), (1, .int x1)] → s_M_isLost_L72 vq0_m vq0_n vq0_length vq0_where vq0_effort vq0_thrown vq0_at vq0_scaled vq0_solved vq0_second vq0_nm vq0_nn vq0_number vq0_bad vq0_x vq0_s vq0_y x1 = some rm → W p l e (rmk 1 21) s m args below meth c H locs 0 0 Q (F0 m 72 ls []) := by
    intro x1 H locs ls hP hD hS hl h
    unfold s_M_isLost_L72 at h
    obtain ⟨u72, hu72, h⟩ := bi_some h
    refine loopO_W (Wh := fun (st : Int32) => ∀ (H : Heap) (locs : List Loc) (ls : Array Slot), va_P D CL (w_M_isLost T q0 q0_a q0_b q0_c q0_rowScale q0_columnScale q0_sa q0_sb q0_sc q0_x q0_s q0_y q0_p q0_d q0_h q0_f q0_mm q0_low q0_dd q0_r q0_big q0_dt q0_dx q0_t q0_cost q0_rowScaleNow q0_columnScaleNow q0_basic q0_text q0_turned q0_na q0_nb q0_nc vq0_m vq0_n vq0_length vq0_where vq0_effort vq0_thrown vq0_at vq0_scaled vq0_solved vq0_second vq0_nm vq0_nn vq0_number vq0_bad vq0_x vq0_s vq0_y) H → va_D A (w_M_isLost T q0 q0_a q0_b q0_c q0_rowScale q0_columnScale q0_sa q0_sb q0_sc q0_x q0_s q0_y q0_p q0_d q0_h q0_f q0_mm q0_low q0_dd q0_r q0_big q0_dt q0_dx q0_t q0_cost q0_rowScaleNow q0_columnScaleNow q0_basic q0_text q0_turned q0_na q0_nb q0_nc vq0_m vq0_n vq0_length vq0_where vq0_effort vq0_thrown vq0_at vq0_scaled vq0_solved vq0_second vq0_nm vq0_nn vq0_number vq0_bad vq0_x vq0_s vq0_y) → va_S A s.heap H locs → lv_has ls 2 [(0, .ref q0), (1, .int st)] → W p l e (rmk 1 21) s m args below meth c H locs 0 0 Q (F0 m 72 ls [])) (Wx := fun (e0 : (Unit) ⊕ (Int32)) => Sum.elim (fun (e1 : Unit) => ∀ (H : Heap) (locs : List Loc) (ls : Array Slot), va_P D CL (w_M_isLost T q0 q0_a q0_b q0_c q0_rowScale q0_columnScale q0_sa q0_sb q0_sc q0_x q0_s q0_y q0_p q0_d q0_h q0_f q0_mm q0_low q0_dd q0_r q0_big q0_dt q0_dx q0_t q0_cost q0_rowScaleNow q0_columnScaleNow q0_basic q0_text q0_turned q0_na q0_nb q0_nc vq0_m vq0_n vq0_length vq0_where vq0_effort vq0_thrown vq0_at vq0_scaled vq0_solved vq0_second vq0_nm vq0_nn vq0_number vq0_bad vq0_x vq0_s vq0_y) H → va_D A (w_M_isLost T q0 q0_a q0_b q0_c q0_rowScale q0_columnScale q0_sa q0_sb q0_sc q0_x q0_s q0_y q0_p q0_d q0_h q0_f q0_mm q0_low q0_dd q0_r q0_big q0_dt q0_dx q0_t q0_cost q0_rowScaleNow q0_columnScaleNow q0_basic q0_text q0_turned q0_na q0_nb q0_nc vq0_m vq0_n vq0_length vq0_where vq0_effort vq0_thrown vq0_at vq0_scaled vq0_solved vq0_second vq0_nm vq0_nn vq0_number vq0_bad vq0_x vq0_s vq0_y) → va_S A s.heap H locs → lv_has ls 2 [] → W p l e (rmk 1 21) s m args below meth c H locs 0 0 Q (F0 m 104 ls [])) (fun e2 => e2 = rm) e0) ?_ 2000 _ u72 hu72 ?_ H locs ls hP hD hS hl
    · intro st rb72 h kc72 kx72 H locs ls hP hD hS hl
      obtain ⟨x1, rfl⟩ : ∃ z, z = st := ⟨_, rfl⟩
      have h : s_M_isLost_B72 vq0_m vq0_n vq0_length vq0_where vq0_effort vq0_thrown vq0_at vq0_scaled vq0_solved vq0_second vq0_nm vq0_nn vq0_number vq0_bad vq0_x vq0_s vq0_y x1 = some rb72 := h
      unfold s_M_isLost_B72 at h
      refine lv_iload_n hx hb d_M_isLost_72 rfl (lv_at hl 1 rfl) ?_
      refine lv_aload_n hx hb d_M_isLost_73 rfl (lv_at hl 0 rfl) ?_
      refine va_get (D := D) (ci := 8) (v := .int vq0_m) (C := "ConeForgeModel") (T := FM) (N := 46) hx hb hts iM hown hK hP 0 rfl rfl 29 (by decide) (hts _ (bgc bw713)) (fun _ h9 => h9) rfl d_M_isLost_74 ?_
      refine lv_icmp_ge (tgt := 104) hx hb d_M_isLost_77 (by decide) (fun c1 => ?_) (fun c1 => ?_)
      · have h := it_t c1 h
        exact kx72 _ (Option.some.inj h).symm H locs ls hP hD hS (lv_sub hl [] rfl)
      · have h := it_f c1 h
        refine lv_aload_n hx hb d_M_isLost_80 rfl (lv_at hl 0 rfl) ?_
        refine va_get (D := D) (ci := 8) (v := .ref q0_y) (C := "ConeForgeModel") (T := FM) (N := 46) hx hb hts iM hown hK hP 0 rfl rfl 10 (by decide) (hts _ (bgc bw694)) (fun _ h9 => h9) rfl d_M_isLost_81 ?_
        refine lv_iload_n hx hb d_M_isLost_84 rfl (lv_at hl 1 rfl) ?_
        obtain ⟨g2, h⟩ := gd_some h
        refine va_dald hx hb hK hP 3 0 rfl rfl (inb_in g2) d_M_isLost_85 ?_
        obtain ⟨u3, hu3, h⟩ := bi_some h
        refine kD (v := u3) (wc := (w_M_abs T  )) (wc' := (w_M_abs T  )) (runOS (As := [.double (vq0_y x1.toNatClampNeg)]) (rest := []) ((c_M_abs l D T   (vq0_y x1.toNatClampNeg) u3 hu3) H.size) ⟨hx, hb, hml, hown, hts⟩ (cwOS bw844 bw845 bw105 bw846 dd_M_abs hts ⟨Nat.le_of_ble_eq_true rfl, Nat.le_of_ble_eq_true rfl⟩)  hNW hK hP hD [] rfl (by decide) rfl hl.1 rfl (lv_room (Nat.le_of_ble_eq_true rfl)) d_M_isLost_86 ⟨Nat.le_of_ble_eq_true rfl, Nat.le_of_ble_eq_true rfl⟩) hP hD hS hA [] rfl rfl (fun H locs hP hD hS => ?_)
        have hP : va_P D CL (w_M_isLost T q0 q0_a q0_b q0_c q0_rowScale q0_columnScale q0_sa q0_sb q0_sc q0_x q0_s q0_y q0_p q0_d q0_h q0_f q0_mm q0_low q0_dd q0_r q0_big q0_dt q0_dx q0_t q0_cost q0_rowScaleNow q0_columnScaleNow q0_basic q0_text q0_turned q0_na q0_nb q0_nc vq0_m vq0_n vq0_length vq0_where vq0_effort vq0_thrown vq0_at vq0_scaled vq0_solved vq0_second vq0_nm vq0_nn vq0_number vq0_bad vq0_x vq0_s vq0_y) H := hP
        have hD : va_D A (w_M_isLost T q0 q0_a q0_b q0_c q0_rowScale q0_columnScale q0_sa q0_sb q0_sc q0_x q0_s q0_y q0_p q0_d q0_h q0_f q0_mm q0_low q0_dd q0_r q0_big q0_dt q0_dx q0_t q0_cost q0_rowScaleNow q0_columnScaleNow q0_basic q0_text q0_turned q0_na q0_nb q0_nc vq0_m vq0_n vq0_length vq0_where vq0_effort vq0_thrown vq0_at vq0_scaled vq0_solved vq0_second vq0_nm vq0_nn vq0_number vq0_bad vq0_x vq0_s vq0_y) := hD
        refine lv_ldc2d (v := 4741671816366391296) hx hb hown (hts _ (bgc bw864)) d_M_isLost_89 ?_
        refine lv_dcmp hx hb d_M_isLost_92 ?_
        refine lv_if_le (tgt := 98) hx hb d_M_isLost_93 (by decide) (fun c4 => ?_) (fun c4 => ?_)
        · have h := it_t c4 h
          refine lv_iinc (v := x1 + 1) (lv' := [(1, .int (x1 + 1)), (0, .ref q0)]) hx hb d_M_isLost_98 hl (k := 1) rfl rfl (by decide) rfl (fun ls hl => ?_)
          refine lv_goto (tgt := 72) hx hb d_M_isLost_101 (by decide) ?_
          exact kc72 _ (Option.some.inj h).symm H locs ls hP hD hS (lv_sub hl [1, 0] rfl)
        · have h := it_f c4 h
          refine lv_iconst (v := 1) hx hb d_M_isLost_96 (by decide) ?_
          obtain ⟨g5, h⟩ := gd_some h
          exact rtZ hx hb hr hlocks g5 hQ (kx72 _ (Option.some.inj h).symm) hP hS d_M_isLost_97 rfl rfl
    · cases u72 with
      | inl w72 =>
        intro H locs ls hP hD hS hl
        refine lv_iconst (v := 0) hx hb d_M_isLost_104 (by decide) ?_
        obtain ⟨g6, h⟩ := gd_some h
        exact rtZ hx hb hr hlocks g6 hQ (Option.some.inj h) hP hS d_M_isLost_105 rfl rfl
      | inr w72 => exact Option.some.inj h
  have L2 : ∀ (x1 : Int32), ∀ (H : Heap) (locs : List Loc) (ls : Array Slot), va_P D CL (w_M_isLost T q0 q0_a q0_b q0_c q0_rowScale q0_columnScale q0_sa q0_sb q0_sc q0_x q0_s q0_y q0_p q0_d q0_h q0_f q0_mm q0_low q0_dd q0_r q0_big q0_dt q0_dx q0_t q0_cost q0_rowScaleNow q0_columnScaleNow q0_basic q0_text q0_turned q0_na q0_nb q0_nc vq0_m vq0_n vq0_length vq0_where vq0_effort vq0_thrown vq0_at vq0_scaled vq0_solved vq0_second vq0_nm vq0_nn vq0_number vq0_bad vq0_x vq0_s vq0_y) H → va_D A (w_M_isLost T q0 q0_a q0_b q0_c q0_rowScale q0_columnScale q0_sa q0_sb q0_sc q0_x q0_s q0_y q0_p q0_d q0_h q0_f q0_mm q0_low q0_dd q0_r q0_big q0_dt q0_dx q0_t q0_cost q0_rowScaleNow q0_columnScaleNow q0_basic q0_text q0_turned q0_na q0_nb q0_nc vq0_m vq0_n vq0_length vq0_where vq0_effort vq0_thrown vq0_at vq0_scaled vq0_solved vq0_second vq0_nm vq0_nn vq0_number vq0_bad vq0_x vq0_s vq0_y) → va_S A s.heap H locs → lv_has ls 2 [(0, .ref q0), (1, .int x1)] → s_M_isLost_L2 vq0_m vq0_n vq0_length vq0_where vq0_effort vq0_thrown vq0_at vq0_scaled vq0_solved vq0_second vq0_nm vq0_nn vq0_number vq0_bad vq0_x vq0_s vq0_y x1 = some rm → W p l e (rmk 1 21) s m args below meth c H locs 0 0 Q (F0 m 2 ls []) := by
    intro x1 H locs ls hP hD hS hl h
    unfold s_M_isLost_L2 at h
    obtain ⟨u2, hu2, h⟩ := bi_some h
    refine loopO_W (Wh := fun (st : Int32) => ∀ (H : Heap) (locs : List Loc) (ls : Array Slot), va_P D CL (w_M_isLost T q0 q0_a q0_b q0_c q0_rowScale q0_columnScale q0_sa q0_sb q0_sc q0_x q0_s q0_y q0_p q0_d q0_h q0_f q0_mm q0_low q0_dd q0_r q0_big q0_dt q0_dx q0_t q0_cost q0_rowScaleNow q0_columnScaleNow q0_basic q0_text q0_turned q0_na q0_nb q0_nc vq0_m vq0_n vq0_length vq0_where vq0_effort vq0_thrown vq0_at vq0_scaled vq0_solved vq0_second vq0_nm vq0_nn vq0_number vq0_bad vq0_x vq0_s vq0_y) H → va_D A (w_M_isLost T q0 q0_a q0_b q0_c q0_rowScale q0_columnScale q0_sa q0_sb q0_sc q0_x q0_s q0_y q0_p q0_d q0_h q0_f q0_mm q0_low q0_dd q0_r q0_big q0_dt q0_dx q0_t q0_cost q0_rowScaleNow q0_columnScaleNow q0_basic q0_text q0_turned q0_na q0_nb q0_nc vq0_m vq0_n vq0_length vq0_where vq0_effort vq0_thrown vq0_at vq0_scaled vq0_solved vq0_second vq0_nm vq0_nn vq0_number vq0_bad vq0_x vq0_s vq0_y) → va_S A s.heap H locs → lv_has ls 2 [(0, .ref q0), (1, .int st)] → W p l e (rmk 1 21) s m args below meth c H locs 0 0 Q (F0 m 2 ls [])) (Wx := fun (e0 : (Unit) ⊕ (Int32)) => Sum.elim (fun (e1 : Unit) => ∀ (H : Heap) (locs : List Loc) (ls : Array Slot), va_P D CL (w_M_isLost T q0 q0_a q0_b q0_c q0_rowScale q0_columnScale q0_sa q0_sb q0_sc q0_x q0_s q0_y q0_p q0_d q0_h q0_f q0_mm q0_low q0_dd q0_r q0_big q0_dt q0_dx q0_t q0_cost q0_rowScaleNow q0_columnScaleNow q0_basic q0_text q0_turned q0_na q0_nb q0_nc vq0_m vq0_n vq0_length vq0_where vq0_effort vq0_thrown vq0_at vq0_scaled vq0_solved vq0_second vq0_nm vq0_nn vq0_number vq0_bad vq0_x vq0_s vq0_y) H → va_D A (w_M_isLost T q0 q0_a q0_b q0_c q0_rowScale q0_columnScale q0_sa q0_sb q0_sc q0_x q0_s q0_y q0_p q0_d q0_h q0_f q0_mm q0_low q0_dd q0_r q0_big q0_dt q0_dx q0_t q0_cost q0_rowScaleNow q0_columnScaleNow q0_basic q0_text q0_turned q0_na q0_nb q0_nc vq0_m vq0_n vq0_length vq0_where vq0_effort vq0_thrown vq0_at vq0_scaled vq0_solved vq0_second vq0_nm vq0_nn vq0_number vq0_bad vq0_x vq0_s vq0_y) → va_S A s.heap H locs → lv_has ls 2 [(0, .ref q0)] → W p l e (rmk 1 21) s m args below meth c H locs 0 0 Q (F0 m 70 ls [])) (fun e2 => e2 = rm) e0) ?_ 2000 _ u2 hu2 ?_ H locs ls hP hD hS hl
    · intro st rb2 h kc2 kx2 H locs ls hP hD hS hl
      obtain ⟨x1, rfl⟩ : ∃ z, z = st := ⟨_, rfl⟩
      have h : s_M_isLost_B2 vq0_m vq0_n vq0_length vq0_where vq0_effort vq0_thrown vq0_at vq0_scaled vq0_solved vq0_second vq0_nm vq0_nn vq0_number vq0_bad vq0_x vq0_s vq0_y x1 = some rb2 := h
      unfold s_M_isLost_B2 at h
      refine lv_iload_n hx hb d_M_isLost_2 rfl (lv_at hl 1 rfl) ?_
      refine lv_aload_n hx hb d_M_isLost_3 rfl (lv_at hl 0 rfl) ?_
      refine va_get (D := D) (ci := 8) (v := .int vq0_n) (C := "ConeForgeModel") (T := FM) (N := 46) hx hb hts iM hown hK hP 0 rfl rfl 30 (by decide) (hts _ (bgc bw714)) (fun _ h9 => h9) rfl d_M_isLost_4 ?_
      refine lv_icmp_ge (tgt := 70) hx hb d_M_isLost_7 (by decide) (fun c7 => ?_) (fun c7 => ?_)
      · have h := it_t c7 h
        exact kx2 _ (Option.some.inj h).symm H locs ls hP hD hS (lv_sub hl [0] rfl)
      · have h := it_f c7 h
        refine lv_aload_n hx hb d_M_isLost_10 rfl (lv_at hl 0 rfl) ?_
        refine va_get (D := D) (ci := 8) (v := .ref q0_x) (C := "ConeForgeModel") (T := FM) (N := 46) hx hb hts iM hown hK hP 0 rfl rfl 8 (by decide) (hts _ (bgc bw692)) (fun _ h9 => h9) rfl d_M_isLost_11 ?_
        refine lv_iload_n hx hb d_M_isLost_14 rfl (lv_at hl 1 rfl) ?_
        obtain ⟨g8, h⟩ := gd_some h
        refine va_dald hx hb hK hP 1 0 rfl rfl (inb_in g8) d_M_isLost_15 ?_
        refine lv_ldc2d (v := 4741671816366391296) hx hb hown (hts _ (bgc bw864)) d_M_isLost_16 ?_
        refine lv_dcmp hx hb d_M_isLost_19 ?_
        refine lv_if_gt (tgt := 62) hx hb d_M_isLost_20 (by decide) (fun c9 => ?_) (fun c9 => ?_)
        · have h := it_t c9 h
          refine lv_iconst (v := 1) hx hb d_M_isLost_62 (by decide) ?_
          obtain ⟨g10, h⟩ := gd_some h
          exact rtZ hx hb hr hlocks g10 hQ (kx2 _ (Option.some.inj h).symm) hP hS d_M_isLost_63 rfl rfl
        · have h := it_f c9 h
          refine lv_aload_n hx hb d_M_isLost_23 rfl (lv_at hl 0 rfl) ?_
          refine va_get (D := D) (ci := 8) (v := .ref q0_s) (C := "ConeForgeModel") (T := FM) (N := 46) hx hb hts iM hown hK hP 0 rfl rfl 9 (by decide) (hts _ (bgc bw693)) (fun _ h9 => h9) rfl d_M_isLost_24 ?_
          refine lv_iload_n hx hb d_M_isLost_27 rfl (lv_at hl 1 rfl) ?_
          obtain ⟨g11, h⟩ := gd_some h
          refine va_dald hx hb hK hP 2 0 rfl rfl (inb_in g11) d_M_isLost_28 ?_
          refine lv_ldc2d (v := 4741671816366391296) hx hb hown (hts _ (bgc bw864)) d_M_isLost_29 ?_
          refine lv_dcmp hx hb d_M_isLost_32 ?_
          refine lv_if_gt (tgt := 62) hx hb d_M_isLost_33 (by decide) (fun c12 => ?_) (fun c12 => ?_)
          · have h := it_t c12 h
            refine lv_iconst (v := 1) hx hb d_M_isLost_62 (by decide) ?_
            obtain ⟨g13, h⟩ := gd_some h
            exact rtZ hx hb hr hlocks g13 hQ (kx2 _ (Option.some.inj h).symm) hP hS d_M_isLost_63 rfl rfl
          · have h := it_f c12 h
            refine lv_aload_n hx hb d_M_isLost_36 rfl (lv_at hl 0 rfl) ?_
            refine va_get (D := D) (ci := 8) (v := .ref q0_x) (C := "ConeForgeModel") (T := FM) (N := 46) hx hb hts iM hown hK hP 0 rfl rfl 8 (by decide) (hts _ (bgc bw692)) (fun _ h9 => h9) rfl d_M_isLost_37 ?_
            refine lv_iload_n hx hb d_M_isLost_40 rfl (lv_at hl 1 rfl) ?_
            obtain ⟨g14, h⟩ := gd_some h
            refine va_dald hx hb hK hP 1 0 rfl rfl (inb_in g14) d_M_isLost_41 ?_
            refine lv_ldc2d (v := 4427486594234968593) hx hb hown (hts _ (bgc bw865)) d_M_isLost_42 ?_
            refine lv_dcmp hx hb d_M_isLost_45 ?_
            refine lv_if_lt (tgt := 62) hx hb d_M_isLost_46 (by decide) (fun c15 => ?_) (fun c15 => ?_)
            · have h := it_t c15 h
              refine lv_iconst (v := 1) hx hb d_M_isLost_62 (by decide) ?_
              obtain ⟨g16, h⟩ := gd_some h
              exact rtZ hx hb hr hlocks g16 hQ (kx2 _ (Option.some.inj h).symm) hP hS d_M_isLost_63 rfl rfl
            · have h := it_f c15 h
              refine lv_aload_n hx hb d_M_isLost_49 rfl (lv_at hl 0 rfl) ?_
              refine va_get (D := D) (ci := 8) (v := .ref q0_s) (C := "ConeForgeModel") (T := FM) (N := 46) hx hb hts iM hown hK hP 0 rfl rfl 9 (by decide) (hts _ (bgc bw693)) (fun _ h9 => h9) rfl d_M_isLost_50 ?_
              refine lv_iload_n hx hb d_M_isLost_53 rfl (lv_at hl 1 rfl) ?_
              obtain ⟨g17, h⟩ := gd_some h
              refine va_dald hx hb hK hP 2 0 rfl rfl (inb_in g17) d_M_isLost_54 ?_
              refine lv_ldc2d (v := 4427486594234968593) hx hb hown (hts _ (bgc bw865)) d_M_isLost_55 ?_
              refine lv_dcmp hx hb d_M_isLost_58 ?_
              refine lv_if_ge (tgt := 64) hx hb d_M_isLost_59 (by decide) (fun c18 => ?_) (fun c18 => ?_)
              · have h := it_t c18 h
                refine lv_iinc (v := x1 + 1) (lv' := [(1, .int (x1 + 1)), (0, .ref q0)]) hx hb d_M_isLost_64 hl (k := 1) rfl rfl (by decide) rfl (fun ls hl => ?_)
                refine lv_goto (tgt := 2) hx hb d_M_isLost_67 (by decide) ?_
                exact kc2 _ (Option.some.inj h).symm H locs ls hP hD hS (lv_sub hl [1, 0] rfl)
              · have h := it_f c18 h
                refine lv_iconst (v := 1) hx hb d_M_isLost_62 (by decide) ?_
                obtain ⟨g19, h⟩ := gd_some h
                exact rtZ hx hb hr hlocks g19 hQ (kx2 _ (Option.some.inj h).symm) hP hS d_M_isLost_63 rfl rfl
    · cases u2 with
      | inl w2 =>
        intro H locs ls hP hD hS hl
        refine lv_iconst (v := 0) hx hb d_M_isLost_70 (by decide) ?_
        refine lv_istore_n (lv' := [(1, .int 0), (0, .ref q0)]) hx hb d_M_isLost_71 rfl hl (by decide) rfl (fun ls hl => ?_)
        exact L72 0 H locs ls hP hD hS (lv_sub hl [1, 0] rfl) h
      | inr w2 => exact Option.some.inj h
  unfold s_M_isLost at h
  refine lv_iconst (v := 0) hx hb d_M_isLost_0 (by decide) ?_
  refine lv_istore_n (lv' := [(1, .int 0), (0, .ref q0)]) hx hb d_M_isLost_1 rfl hl (by decide) rfl (fun ls hl => ?_)
  exact L2 0 H locs ls hP hD hS (lv_sub hl [1, 0] rfl) h
