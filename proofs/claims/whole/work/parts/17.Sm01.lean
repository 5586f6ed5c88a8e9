theorem d_Sm_signOf_0 : decode prog_7_method_4_code 0 = .ok (.aload_n 0, 1) := by decide +kernel
theorem d_Sm_signOf_1 : decode prog_7_method_4_code 1 = .ok (.getfield 12, 3) := by decide +kernel
theorem d_Sm_signOf_4 : decode prog_7_method_4_code 4 = .ok (.getfield 90, 3) := by decide +kernel
theorem d_Sm_signOf_7 : decode prog_7_method_4_code 7 = .ok (.iload_n 1, 1) := by decide +kernel
theorem d_Sm_signOf_8 : decode prog_7_method_4_code 8 = .ok (.daload, 1) := by decide +kernel
theorem d_Sm_signOf_9 : decode prog_7_method_4_code 9 = .ok (.dconst 0, 1) := by decide +kernel
theorem d_Sm_signOf_10 : decode prog_7_method_4_code 10 = .ok (.dcmp .g, 1) := by decide +kernel
theorem d_Sm_signOf_11 : decode prog_7_method_4_code 11 = .ok (.ifCond .ge 9, 3) := by decide +kernel
theorem d_Sm_signOf_14 : decode prog_7_method_4_code 14 = .ok (.ldc2_w 93, 3) := by decide +kernel
theorem d_Sm_signOf_17 : decode prog_7_method_4_code 17 = .ok (.goto 4, 3) := by decide +kernel
theorem d_Sm_signOf_20 : decode prog_7_method_4_code 20 = .ok (.dconst 1, 1) := by decide +kernel
theorem d_Sm_signOf_21 : decode prog_7_method_4_code 21 = .ok (.dreturn, 1) := by decide +kernel
abbrev w_Sm_signOf (T : Nat → ClassId) (q0 : Nat) (q0_problem : Nat) (q0_point : Nat) (q0_table : Nat) (q0_right : Nat) (q0_cost : Nat) (q0_basic : Nat) (q0_problem_a : Nat) (q0_problem_b : Nat) (q0_problem_c : Nat) (vq0_rows : Int32) (vq0_variables : Int32) (vq0_columns : Int32) (vq0_stepsDone : Int32) (vq0_problem_rows : Int32) (vq0_problem_variables : Int32) (vq0_problem_b : Nat → UInt64) : va_W := [(q0, .inr (6, [.ref q0_problem, .ref q0_point, .ref q0_table, .ref q0_right, .ref q0_cost, .ref q0_basic, .int vq0_rows, .int vq0_variables, .int vq0_columns, .int vq0_stepsDone])), (q0_problem, .inr (0, [.int vq0_problem_rows, .int vq0_problem_variables, .ref q0_problem_a, .ref q0_problem_b, .ref q0_problem_c])), (q0_problem_b, .inl (T 0, 5, .inr (.inr (.inr (.inl vq0_problem_b)))))]
def s_Sm_signOf (vq0_rows : Int32) (vq0_variables : Int32) (vq0_columns : Int32) (vq0_stepsDone : Int32) (vq0_problem_rows : Int32) (vq0_problem_variables : Int32) (vq0_problem_b : Nat → UInt64) (x1 : Int32) : Option (UInt64) :=
  gd (inb x1 5) <| if 0 ≤ (Op.cmpValue (FP.dcmp (vq0_problem_b x1.toNatClampNeg) FP.dconst0) .g) then (some FP.dconst1) else (some 13830554455654793216)
set_option maxHeartbeats 40000000 in
set_option maxRecDepth 100000 in
theorem c_Sm_signOf (l : Launch) (D : va_G) (T : Nat → ClassId) (q0 : Nat) (q0_problem : Nat) (q0_point : Nat) (q0_table : Nat) (q0_right : Nat) (q0_cost : Nat) (q0_basic : Nat) (q0_problem_a : Nat) (q0_problem_b : Nat) (q0_problem_c : Nat) (vq0_rows : Int32) (vq0_variables : Int32) (vq0_columns : Int32) (vq0_stepsDone : Int32) (vq0_problem_rows : Int32) (vq0_problem_variables : Int32) (vq0_problem_b : Nat → UInt64) (x1 : Int32) (rm : UInt64) (h : s_Sm_signOf vq0_rows vq0_variables vq0_columns vq0_stepsDone vq0_problem_rows vq0_problem_variables vq0_problem_b x1 = some rm) : CtD l y_Sm_signOf (Cond.code y_Sm_signOf prog_7_method_4_code 2 (some .double) :: BIG) 0 0 D T [.ref q0, .int x1] (w_Sm_signOf T q0 q0_problem q0_point q0_table q0_right q0_cost q0_basic q0_problem_a q0_problem_b q0_problem_c vq0_rows vq0_variables vq0_columns vq0_stepsDone vq0_problem_rows vq0_problem_variables vq0_problem_b) (fun r => r) (fun r => (w_Sm_signOf T q0 q0_problem q0_point q0_table q0_right q0_cost q0_basic q0_problem_a q0_problem_b q0_problem_c vq0_rows vq0_variables vq0_columns vq0_stepsDone vq0_problem_rows vq0_problem_variables vq0_problem_b)) rm := by
  refine cf_entry (y := y_Sm_signOf) (cc := prog_7_method_4_code) (nL := 2) (ret := (some .double)) (fr := 0) (lo := 0) (T := T) (av := [.ref q0, .int x1]) (w := (w_Sm_signOf T q0 q0_problem q0_point q0_table q0_right q0_cost q0_basic q0_problem_a q0_problem_b q0_problem_c vq0_rows vq0_variables vq0_columns vq0_stepsDone vq0_problem_rows vq0_problem_variables vq0_problem_b)) (Qc := cfQd D (fun r => r) (fun r => (w_Sm_signOf T q0 q0_problem q0_point q0_table q0_right q0_cost q0_basic q0_problem_a q0_problem_b q0_problem_c vq0_rows vq0_variables vq0_columns vq0_stepsDone vq0_problem_rows vq0_problem_variables vq0_problem_b)) rm) (by decide) rfl (Nat.le_of_ble_eq_true rfl) ?_
  intro p e s m args below meth c A Q H locs ls hx hb hr hlocks hml hown hts hNW hK hA hQ hP hD hS hl
  have hown : s.vm.findClass "ConeForge$SimplexMethod" = some m.cls := hown
  have hl : lv_has ls 2 [(0, .ref q0), (1, .int x1)] := hl
  unfold s_Sm_signOf at h
  refine lv_aload_n hx hb d_Sm_signOf_0 rfl (lv_at hl 0 rfl) ?_
  refine va_get (D := D) (ci := 6) (v := .ref q0_problem) (C := "ConeForge$SimplexMethod") (T := FSm) (N := 10) hx hb hts iSm hown hK hP 0 rfl rfl 0 (by decide) (hts _ (bgc bw240)) (fun _ h9 => h9) rfl d_Sm_signOf_1 ?_
  refine va_getN (D := D) (ci := 0) (v := .ref q0_problem_b) (C := "ConeForge$Problem") (T := FPb) (N := 5) hx hb hts iPb hown hK hP 1 rfl rfl 3 (by decide) (hNW.use nw20) (fun _ h9 => h9) rfl d_Sm_signOf_4 ?_
  refine lv_iload_n hx hb d_Sm_signOf_7 rfl (lv_at hl 1 rfl) ?_
  obtain ⟨g1, h⟩ := gd_some h
  refine va_dald hx hb hK hP 2 0 rfl rfl (inb_in g1) d_Sm_signOf_8 ?_
  refine lv_dconst0 hx hb d_Sm_signOf_9 ?_
  refine lv_dcmp hx hb d_Sm_signOf_10 ?_
  refine lv_if_ge (tgt := 20) hx hb d_Sm_signOf_11 (by decide) (fun c2 => ?_) (fun c2 => ?_)
  · have h := it_t c2 h
    refine lv_dconst1 hx hb d_Sm_signOf_20 ?_
    exact rtD hx hb hr hlocks hQ (Option.some.inj h) hP hS d_Sm_signOf_21 rfl rfl
  · have h := it_f c2 h
    refine lv_ldc2d (v := 13830554455654793216) hx hb hown (hts _ (bgc bw332)) d_Sm_signOf_14 ?_
    refine lv_goto (tgt := 21) hx hb d_Sm_signOf_17 (by decide) ?_
    exact rtD hx hb hr hlocks hQ (Option.some.inj h) hP hS d_Sm_signOf_21 rfl rfl
theorem d_Sm_fillTable_0 : decode prog_7_method_3_code 0 = .ok (.aload_n 0, 1) := by decide +kernel
theorem d_Sm_fillTable_1 : decode prog_7_method_3_code 1 = .ok (.aload_n 0, 1) := by decide +kernel
theorem d_Sm_fillTable_2 : decode prog_7_method_3_code 2 = .ok (.getfield 12, 3) := by decide +kernel
theorem d_Sm_fillTable_5 : decode prog_7_method_3_code 5 = .ok (.getfield 81, 3) := by decide +kernel
theorem d_Sm_fillTable_8 : decode prog_7_method_3_code 8 = .ok (.putfield 41, 3) := by decide +kernel
theorem d_Sm_fillTable_11 : decode prog_7_method_3_code 11 = .ok (.aload_n 0, 1) := by decide +kernel
theorem d_Sm_fillTable_12 : decode prog_7_method_3_code 12 = .ok (.aload_n 0, 1) := by decide +kernel
theorem d_Sm_fillTable_13 : decode prog_7_method_3_code 13 = .ok (.getfield 12, 3) := by decide +kernel
theorem d_Sm_fillTable_16 : decode prog_7_method_3_code 16 = .ok (.getfield 82, 3) := by decide +kernel
theorem d_Sm_fillTable_19 : decode prog_7_method_3_code 19 = .ok (.putfield 45, 3) := by decide +kernel
theorem d_Sm_fillTable_22 : decode prog_7_method_3_code 22 = .ok (.aload_n 0, 1) := by decide +kernel
theorem d_Sm_fillTable_23 : decode prog_7_method_3_code 23 = .ok (.aload_n 0, 1) := by decide +kernel
theorem d_Sm_fillTable_24 : decode prog_7_method_3_code 24 = .ok (.getfield 45, 3) := by decide +kernel
theorem d_Sm_fillTable_27 : decode prog_7_method_3_code 27 = .ok (.aload_n 0, 1) := by decide +kernel
theorem d_Sm_fillTable_28 : decode prog_7_method_3_code 28 = .ok (.getfield 41, 3) := by decide +kernel
theorem d_Sm_fillTable_31 : decode prog_7_method_3_code 31 = .ok (.iadd, 1) := by decide +kernel
theorem d_Sm_fillTable_32 : decode prog_7_method_3_code 32 = .ok (.putfield 48, 3) := by decide +kernel
theorem d_Sm_fillTable_35 : decode prog_7_method_3_code 35 = .ok (.iconst 0, 1) := by decide +kernel
theorem d_Sm_fillTable_36 : decode prog_7_method_3_code 36 = .ok (.istore_n 1, 1) := by decide +kernel
theorem d_Sm_fillTable_37 : decode prog_7_method_3_code 37 = .ok (.iload_n 1, 1) := by decide +kernel
theorem d_Sm_fillTable_38 : decode prog_7_method_3_code 38 = .ok (.aload_n 0, 1) := by decide +kernel
theorem d_Sm_fillTable_39 : decode prog_7_method_3_code 39 = .ok (.getfield 41, 3) := by decide +kernel
theorem d_Sm_fillTable_42 : decode prog_7_method_3_code 42 = .ok (.if_icmp .ge 128, 3) := by decide +kernel
theorem d_Sm_fillTable_45 : decode prog_7_method_3_code 45 = .ok (.aload_n 0, 1) := by decide +kernel
theorem d_Sm_fillTable_46 : decode prog_7_method_3_code 46 = .ok (.iload_n 1, 1) := by decide +kernel
theorem d_Sm_fillTable_47 : decode prog_7_method_3_code 47 = .ok (.invokevirtual 83, 3) := by decide +kernel
theorem d_Sm_fillTable_50 : decode prog_7_method_3_code 50 = .ok (.dstore_n 2, 1) := by decide +kernel
theorem d_Sm_fillTable_51 : decode prog_7_method_3_code 51 = .ok (.iconst 0, 1) := by decide +kernel
theorem d_Sm_fillTable_52 : decode prog_7_method_3_code 52 = .ok (.istore 4, 2) := by decide +kernel
theorem d_Sm_fillTable_54 : decode prog_7_method_3_code 54 = .ok (.iload 4, 2) := by decide +kernel
theorem d_Sm_fillTable_56 : decode prog_7_method_3_code 56 = .ok (.aload_n 0, 1) := by decide +kernel
theorem d_Sm_fillTable_57 : decode prog_7_method_3_code 57 = .ok (.getfield 45, 3) := by decide +kernel
theorem d_Sm_fillTable_60 : decode prog_7_method_3_code 60 = .ok (.if_icmp .ge 32, 3) := by decide +kernel
theorem d_Sm_fillTable_63 : decode prog_7_method_3_code 63 = .ok (.aload_n 0, 1) := by decide +kernel
theorem d_Sm_fillTable_64 : decode prog_7_method_3_code 64 = .ok (.getfield 27, 3) := by decide +kernel
theorem d_Sm_fillTable_67 : decode prog_7_method_3_code 67 = .ok (.iload_n 1, 1) := by decide +kernel
theorem d_Sm_fillTable_68 : decode prog_7_method_3_code 68 = .ok (.aaload, 1) := by decide +kernel
theorem d_Sm_fillTable_69 : decode prog_7_method_3_code 69 = .ok (.iload 4, 2) := by decide +kernel
theorem d_Sm_fillTable_71 : decode prog_7_method_3_code 71 = .ok (.aload_n 0, 1) := by decide +kernel
theorem d_Sm_fillTable_72 : decode prog_7_method_3_code 72 = .ok (.getfield 12, 3) := by decide +kernel
theorem d_Sm_fillTable_75 : decode prog_7_method_3_code 75 = .ok (.getfield 87, 3) := by decide +kernel
theorem d_Sm_fillTable_78 : decode prog_7_method_3_code 78 = .ok (.iload_n 1, 1) := by decide +kernel
theorem d_Sm_fillTable_79 : decode prog_7_method_3_code 79 = .ok (.aaload, 1) := by decide +kernel
theorem d_Sm_fillTable_80 : decode prog_7_method_3_code 80 = .ok (.iload 4, 2) := by decide +kernel
theorem d_Sm_fillTable_82 : decode prog_7_method_3_code 82 = .ok (.daload, 1) := by decide +kernel
theorem d_Sm_fillTable_83 : decode prog_7_method_3_code 83 = .ok (.dload_n 2, 1) := by decide +kernel
theorem d_Sm_fillTable_84 : decode prog_7_method_3_code 84 = .ok (.dmul, 1) := by decide +kernel
theorem d_Sm_fillTable_85 : decode prog_7_method_3_code 85 = .ok (.dastore, 1) := by decide +kernel
theorem d_Sm_fillTable_86 : decode prog_7_method_3_code 86 = .ok (.iinc 4 1, 3) := by decide +kernel
theorem d_Sm_fillTable_89 : decode prog_7_method_3_code 89 = .ok (.goto (-35), 3) := by decide +kernel
theorem d_Sm_fillTable_92 : decode prog_7_method_3_code 92 = .ok (.iconst 0, 1) := by decide +kernel
theorem d_Sm_fillTable_93 : decode prog_7_method_3_code 93 = .ok (.istore 4, 2) := by decide +kernel
theorem d_Sm_fillTable_95 : decode prog_7_method_3_code 95 = .ok (.iload 4, 2) := by decide +kernel
theorem d_Sm_fillTable_97 : decode prog_7_method_3_code 97 = .ok (.aload_n 0, 1) := by decide +kernel
theorem d_Sm_fillTable_98 : decode prog_7_method_3_code 98 = .ok (.getfield 41, 3) := by decide +kernel
theorem d_Sm_fillTable_101 : decode prog_7_method_3_code 101 = .ok (.if_icmp .ge 34, 3) := by decide +kernel
theorem d_Sm_fillTable_104 : decode prog_7_method_3_code 104 = .ok (.aload_n 0, 1) := by decide +kernel
theorem d_Sm_fillTable_105 : decode prog_7_method_3_code 105 = .ok (.getfield 27, 3) := by decide +kernel
theorem d_Sm_fillTable_108 : decode prog_7_method_3_code 108 = .ok (.iload_n 1, 1) := by decide +kernel
theorem d_Sm_fillTable_109 : decode prog_7_method_3_code 109 = .ok (.aaload, 1) := by decide +kernel
theorem d_Sm_fillTable_110 : decode prog_7_method_3_code 110 = .ok (.aload_n 0, 1) := by decide +kernel
theorem d_Sm_fillTable_111 : decode prog_7_method_3_code 111 = .ok (.getfield 45, 3) := by decide +kernel
theorem d_Sm_fillTable_114 : decode prog_7_method_3_code 114 = .ok (.iload 4, 2) := by decide +kernel
theorem d_Sm_fillTable_116 : decode prog_7_method_3_code 116 = .ok (.iadd, 1) := by decide +kernel
theorem d_Sm_fillTable_117 : decode prog_7_method_3_code 117 = .ok (.iload 4, 2) := by decide +kernel
theorem d_Sm_fillTable_119 : decode prog_7_method_3_code 119 = .ok (.iload_n 1, 1) := by decide +kernel
theorem d_Sm_fillTable_120 : decode prog_7_method_3_code 120 = .ok (.if_icmp .ne 7, 3) := by decide +kernel
theorem d_Sm_fillTable_123 : decode prog_7_method_3_code 123 = .ok (.dconst 1, 1) := by decide +kernel
theorem d_Sm_fillTable_124 : decode prog_7_method_3_code 124 = .ok (.goto 4, 3) := by decide +kernel
theorem d_Sm_fillTable_127 : decode prog_7_method_3_code 127 = .ok (.dconst 0, 1) := by decide +kernel
theorem d_Sm_fillTable_128 : decode prog_7_method_3_code 128 = .ok (.dastore, 1) := by decide +kernel
theorem d_Sm_fillTable_129 : decode prog_7_method_3_code 129 = .ok (.iinc 4 1, 3) := by decide +kernel
theorem d_Sm_fillTable_132 : decode prog_7_method_3_code 132 = .ok (.goto (-37), 3) := by decide +kernel
theorem d_Sm_fillTable_135 : decode prog_7_method_3_code 135 = .ok (.aload_n 0, 1) := by decide +kernel
theorem d_Sm_fillTable_136 : decode prog_7_method_3_code 136 = .ok (.getfield 30, 3) := by decide +kernel
theorem d_Sm_fillTable_139 : decode prog_7_method_3_code 139 = .ok (.iload_n 1, 1) := by decide +kernel
theorem d_Sm_fillTable_140 : decode prog_7_method_3_code 140 = .ok (.aload_n 0, 1) := by decide +kernel
theorem d_Sm_fillTable_141 : decode prog_7_method_3_code 141 = .ok (.getfield 12, 3) := by decide +kernel
theorem d_Sm_fillTable_144 : decode prog_7_method_3_code 144 = .ok (.getfield 90, 3) := by decide +kernel
theorem d_Sm_fillTable_147 : decode prog_7_method_3_code 147 = .ok (.iload_n 1, 1) := by decide +kernel
theorem d_Sm_fillTable_148 : decode prog_7_method_3_code 148 = .ok (.daload, 1) := by decide +kernel
theorem d_Sm_fillTable_149 : decode prog_7_method_3_code 149 = .ok (.dload_n 2, 1) := by decide +kernel
theorem d_Sm_fillTable_150 : decode prog_7_method_3_code 150 = .ok (.dmul, 1) := by decide +kernel
theorem d_Sm_fillTable_151 : decode prog_7_method_3_code 151 = .ok (.dastore, 1) := by decide +kernel
theorem d_Sm_fillTable_152 : decode prog_7_method_3_code 152 = .ok (.aload_n 0, 1) := by decide +kernel
theorem d_Sm_fillTable_153 : decode prog_7_method_3_code 153 = .ok (.getfield 37, 3) := by decide +kernel
theorem d_Sm_fillTable_156 : decode prog_7_method_3_code 156 = .ok (.iload_n 1, 1) := by decide +kernel
theorem d_Sm_fillTable_157 : decode prog_7_method_3_code 157 = .ok (.aload_n 0, 1) := by decide +kernel
theorem d_Sm_fillTable_158 : decode prog_7_method_3_code 158 = .ok (.getfield 45, 3) := by decide +kernel
theorem d_Sm_fillTable_161 : decode prog_7_method_3_code 161 = .ok (.iload_n 1, 1) := by decide +kernel
theorem d_Sm_fillTable_162 : decode prog_7_method_3_code 162 = .ok (.iadd, 1) := by decide +kernel
theorem d_Sm_fillTable_163 : decode prog_7_method_3_code 163 = .ok (.iastore, 1) := by decide +kernel
theorem d_Sm_fillTable_164 : decode prog_7_method_3_code 164 = .ok (.iinc 1 1, 3) := by decide +kernel
theorem d_Sm_fillTable_167 : decode prog_7_method_3_code 167 = .ok (.goto (-130), 3) := by decide +kernel
theorem d_Sm_fillTable_170 : decode prog_7_method_3_code 170 = .ok (.return_, 1) := by decide +kernel
abbrev w_Sm_fillTable (T : Nat → ClassId) (q0 : Nat) (q0_problem : Nat) (q0_point : Nat) (q0_table : Nat) (q0_right : Nat) (q0_cost : Nat) (q0_basic : Nat) (q0_problem_a : Nat) (q0_problem_b : Nat) (q0_problem_c : Nat) (Rq0_problem_a : Nat → Nat) (Rq0_table : Nat → Nat) (vq0_rows : Int32) (vq0_variables : Int32) (vq0_columns : Int32) (vq0_stepsDone : Int32) (vq0_problem_rows : Int32) (vq0_problem_variables : Int32) (vq0_problem_a : Nat → Nat → UInt64) (vq0_problem_b : Nat → UInt64) (vq0_table : Nat → Nat → UInt64) (vq0_right : Nat → UInt64) (vq0_basic : Nat → Int32) : va_W := [(q0, .inr (6, [.ref q0_problem, .ref q0_point, .ref q0_table, .ref q0_right, .ref q0_cost, .ref q0_basic, .int vq0_rows, .int vq0_variables, .int vq0_columns, .int vq0_stepsDone])), (q0_problem, .inr (0, [.int vq0_problem_rows, .int vq0_problem_variables, .ref q0_problem_a, .ref q0_problem_b, .ref q0_problem_c])), (q0_problem_a, .inl (T 3, 5, .inr (.inr (.inr (.inr (fun i => some (Rq0_problem_a i))))))), (Rq0_problem_a 0, .inl (T 0, 8, .inr (.inr (.inr (.inl (vq0_problem_a 0)))))), (Rq0_problem_a 1, .inl (T 0, 8, .inr (.inr (.inr (.inl (vq0_problem_a 1)))))), (Rq0_problem_a 2, .inl (T 0, 8, .inr (.inr (.inr (.inl (vq0_problem_a 2)))))), (Rq0_problem_a 3, .inl (T 0, 8, .inr (.inr (.inr (.inl (vq0_problem_a 3)))))), (Rq0_problem_a 4, .inl (T 0, 8, .inr (.inr (.inr (.inl (vq0_problem_a 4)))))), (q0_problem_b, .inl (T 0, 5, .inr (.inr (.inr (.inl vq0_problem_b))))), (q0_table, .inl (T 3, 5, .inr (.inr (.inr (.inr (fun i => some (Rq0_table i))))))), (Rq0_table 0, .inl (T 0, 13, .inr (.inr (.inr (.inl (vq0_table 0)))))), (Rq0_table 1, .inl (T 0, 13, .inr (.inr (.inr (.inl (vq0_table 1)))))), (Rq0_table 2, .inl (T 0, 13, .inr (.inr (.inr (.inl (vq0_table 2)))))), (Rq0_table 3, .inl (T 0, 13, .inr (.inr (.inr (.inl (vq0_table 3)))))), (Rq0_table 4, .inl (T 0, 13, .inr (.inr (.inr (.inl (vq0_table 4)))))), (q0_right, .inl (T 0, 5, .inr (.inr (.inr (.inl vq0_right))))), (q0_basic, .inl (T 1, 5, .inl vq0_basic))]
def s_Sm_fillTable_B95 (vq0_rows : Int32) (vq0_variables : Int32) (vq0_columns : Int32) (vq0_stepsDone : Int32) (vq0_problem_rows : Int32) (vq0_problem_variables : Int32) (vq0_problem_a : Nat → Nat → UInt64) (vq0_problem_b : Nat → UInt64) (vq0_right : Nat → UInt64) (vq0_basic : Nat → Int32) (x1 : Int32) (x2 : UInt64) (vq0_table : Nat → Nat → UInt64) (x4 : Int32) : Option (((Nat → Nat → UInt64) × Int32) ⊕ ((Nat → Nat → UInt64))) :=
  if vq0_rows ≤ x4 then (some (.inr vq0_table)) else (gd (inb x1 5) <| if x4 = x1 then (gd (inb (vq0_variables + x4) 13) <| some (.inl (gset vq0_table x1.toNatClampNeg (vf_upd (vq0_table x1.toNatClampNeg) (vq0_variables + x4).toNatClampNeg FP.dconst1), x4 + 1))) else (gd (inb (vq0_variables + x4) 13) <| some (.inl (gset vq0_table x1.toNatClampNeg (vf_upd (vq0_table x1.toNatClampNeg) (vq0_variables + x4).toNatClampNeg FP.dconst0), x4 + 1))))
def s_Sm_fillTable_L95 (vq0_rows : Int32) (vq0_variables : Int32) (vq0_columns : Int32) (vq0_stepsDone : Int32) (vq0_problem_rows : Int32) (vq0_problem_variables : Int32) (vq0_problem_a : Nat → Nat → UInt64) (vq0_problem_b : Nat → UInt64) (vq0_table : Nat → Nat → UInt64) (vq0_right : Nat → UInt64) (vq0_basic : Nat → Int32) (x1 : Int32) (x2 : UInt64) (x4 : Int32) : Option (((Nat → Nat → UInt64) × (Nat → UInt64) × (Nat → Int32) × Int32) ⊕ ((Nat → Nat → UInt64) × (Nat → UInt64) × (Nat → Int32))) :=
  (loopO (fun (st : (Nat → Nat → UInt64) × Int32) => s_Sm_fillTable_B95 vq0_rows vq0_variables vq0_columns vq0_stepsDone vq0_problem_rows vq0_problem_variables vq0_problem_a vq0_problem_b vq0_right vq0_basic x1 x2 st.1 st.2) 2000 (vq0_table, x4)).bind fun ul95 => gd (inb x1 5) <| gd (isn (FP.dmul (vq0_problem_b x1.toNatClampNeg) x2)) <| gd (inb x1 5) <| gd (inb x1 5) <| some (.inl (ul95, vf_upd vq0_right x1.toNatClampNeg (FP.dmul (vq0_problem_b x1.toNatClampNeg) x2), upd vq0_basic x1.toNatClampNeg (vq0_variables + x1), x1 + 1))
def s_Sm_fillTable_B54 (vq0_rows : Int32) (vq0_variables : Int32) (vq0_columns : Int32) (vq0_stepsDone : Int32) (vq0_problem_rows : Int32) (vq0_problem_variables : Int32) (vq0_problem_a : Nat → Nat → UInt64) (vq0_problem_b : Nat → UInt64) (vq0_right : Nat → UInt64) (vq0_basic : Nat → Int32) (x1 : Int32) (x2 : UInt64) (vq0_table : Nat → Nat → UInt64) (x4 : Int32) : Option (((Nat → Nat → UInt64) × Int32) ⊕ ((Nat → Nat → UInt64))) :=
  if vq0_variables ≤ x4 then (some (.inr vq0_table)) else (gd (inb x1 5) <| gd (inb x1 5) <| gd (inb x4 8) <| gd (isn (FP.dmul (vq0_problem_a x1.toNatClampNeg x4.toNatClampNeg) x2)) <| gd (inb x4 13) <| some (.inl (gset vq0_table x1.toNatClampNeg (vf_upd (vq0_table x1.toNatClampNeg) x4.toNatClampNeg (FP.dmul (vq0_problem_a x1.toNatClampNeg x4.toNatClampNeg) x2)), x4 + 1)))
def s_Sm_fillTable_L54 (vq0_rows : Int32) (vq0_variables : Int32) (vq0_columns : Int32) (vq0_stepsDone : Int32) (vq0_problem_rows : Int32) (vq0_problem_variables : Int32) (vq0_problem_a : Nat → Nat → UInt64) (vq0_problem_b : Nat → UInt64) (vq0_table : Nat → Nat → UInt64) (vq0_right : Nat → UInt64) (vq0_basic : Nat → Int32) (x1 : Int32) (x2 : UInt64) (x4 : Int32) : Option (((Nat → Nat → UInt64) × (Nat → UInt64) × (Nat → Int32) × Int32) ⊕ ((Nat → Nat → UInt64) × (Nat → UInt64) × (Nat → Int32))) :=
  (loopO (fun (st : (Nat → Nat → UInt64) × Int32) => s_Sm_fillTable_B54 vq0_rows vq0_variables vq0_columns vq0_stepsDone vq0_problem_rows vq0_problem_variables vq0_problem_a vq0_problem_b vq0_right vq0_basic x1 x2 st.1 st.2) 2000 (vq0_table, x4)).bind fun ul54 => s_Sm_fillTable_L95 vq0_rows vq0_variables vq0_columns vq0_stepsDone vq0_problem_rows vq0_problem_variables vq0_problem_a vq0_problem_b ul54 vq0_right vq0_basic x1 x2 0
def s_Sm_fillTable_B37 (vq0_rows : Int32) (vq0_variables : Int32) (vq0_columns : Int32) (vq0_stepsDone : Int32) (vq0_problem_rows : Int32) (vq0_problem_variables : Int32) (vq0_problem_a : Nat → Nat → UInt64) (vq0_problem_b : Nat → UInt64) (vq0_table : Nat → Nat → UInt64) (vq0_right : Nat → UInt64) (vq0_basic : Nat → Int32) (x1 : Int32) : Option (((Nat → Nat → UInt64) × (Nat → UInt64) × (Nat → Int32) × Int32) ⊕ ((Nat → Nat → UInt64) × (Nat → UInt64) × (Nat → Int32))) :=
  if vq0_rows ≤ x1 then (some (.inr (vq0_table, vq0_right, vq0_basic))) else ((s_Sm_signOf vq0_rows vq0_variables vq0_columns vq0_stepsDone vq0_problem_rows vq0_problem_variables vq0_problem_b x1).bind fun u20 => s_Sm_fillTable_L54 vq0_rows vq0_variables vq0_columns vq0_stepsDone vq0_problem_rows vq0_problem_variables vq0_problem_a vq0_problem_b vq0_table vq0_right vq0_basic x1 u20 0)
def s_Sm_fillTable_L37 (vq0_rows : Int32) (vq0_variables : Int32) (vq0_columns : Int32) (vq0_stepsDone : Int32) (vq0_problem_rows : Int32) (vq0_problem_variables : Int32) (vq0_problem_a : Nat → Nat → UInt64) (vq0_problem_b : Nat → UInt64) (vq0_table : Nat → Nat → UInt64) (vq0_right : Nat → UInt64) (vq0_basic : Nat → Int32) (x1 : Int32) : Option (Int32 × Int32 × Int32 × (Nat → Nat → UInt64) × (Nat → UInt64) × (Nat → Int32)) :=
  (loopO (fun (st : (Nat → Nat → UInt64) × (Nat → UInt64) × (Nat → Int32) × Int32) => s_Sm_fillTable_B37 vq0_rows vq0_variables vq0_columns vq0_stepsDone vq0_problem_rows vq0_problem_variables vq0_problem_a vq0_problem_b st.1 st.2.1 st.2.2.1 st.2.2.2) 2000 (vq0_table, vq0_right, vq0_basic, x1)).bind fun ul37 => some (vq0_rows, vq0_variables, vq0_columns, ul37.1, ul37.2.1, ul37.2.2)
def s_Sm_fillTable (vq0_rows : Int32) (vq0_variables : Int32) (vq0_columns : Int32) (vq0_stepsDone : Int32) (vq0_problem_rows : Int32) (vq0_problem_variables : Int32) (vq0_problem_a : Nat → Nat → UInt64) (vq0_problem_b : Nat → UInt64) (vq0_table : Nat → Nat → UInt64) (vq0_right : Nat → UInt64) (vq0_basic : Nat → Int32) : Option (Int32 × Int32 × Int32 × (Nat → Nat → UInt64) × (Nat → UInt64) × (Nat → Int32)) :=
  s_Sm_fillTable_L37 vq0_problem_rows vq0_problem_variables (vq0_problem_variables + vq0_problem_rows) vq0_stepsDone vq0_problem_rows vq0_problem_variables vq0_problem_a vq0_problem_b vq0_table vq0_right vq0_basic 0
set_option maxRecDepth 100000 in
theorem j_Sm_fillTable_47 (T : Nat → ClassId) (q0 : Nat) (q0_problem : Nat) (q0_point : Nat) (q0_table : Nat) (q0_right : Nat) (q0_cost : Nat) (q0_basic : Nat) (q0_problem_a : Nat) (q0_problem_b : Nat) (q0_problem_c : Nat) (Rq0_problem_a : Nat → Nat) (Rq0_table : Nat → Nat) (vq0_rows : Int32) (vq0_variables : Int32) (vq0_columns : Int32) (vq0_stepsDone : Int32) (vq0_problem_rows : Int32) (vq0_problem_variables : Int32) (vq0_problem_a : Nat → Nat → UInt64) (vq0_problem_b : Nat → UInt64) (vq0_table : Nat → Nat → UInt64) (vq0_right : Nat → UInt64) (vq0_basic : Nat → Int32) : ([0, 1, 8].map (fun (i : Nat) => (w_Sm_fillTable T q0 q0_problem q0_point q0_table q0_right q0_cost q0_basic q0_problem_a q0_problem_b q0_problem_c Rq0_problem_a Rq0_table vq0_rows vq0_variables vq0_columns vq0_stepsDone vq0_problem_rows vq0_problem_variables vq0_problem_a vq0_problem_b vq0_table vq0_right vq0_basic)[i]?) = (w_Sm_signOf T q0 q0_problem q0_point q0_table q0_right q0_cost q0_basic q0_problem_a q0_problem_b q0_problem_c vq0_rows vq0_variables vq0_columns vq0_stepsDone vq0_problem_rows vq0_problem_variables vq0_problem_b).map some) ∧ ([0, 1, 8].map (fun (i : Nat) => (w_Sm_fillTable T q0 q0_problem q0_point q0_table q0_right q0_cost q0_basic q0_problem_a q0_problem_b q0_problem_c Rq0_problem_a Rq0_table vq0_rows vq0_variables vq0_columns vq0_stepsDone vq0_problem_rows vq0_problem_variables vq0_problem_a vq0_problem_b vq0_table vq0_right vq0_basic)[i]?) = (w_Sm_signOf T q0 q0_problem q0_point q0_table q0_right q0_cost q0_basic q0_problem_a q0_problem_b q0_problem_c vq0_rows vq0_variables vq0_columns vq0_stepsDone vq0_problem_rows vq0_problem_variables vq0_problem_b).map some) ∧ ([2, 3, 4, 5, 6, 7, 9, 10, 11, 12, 13, 14, 15, 16].map (fun (i : Nat) => (w_Sm_fillTable T q0 q0_problem q0_point q0_table q0_right q0_cost q0_basic q0_problem_a q0_problem_b q0_problem_c Rq0_problem_a Rq0_table vq0_rows vq0_variables vq0_columns vq0_stepsDone vq0_problem_rows vq0_problem_variables vq0_problem_a vq0_problem_b vq0_table vq0_right vq0_basic)[i]?) = [2, 3, 4, 5, 6, 7, 9, 10, 11, 12, 13, 14, 15, 16].map (fun (i : Nat) => (w_Sm_fillTable T q0 q0_problem q0_point q0_table q0_right q0_cost q0_basic q0_problem_a q0_problem_b q0_problem_c Rq0_problem_a Rq0_table vq0_rows vq0_variables vq0_columns vq0_stepsDone vq0_problem_rows vq0_problem_variables vq0_problem_a vq0_problem_b vq0_table vq0_right vq0_basic)[i]?)) ∧ (w_Sm_signOf T q0 q0_problem q0_point q0_table q0_right q0_cost q0_basic q0_problem_a q0_problem_b q0_problem_c vq0_rows vq0_variables vq0_columns vq0_stepsDone vq0_problem_rows vq0_problem_variables vq0_problem_b).map Prod.fst = (w_Sm_signOf T q0 q0_problem q0_point q0_table q0_right q0_cost q0_basic q0_problem_a q0_problem_b q0_problem_c vq0_rows vq0_variables vq0_columns vq0_stepsDone vq0_problem_rows vq0_problem_variables vq0_problem_b).map Prod.fst ∧ (w_Sm_fillTable T q0 q0_problem q0_point q0_table q0_right q0_cost q0_basic q0_problem_a q0_problem_b q0_problem_c Rq0_problem_a Rq0_table vq0_rows vq0_variables vq0_columns vq0_stepsDone vq0_problem_rows vq0_problem_variables vq0_problem_a vq0_problem_b vq0_table vq0_right vq0_basic).length = 17 :=
  ⟨rfl, rfl, Eq.trans (b := ([some (q0_problem_a, .inl (T 3, 5, .inr (.inr (.inr (.inr (fun i => some (Rq0_problem_a i))))))), some (Rq0_problem_a 0, .inl (T 0, 8, .inr (.inr (.inr (.inl (vq0_problem_a 0)))))), some (Rq0_problem_a 1, .inl (T 0, 8, .inr (.inr (.inr (.inl (vq0_problem_a 1)))))), some (Rq0_problem_a 2, .inl (T 0, 8, .inr (.inr (.inr (.inl (vq0_problem_a 2)))))), some (Rq0_problem_a 3, .inl (T 0, 8, .inr (.inr (.inr (.inl (vq0_problem_a 3)))))), some (Rq0_problem_a 4, .inl (T 0, 8, .inr (.inr (.inr (.inl (vq0_problem_a 4)))))), some (q0_table, .inl (T 3, 5, .inr (.inr (.inr (.inr (fun i => some (Rq0_table i))))))), some (Rq0_table 0, .inl (T 0, 13, .inr (.inr (.inr (.inl (vq0_table 0)))))), some (Rq0_table 1, .inl (T 0, 13, .inr (.inr (.inr (.inl (vq0_table 1)))))), some (Rq0_table 2, .inl (T 0, 13, .inr (.inr (.inr (.inl (vq0_table 2)))))), some (Rq0_table 3, .inl (T 0, 13, .inr (.inr (.inr (.inl (vq0_table 3)))))), some (Rq0_table 4, .inl (T 0, 13, .inr (.inr (.inr (.inl (vq0_table 4)))))), some (q0_right, .inl (T 0, 5, .inr (.inr (.inr (.inl vq0_right))))), some (q0_basic, .inl (T 1, 5, .inl vq0_basic))] : List (Option (Nat × va_E)))) rfl rfl, rfl, rfl⟩
set_option maxHeartbeats 40000000 in
set_option maxRecDepth 100000 in
theorem c_Sm_fillTable (l : Launch) (D : va_G) (T : Nat → ClassId) (q0 : Nat) (q0_problem : Nat) (q0_point : Nat) (q0_table : Nat) (q0_right : Nat) (q0_cost : Nat) (q0_basic : Nat) (q0_problem_a : Nat) (q0_problem_b : Nat) (q0_problem_c : Nat) (Rq0_problem_a : Nat → Nat) (Rq0_table : Nat → Nat) (vq0_rows : Int32) (vq0_variables : Int32) (vq0_columns : Int32) (vq0_stepsDone : Int32) (vq0_problem_rows : Int32) (vq0_problem_variables : Int32) (vq0_problem_a : Nat → Nat → UInt64) (vq0_problem_b : Nat → UInt64) (vq0_table : Nat → Nat → UInt64) (vq0_right : Nat → UInt64) (vq0_basic : Nat → Int32) (rm : Int32 × Int32 × Int32 × (Nat → Nat → UInt64) × (Nat → UInt64) × (Nat → Int32)) (h : s_Sm_fillTable vq0_rows vq0_variables vq0_columns vq0_stepsDone vq0_problem_rows vq0_problem_variables vq0_problem_a vq0_problem_b vq0_table vq0_right vq0_basic = some rm) : CtV l y_Sm_fillTable (Cond.code y_Sm_fillTable prog_7_method_3_code 5 none :: BIG) 1 21 D T [.ref q0] (w_Sm_fillTable T q0 q0_problem q0_point q0_table q0_right q0_cost q0_basic q0_problem_a q0_problem_b q0_problem_c Rq0_problem_a Rq0_table vq0_rows vq0_variables vq0_columns vq0_stepsDone vq0_problem_rows vq0_problem_variables vq0_problem_a vq0_problem_b vq0_table vq0_right vq0_basic) (fun r => (w_Sm_fillTable T q0 q0_problem q0_point q0_table q0_right q0_cost q0_basic q0_problem_a q0_problem_b q0_problem_c Rq0_problem_a Rq0_table r.1 r.2.1 r.2.2.1 vq0_stepsDone vq0_problem_rows vq0_problem_variables vq0_problem_a vq0_problem_b r.2.2.2.1 r.2.2.2.2.1 r.2.2.2.2.2)) rm := by
  refine cf_entry (y := y_Sm_fillTable) (cc := prog_7_method_3_code) (nL := 5) (ret := none) (fr := 1) (lo := 21) (T := T) (av := [.ref q0]) (w := (w_Sm_fillTable T q0 q0_problem q0_point q0_table q0_right q0_cost q0_basic q0_problem_a q0_problem_b q0_problem_c Rq0_problem_a Rq0_table vq0_rows vq0_variables vq0_columns vq0_stepsDone vq0_problem_rows vq0_problem_variables vq0_problem_a vq0_problem_b vq0_table vq0_right vq0_basic)) (Qc := cfQv D (fun r => (w_Sm_fillTable T q0 q0_problem q0_point q0_table q0_right q0_cost q0_basic q0_problem_a q0_problem_b q0_problem_c Rq0_problem_a Rq0_table r.1 r.2.1 r.2.2.1 vq0_stepsDone vq0_problem_rows vq0_problem_variables vq0_problem_a vq0_problem_b r.2.2.2.1 r.2.2.2.2.1 r.2.2.2.2.2)) rm) (by decide) rfl (Nat.le_of_ble_eq_true rfl) ?_
  intro p e s m args below meth c A Q H locs ls hx hb hr hlocks hml hown hts hNW hK hA hQ hP hD hS hl
  have hown : s.vm.findClass "ConeForge$SimplexMethod" = some m.cls := hown
  have hl : lv_has ls 5 [(0, .ref q0)] := hl
  have L37 : ∀ (vq0_rows : Int32) (vq0_variables : Int32) (vq0_columns : Int32) (vq0_table : Nat → Nat → UInt64) (vq0_right : Nat → UInt64) (vq0_basic : Nat → Int32) (x1 : Int32), ∀ (H : Heap) (locs : List Loc) (ls : Array Slot), va_P D CL (w_Sm_fillTable T q0 q0_problem q0_point q0_table q0_right q0_cost q0_basic q0_problem_a q0_problem_b q0_problem_c Rq0_problem_a Rq0_table vq0_rows vq0_variables vq0_columns vq0_stepsDone vq0_problem_rows vq0_problem_variables vq0_problem_a vq0_problem_b vq0_table vq0_right vq0_basic) H → va_D A (w_Sm_fillTable T q0 q0_problem q0_point q0_table q0_right q0_cost q0_basic q0_problem_a q0_problem_b q0_problem_c Rq0_problem_a Rq0_table vq0_rows vq0_variables vq0_columns vq0_stepsDone vq0_problem_rows vq0_problem_variables vq0_problem_a vq0_problem_b vq0_table vq0_right vq0_basic) → va_S A s.heap H locs → lv_has ls 5 [(0, .ref q0), (1, .int x1)] → s_Sm_fillTable_L37 vq0_rows vq0_variables vq0_columns vq0_stepsDone vq0_problem_rows vq0_problem_variables vq0_problem_a vq0_problem_b vq0_table vq0_right vq0_basic x1 = some rm → W p l e (rmk 1 21) s m args below meth c H locs 0 0 Q (F0 m 37 ls []) := by
    intro vq0_rows vq0_variables vq0_columns vq0_table vq0_right vq0_basic x1 H locs ls hP hD hS hl h
    unfold s_Sm_fillTable_L37 at h
    obtain ⟨ul37, hul37, h⟩ := bi_some h
    refine loopO_W (Wh := fun (st : (Nat → Nat → UInt64) × (Nat → UInt64) × (Nat → Int32) × Int32) => ∀ (H : Heap) (locs : List Loc) (ls : Array Slot), va_P D CL (w_Sm_fillTable T q0 q0_problem q0_point q0_table q0_right q0_cost q0_basic q0_problem_a q0_problem_b q0_problem_c Rq0_problem_a Rq0_table vq0_rows vq0_variables vq0_columns vq0_stepsDone vq0_problem_rows vq0_problem_variables vq0_problem_a vq0_problem_b st.1 st.2.1 st.2.2.1) H → va_D A (w_Sm_fillTable T q0 q0_problem q0_point q0_table q0_right q0_cost q0_basic q0_problem_a q0_problem_b q0_problem_c Rq0_problem_a Rq0_table vq0_rows vq0_variables vq0_columns vq0_stepsDone vq0_problem_rows vq0_problem_variables vq0_problem_a vq0_problem_b st.1 st.2.1 st.2.2.1) → va_S A s.heap H locs → lv_has ls 5 [(0, .ref q0), (1, .int st.2.2.2)] → W p l e (rmk 1 21) s m args below meth c H locs 0 0 Q (F0 m 37 ls [])) (Wx := fun (e1 : (Nat → Nat → UInt64) × (Nat → UInt64) × (Nat → Int32)) => ∀ (H : Heap) (locs : List Loc) (ls : Array Slot), va_P D CL (w_Sm_fillTable T q0 q0_problem q0_point q0_table q0_right q0_cost q0_basic q0_problem_a q0_problem_b q0_problem_c Rq0_problem_a Rq0_table vq0_rows vq0_variables vq0_columns vq0_stepsDone vq0_problem_rows vq0_problem_variables vq0_problem_a vq0_problem_b e1.1 e1.2.1 e1.2.2) H → va_D A (w_Sm_fillTable T q0 q0_problem q0_point q0_table q0_right q0_cost q0_basic q0_problem_a q0_problem_b q0_problem_c Rq0_problem_a Rq0_table vq0_rows vq0_variables vq0_columns vq0_stepsDone vq0_problem_rows vq0_problem_variables vq0_problem_a vq0_problem_b e1.1 e1.2.1 e1.2.2) → va_S A s.heap H locs → lv_has ls 5 [] → W p l e (rmk 1 21) s m args below meth c H locs 0 0 Q (F0 m 170 ls [])) ?_ 2000 _ ul37 hul37 ?_ H locs ls hP hD hS hl
    · intro st rb37 h kc37 kx37 H locs ls hP hD hS hl
      obtain ⟨vq0_table, vq0_right, vq0_basic, x1⟩ := st
      have h : s_Sm_fillTable_B37 vq0_rows vq0_variables vq0_columns vq0_stepsDone vq0_problem_rows vq0_problem_variables vq0_problem_a vq0_problem_b vq0_table vq0_right vq0_basic x1 = some rb37 := h
      have L95 : ∀ (vq0_table : Nat → Nat → UInt64) (vq0_right : Nat → UInt64) (vq0_basic : Nat → Int32) (x1 : Int32) (x2 : UInt64) (x4 : Int32), ∀ (H : Heap) (locs : List Loc) (ls : Array Slot), va_P D CL (w_Sm_fillTable T q0 q0_problem q0_point q0_table q0_right q0_cost q0_basic q0_problem_a q0_problem_b q0_problem_c Rq0_problem_a Rq0_table vq0_rows vq0_variables vq0_columns vq0_stepsDone vq0_problem_rows vq0_problem_variables vq0_problem_a vq0_problem_b vq0_table vq0_right vq0_basic) H → va_D A (w_Sm_fillTable T q0 q0_problem q0_point q0_table q0_right q0_cost q0_basic q0_problem_a q0_problem_b q0_problem_c Rq0_problem_a Rq0_table vq0_rows vq0_variables vq0_columns vq0_stepsDone vq0_problem_rows vq0_problem_variables vq0_problem_a vq0_problem_b vq0_table vq0_right vq0_basic) → va_S A s.heap H locs → lv_has ls 5 [(0, .ref q0), (1, .int x1), (2, .double x2), (4, .int x4)] → s_Sm_fillTable_L95 vq0_rows vq0_variables vq0_columns vq0_stepsDone vq0_problem_rows vq0_problem_variables vq0_problem_a vq0_problem_b vq0_table vq0_right vq0_basic x1 x2 x4 = some rb37 → W p l e (rmk 1 21) s m args below meth c H locs 0 0 Q (F0 m 95 ls []) := by
        intro vq0_table vq0_right vq0_basic x1 x2 x4 H locs ls hP hD hS hl h
        unfold s_Sm_fillTable_L95 at h
        obtain ⟨ul95, hul95, h⟩ := bi_some h
        refine loopO_W (Wh := fun (st : (Nat → Nat → UInt64) × Int32) => ∀ (H : Heap) (locs : List Loc) (ls : Array Slot), va_P D CL (w_Sm_fillTable T q0 q0_problem q0_point q0_table q0_right q0_cost q0_basic q0_problem_a q0_problem_b q0_problem_c Rq0_problem_a Rq0_table vq0_rows vq0_variables vq0_columns vq0_stepsDone vq0_problem_rows vq0_problem_variables vq0_problem_a vq0_problem_b st.1 vq0_right vq0_basic) H → va_D A (w_Sm_fillTable T q0 q0_problem q0_point q0_table q0_right q0_cost q0_basic q0_problem_a q0_problem_b q0_problem_c Rq0_problem_a Rq0_table vq0_rows vq0_variables vq0_columns vq0_stepsDone vq0_problem_rows vq0_problem_variables vq0_problem_a vq0_problem_b st.1 vq0_right vq0_basic) → va_S A s.heap H locs → lv_has ls 5 [(0, .ref q0), (1, .int x1), (2, .double x2), (4, .int st.2)] → W p l e (rmk 1 21) s m args below meth c H locs 0 0 Q (F0 m 95 ls [])) (Wx := fun (e1 : (Nat → Nat → UInt64)) => ∀ (H : Heap) (locs : List Loc) (ls : Array Slot), va_P D CL (w_Sm_fillTable T q0 q0_problem q0_point q0_table q0_right q0_cost q0_basic q0_problem_a q0_problem_b q0_problem_c Rq0_problem_a Rq0_table vq0_rows vq0_variables vq0_columns vq0_stepsDone vq0_problem_rows vq0_problem_variables vq0_problem_a vq0_problem_b e1 vq0_right vq0_basic) H → va_D A (w_Sm_fillTable T q0 q0_problem q0_point q0_table q0_right q0_cost q0_basic q0_problem_a q0_problem_b q0_problem_c Rq0_problem_a Rq0_table vq0_rows vq0_variables vq0_columns vq0_stepsDone vq0_problem_rows vq0_problem_variables vq0_problem_a vq0_problem_b e1 vq0_right vq0_basic) → va_S A s.heap H locs → lv_has ls 5 [(0, .ref q0), (1, .int x1), (2, .double x2)] → W p l e (rmk 1 21) s m args below meth c H locs 0 0 Q (F0 m 135 ls [])) ?_ 2000 _ ul95 hul95 ?_ H locs ls hP hD hS hl
        · intro st rb95 h kc95 kx95 H locs ls hP hD hS hl
          obtain ⟨vq0_table, x4⟩ := st
          have h : s_Sm_fillTable_B95 vq0_rows vq0_variables vq0_columns vq0_stepsDone vq0_problem_rows vq0_problem_variables vq0_problem_a vq0_problem_b vq0_right vq0_basic x1 x2 vq0_table x4 = some rb95 := h
          unfold s_Sm_fillTable_B95 at h
          refine lv_iload hx hb d_Sm_fillTable_95 (lv_at hl 3 rfl) ?_
          refine lv_aload_n hx hb d_Sm_fillTable_97 rfl (lv_at hl 0 rfl) ?_
          refine va_get (D := D) (ci := 6) (v := .int vq0_rows) (C := "ConeForge$SimplexMethod") (T := FSm) (N := 10) hx hb hts iSm hown hK hP 0 rfl rfl 6 (by decide) (hts _ (bgc bw246)) (fun _ h9 => h9) rfl d_Sm_fillTable_98 ?_
          refine lv_icmp_ge (tgt := 135) hx hb d_Sm_fillTable_101 (by decide) (fun c1 => ?_) (fun c1 => ?_)
          · have h := it_t c1 h
            exact kx95 _ (Option.some.inj h).symm H locs ls hP hD hS (lv_sub hl [0, 1, 2] rfl)
          · have h := it_f c1 h
            refine lv_aload_n hx hb d_Sm_fillTable_104 rfl (lv_at hl 0 rfl) ?_
            refine va_get (D := D) (ci := 6) (v := .ref q0_table) (C := "ConeForge$SimplexMethod") (T := FSm) (N := 10) hx hb hts iSm hown hK hP 0 rfl rfl 2 (by decide) (hts _ (bgc bw242)) (fun _ h9 => h9) rfl d_Sm_fillTable_105 ?_
            refine lv_iload_n hx hb d_Sm_fillTable_108 rfl (lv_at hl 1 rfl) ?_
            obtain ⟨g2, h⟩ := gd_some h
            refine va_aldg (f := Rq0_table) hx hb hK hP 9 3 rfl rfl (inb_in g2) d_Sm_fillTable_109 ?_
            refine lv_aload_n hx hb d_Sm_fillTable_110 rfl (lv_at hl 0 rfl) ?_
            refine va_get (D := D) (ci := 6) (v := .int vq0_variables) (C := "ConeForge$SimplexMethod") (T := FSm) (N := 10) hx hb hts iSm hown hK hP 0 rfl rfl 7 (by decide) (hts _ (bgc bw247)) (fun _ h9 => h9) rfl d_Sm_fillTable_111 ?_
            refine lv_iload hx hb d_Sm_fillTable_114 (lv_at hl 3 rfl) ?_
            refine lv_iadd hx hb d_Sm_fillTable_116 ?_
            refine lv_iload hx hb d_Sm_fillTable_117 (lv_at hl 3 rfl) ?_
            refine lv_iload_n hx hb d_Sm_fillTable_119 rfl (lv_at hl 1 rfl) ?_
            refine lv_icmp_ne (tgt := 127) hx hb d_Sm_fillTable_120 (by decide) (fun c3 => ?_) (fun c3 => ?_)
            · have h := it_f c3 h
              refine lv_dconst0 hx hb d_Sm_fillTable_127 ?_
              obtain ⟨g4, h⟩ := gd_some h
              refine va_dast hx hb hK hP hD hS (10 + x1.toNatClampNeg) 0 (gk5 (P := fun k => (w_Sm_fillTable T q0 q0_problem q0_point q0_table q0_right q0_cost q0_basic q0_problem_a q0_problem_b q0_problem_c Rq0_problem_a Rq0_table vq0_rows vq0_variables vq0_columns vq0_stepsDone vq0_problem_rows vq0_problem_variables vq0_problem_a vq0_problem_b vq0_table vq0_right vq0_basic)[10 + k]? = some (Rq0_table k, .inl (T 0, 13, .inr (.inr (.inr (.inl (vq0_table k))))))) rfl rfl rfl rfl rfl _ (inb_lt g2)) rfl (inb_in g4) d_Sm_fillTable_128 (fun H locs hP hD hS => ?_)
              have e5 : ∀ zz : Nat → UInt64, (w_Sm_fillTable T q0 q0_problem q0_point q0_table q0_right q0_cost q0_basic q0_problem_a q0_problem_b q0_problem_c Rq0_problem_a Rq0_table vq0_rows vq0_variables vq0_columns vq0_stepsDone vq0_problem_rows vq0_problem_variables vq0_problem_a vq0_problem_b vq0_table vq0_right vq0_basic).set (10 + x1.toNatClampNeg) (Rq0_table x1.toNatClampNeg, .inl (T 0, 13, .inr (.inr (.inr (.inl zz))))) = (w_Sm_fillTable T q0 q0_problem q0_point q0_table q0_right q0_cost q0_basic q0_problem_a q0_problem_b q0_problem_c Rq0_problem_a Rq0_table vq0_rows vq0_variables vq0_columns vq0_stepsDone vq0_problem_rows vq0_problem_variables vq0_problem_a vq0_problem_b (gset vq0_table x1.toNatClampNeg zz) vq0_right vq0_basic) := fun zz => gk5 (P := fun k => (w_Sm_fillTable T q0 q0_problem q0_point q0_table q0_right q0_cost q0_basic q0_problem_a q0_problem_b q0_problem_c Rq0_problem_a Rq0_table vq0_rows vq0_variables vq0_columns vq0_stepsDone vq0_problem_rows vq0_problem_variables vq0_problem_a vq0_problem_b vq0_table vq0_right vq0_basic).set (10 + k) (Rq0_table k, .inl (T 0, 13, .inr (.inr (.inr (.inl zz))))) = (w_Sm_fillTable T q0 q0_problem q0_point q0_table q0_right q0_cost q0_basic q0_problem_a q0_problem_b q0_problem_c Rq0_problem_a Rq0_table vq0_rows vq0_variables vq0_columns vq0_stepsDone vq0_problem_rows vq0_problem_variables vq0_problem_a vq0_problem_b (gset vq0_table k zz) vq0_right vq0_basic)) rfl rfl rfl rfl rfl _ (inb_lt g2)
              have hP : va_P D CL (w_Sm_fillTable T q0 q0_problem q0_point q0_table q0_right q0_cost q0_basic q0_problem_a q0_problem_b q0_problem_c Rq0_problem_a Rq0_table vq0_rows vq0_variables vq0_columns vq0_stepsDone vq0_problem_rows vq0_problem_variables vq0_problem_a vq0_problem_b (gset vq0_table x1.toNatClampNeg (vf_upd (vq0_table x1.toNatClampNeg) (vq0_variables + x4).toNatClampNeg FP.dconst0)) vq0_right vq0_basic) H := (e5 _) ▸ hP
              have hD : va_D A (w_Sm_fillTable T q0 q0_problem q0_point q0_table q0_right q0_cost q0_basic q0_problem_a q0_problem_b q0_problem_c Rq0_problem_a Rq0_table vq0_rows vq0_variables vq0_columns vq0_stepsDone vq0_problem_rows vq0_problem_variables vq0_problem_a vq0_problem_b (gset vq0_table x1.toNatClampNeg (vf_upd (vq0_table x1.toNatClampNeg) (vq0_variables + x4).toNatClampNeg FP.dconst0)) vq0_right vq0_basic) := (e5 _) ▸ hD
              refine lv_iinc (v := x4 + 1) (lv' := [(4, .int (x4 + 1)), (0, .ref q0), (1, .int x1), (2, .double x2)]) hx hb d_Sm_fillTable_129 hl (k := 3) rfl rfl (by decide) rfl (fun ls hl => ?_)
              refine lv_goto (tgt := 95) hx hb d_Sm_fillTable_132 (by decide) ?_
              exact kc95 _ (Option.some.inj h).symm H locs ls hP hD hS (lv_sub hl [1, 2, 3, 0] rfl)
            · have h := it_t c3 h
              refine lv_dconst1 hx hb d_Sm_fillTable_123 ?_
              refine lv_goto (tgt := 128) hx hb d_Sm_fillTable_124 (by decide) ?_
              obtain ⟨g6, h⟩ := gd_some h
              refine va_dast hx hb hK hP hD hS (10 + x1.toNatClampNeg) 0 (gk5 (P := fun k => (w_Sm_fillTable T q0 q0_problem q0_point q0_table q0_right q0_cost q0_basic q0_problem_a q0_problem_b q0_problem_c Rq0_problem_a Rq0_table vq0_rows vq0_variables vq0_columns vq0_stepsDone vq0_problem_rows vq0_problem_variables vq0_problem_a vq0_problem_b vq0_table vq0_right vq0_basic)[10 + k]? = some (Rq0_table k, .inl (T 0, 13, .inr (.inr (.inr (.inl (vq0_table k))))))) rfl rfl rfl rfl rfl _ (inb_lt g2)) rfl (inb_in g6) d_Sm_fillTable_128 (fun H locs hP hD hS => ?_)
              have e7 : ∀ zz : Nat → UInt64, (w_Sm_fillTable T q0 q0_problem q0_point q0_table q0_right q0_cost q0_basic q0_problem_a q0_problem_b q0_problem_c Rq0_problem_a Rq0_table vq0_rows vq0_variables vq0_columns vq0_stepsDone vq0_problem_rows vq0_problem_variables vq0_problem_a vq0_problem_b vq0_table vq0_right vq0_basic).set (10 + x1.toNatClampNeg) (Rq0_table x1.toNatClampNeg, .inl (T 0, 13, .inr (.inr (.inr (.inl zz))))) = (w_Sm_fillTable T q0 q0_problem q0_point q0_table q0_right q0_cost q0_basic q0_problem_a q0_problem_b q0_problem_c Rq0_problem_a Rq0_table vq0_rows vq0_variables vq0_columns vq0_stepsDone vq0_problem_rows vq0_problem_variables vq0_problem_a vq0_problem_b (gset vq0_table x1.toNatClampNeg zz) vq0_right vq0_basic) := fun zz => gk5 (P := fun k => (w_Sm_fillTable T q0 q0_problem q0_point q0_table q0_right q0_cost q0_basic q0_problem_a q0_problem_b q0_problem_c Rq0_problem_a Rq0_table vq0_rows vq0_variables vq0_columns vq0_stepsDone vq0_problem_rows vq0_problem_variables vq0_problem_a vq0_problem_b vq0_table vq0_right vq0_basic).set (10 + k) (Rq0_table k, .inl (T 0, 13, .inr (.inr (.inr (.inl zz))))) = (w_Sm_fillTable T q0 q0_problem q0_point q0_table q0_right q0_cost q0_basic q0_problem_a q0_problem_b q0_problem_c Rq0_problem_a Rq0_table vq0_rows vq0_variables vq0_columns vq0_stepsDone vq0_problem_rows vq0_problem_variables vq0_problem_a vq0_problem_b (gset vq0_table k zz) vq0_right vq0_basic)) rfl rfl rfl rfl rfl _ (inb_lt g2)
              have hP : va_P D CL (w_Sm_fillTable T q0 q0_problem q0_point q0_table q0_right q0_cost q0_basic q0_problem_a q0_problem_b q0_problem_c Rq0_problem_a Rq0_table vq0_rows vq0_variables vq0_columns vq0_stepsDone vq0_problem_rows vq0_problem_variables vq0_problem_a vq0_problem_b (gset vq0_table x1.toNatClampNeg (vf_upd (vq0_table x1.toNatClampNeg) (vq0_variables + x4).toNatClampNeg FP.dconst1)) vq0_right vq0_basic) H := (e7 _) ▸ hP
              have hD : va_D A (w_Sm_fillTable T q0 q0_problem q0_point q0_table q0_right q0_cost q0_basic q0_problem_a q0_problem_b q0_problem_c Rq0_problem_a Rq0_table vq0_rows vq0_variables vq0_columns vq0_stepsDone vq0_problem_rows vq0_problem_variables vq0_problem_a vq0_problem_b (gset vq0_table x1.toNatClampNeg (vf_upd (vq0_table x1.toNatClampNeg) (vq0_variables + x4).toNatClampNeg FP.dconst1)) vq0_right vq0_basic) := (e7 _) ▸ hD
              refine lv_iinc (v := x4 + 1) (lv' := [(4, .int (x4 + 1)), (0, .ref q0), (1, .int x1), (2, .double x2)]) hx hb d_Sm_fillTable_129 hl (k := 3) rfl rfl (by decide) rfl (fun ls hl => ?_)
              refine lv_goto (tgt := 95) hx hb d_Sm_fillTable_132 (by decide) ?_
              exact kc95 _ (Option.some.inj h).symm H locs ls hP hD hS (lv_sub hl [1, 2, 3, 0] rfl)
        · intro H locs ls hP hD hS hl
          refine lv_aload_n hx hb d_Sm_fillTable_135 rfl (lv_at hl 0 rfl) ?_
          refine va_get (D := D) (ci := 6) (v := .ref q0_right) (C := "ConeForge$SimplexMethod") (T := FSm) (N := 10) hx hb hts iSm hown hK hP 0 rfl rfl 3 (by decide) (hts _ (bgc bw243)) (fun _ h9 => h9) rfl d_Sm_fillTable_136 ?_
          refine lv_iload_n hx hb d_Sm_fillTable_139 rfl (lv_at hl 1 rfl) ?_
          refine lv_aload_n hx hb d_Sm_fillTable_140 rfl (lv_at hl 0 rfl) ?_
          refine va_get (D := D) (ci := 6) (v := .ref q0_problem) (C := "ConeForge$SimplexMethod") (T := FSm) (N := 10) hx hb hts iSm hown hK hP 0 rfl rfl 0 (by decide) (hts _ (bgc bw240)) (fun _ h9 => h9) rfl d_Sm_fillTable_141 ?_
          refine va_getN (D := D) (ci := 0) (v := .ref q0_problem_b) (C := "ConeForge$Problem") (T := FPb) (N := 5) hx hb hts iPb hown hK hP 1 rfl rfl 3 (by decide) (hNW.use nw20) (fun _ h9 => h9) rfl d_Sm_fillTable_144 ?_
          refine lv_iload_n hx hb d_Sm_fillTable_147 rfl (lv_at hl 1 rfl) ?_
          obtain ⟨g8, h⟩ := gd_some h
          refine va_dald hx hb hK hP 8 0 rfl rfl (inb_in g8) d_Sm_fillTable_148 ?_
          refine lv_dload_n hx hb d_Sm_fillTable_149 rfl (lv_at hl 2 rfl) ?_
          obtain ⟨g9, h⟩ := gd_some h
          refine lv_dmul hx hb d_Sm_fillTable_150 (isn_n g9) ?_
          obtain ⟨g10, h⟩ := gd_some h
          refine va_dast hx hb hK hP hD hS 15 0 rfl rfl (inb_in g10) d_Sm_fillTable_151 (fun H locs hP hD hS => ?_)
          have hP : va_P D CL (w_Sm_fillTable T q0 q0_problem q0_point q0_table q0_right q0_cost q0_basic q0_problem_a q0_problem_b q0_problem_c Rq0_problem_a Rq0_table vq0_rows vq0_variables vq0_columns vq0_stepsDone vq0_problem_rows vq0_problem_variables vq0_problem_a vq0_problem_b ul95 (vf_upd vq0_right x1.toNatClampNeg (FP.dmul (vq0_problem_b x1.toNatClampNeg) x2)) vq0_basic) H := hP
          have hD : va_D A (w_Sm_fillTable T q0 q0_problem q0_point q0_table q0_right q0_cost q0_basic q0_problem_a q0_problem_b q0_problem_c Rq0_problem_a Rq0_table vq0_rows vq0_variables vq0_columns vq0_stepsDone vq0_problem_rows vq0_problem_variables vq0_problem_a vq0_problem_b ul95 (vf_upd vq0_right x1.toNatClampNeg (FP.dmul (vq0_problem_b x1.toNatClampNeg) x2)) vq0_basic) := hD
          refine lv_aload_n hx hb d_Sm_fillTable_152 rfl (lv_at hl 0 rfl) ?_
          refine va_get (D := D) (ci := 6) (v := .ref q0_basic) (C := "ConeForge$SimplexMethod") (T := FSm) (N := 10) hx hb hts iSm hown hK hP 0 rfl rfl 5 (by decide) (hts _ (bgc bw245)) (fun _ h9 => h9) rfl d_Sm_fillTable_153 ?_
          refine lv_iload_n hx hb d_Sm_fillTable_156 rfl (lv_at hl 1 rfl) ?_
          refine lv_aload_n hx hb d_Sm_fillTable_157 rfl (lv_at hl 0 rfl) ?_
          refine va_get (D := D) (ci := 6) (v := .int vq0_variables) (C := "ConeForge$SimplexMethod") (T := FSm) (N := 10) hx hb hts iSm hown hK hP 0 rfl rfl 7 (by decide) (hts _ (bgc bw247)) (fun _ h9 => h9) rfl d_Sm_fillTable_158 ?_
          refine lv_iload_n hx hb d_Sm_fillTable_161 rfl (lv_at hl 1 rfl) ?_
          refine lv_iadd hx hb d_Sm_fillTable_162 ?_
          obtain ⟨g11, h⟩ := gd_some h
          refine va_iast hx hb hK hP hD hS 16 1 rfl rfl (inb_in g11) d_Sm_fillTable_163 (fun H locs hP hD hS => ?_)
          have hP : va_P D CL (w_Sm_fillTable T q0 q0_problem q0_point q0_table q0_right q0_cost q0_basic q0_problem_a q0_problem_b q0_problem_c Rq0_problem_a Rq0_table vq0_rows vq0_variables vq0_columns vq0_stepsDone vq0_problem_rows vq0_problem_variables vq0_problem_a vq0_problem_b ul95 (vf_upd vq0_right x1.toNatClampNeg (FP.dmul (vq0_problem_b x1.toNatClampNeg) x2)) (upd vq0_basic x1.toNatClampNeg (vq0_variables + x1))) H := hP
          have hD : va_D A (w_Sm_fillTable T q0 q0_problem q0_point q0_table q0_right q0_cost q0_basic q0_problem_a q0_problem_b q0_problem_c Rq0_problem_a Rq0_table vq0_rows vq0_variables vq0_columns vq0_stepsDone vq0_problem_rows vq0_problem_variables vq0_problem_a vq0_problem_b ul95 (vf_upd vq0_right x1.toNatClampNeg (FP.dmul (vq0_problem_b x1.toNatClampNeg) x2)) (upd vq0_basic x1.toNatClampNeg (vq0_variables + x1))) := hD
          refine lv_iinc (v := x1 + 1) (lv' := [(1, .int (x1 + 1)), (0, .ref q0), (2, .double x2)]) hx hb d_Sm_fillTable_164 hl (k := 1) rfl rfl (by decide) rfl (fun ls hl => ?_)
          refine lv_goto (tgt := 37) hx hb d_Sm_fillTable_167 (by decide) ?_
          exact kc37 _ (Option.some.inj h).symm H locs ls hP hD hS (lv_sub hl [1, 0] rfl)
      have L54 : ∀ (vq0_table : Nat → Nat → UInt64) (vq0_right : Nat → UInt64) (vq0_basic : Nat → Int32) (x1 : Int32) (x2 : UInt64) (x4 : Int32), ∀ (H : Heap) (locs : List Loc) (ls : Array Slot), va_P D CL (w_Sm_fillTable T q0 q0_problem q0_point q0_table q0_right q0_cost q0_basic q0_problem_a q0_problem_b q0_problem_c Rq0_problem_a Rq0_table vq0_rows vq0_variables vq0_columns vq0_stepsDone vq0_problem_rows vq0_problem_variables vq0_problem_a vq0_problem_b vq0_table vq0_right vq0_basic) H → va_D A (w_Sm_fillTable T q0 q0_problem q0_point q0_table q0_right q0_cost q0_basic q0_problem_a q0_problem_b q0_problem_c Rq0_problem_a Rq0_table vq0_rows vq0_variables vq0_columns vq0_stepsDone vq0_problem_rows vq0_problem_variables vq0_problem_a vq0_problem_b vq0_table vq0_right vq0_basic) → va_S A s.heap H locs → lv_has ls 5 [(0, .ref q0), (1, .int x1), (2, .double x2), (4, .int x4)] → s_Sm_fillTable_L54 vq0_rows vq0_variables vq0_columns vq0_stepsDone vq0_problem_rows vq0_problem_variables vq0_problem_a vq0_problem_b vq0_table vq0_right vq0_basic x1 x2 x4 = some rb37 → W p l e (rmk 1 21) s m args below meth c H locs 0 0 Q (F0 m 54 ls []) := by
        intro vq0_table vq0_right vq0_basic x1 x2 x4 H locs ls hP hD hS hl h
        unfold s_Sm_fillTable_L54 at h
        obtain ⟨ul54, hul54, h⟩ := bi_some h
        refine loopO_W (Wh := fun (st : (Nat → Nat → UInt64) × Int32) => ∀ (H : Heap) (locs : List Loc) (ls : Array Slot), va_P D CL (w_Sm_fillTable T q0 q0_problem q0_point q0_table q0_right q0_cost q0_basic q0_problem_a q0_problem_b q0_problem_c Rq0_problem_a Rq0_table vq0_rows vq0_variables vq0_columns vq0_stepsDone vq0_problem_rows vq0_problem_variables vq0_problem_a vq0_problem_b st.1 vq0_right vq0_basic) H → va_D A (w_Sm_fillTable T q0 q0_problem q0_point q0_table q0_right q0_cost q0_basic q0_problem_a q0_problem_b q0_problem_c Rq0_problem_a Rq0_table vq0_rows vq0_variables vq0_columns vq0_stepsDone vq0_problem_rows vq0_problem_variables vq0_problem_a vq0_problem_b st.1 vq0_right vq0_basic) → va_S A s.heap H locs → lv_has ls 5 [(0, .ref q0), (1, .int x1), (2, .double x2), (4, .int st.2)] → W p l e (rmk 1 21) s m args below meth c H locs 0 0 Q (F0 m 54 ls [])) (Wx := fun (e1 : (Nat → Nat → UInt64)) => ∀ (H : Heap) (locs : List Loc) (ls : Array Slot), va_P D CL (w_Sm_fillTable T q0 q0_problem q0_point q0_table q0_right q0_cost q0_basic q0_problem_a q0_problem_b q0_problem_c Rq0_problem_a Rq0_table vq0_rows vq0_variables vq0_columns vq0_stepsDone vq0_problem_rows vq0_problem_variables vq0_problem_a vq0_problem_b e1 vq0_right vq0_basic) H → va_D A (w_Sm_fillTable T q0 q0_problem q0_point q0_table q0_right q0_cost q0_basic q0_problem_a q0_problem_b q0_problem_c Rq0_problem_a Rq0_table vq0_rows vq0_variables vq0_columns vq0_stepsDone vq0_problem_rows vq0_problem_variables vq0_problem_a vq0_problem_b e1 vq0_right vq0_basic) → va_S A s.heap H locs → lv_has ls 5 [(0, .ref q0), (1, .int x1), (2, .double x2)] → W p l e (rmk 1 21) s m args below meth c H locs 0 0 Q (F0 m 92 ls [])) ?_ 2000 _ ul54 hul54 ?_ H locs ls hP hD hS hl
        · intro st rb54 h kc54 kx54 H locs ls hP hD hS hl
          obtain ⟨vq0_table, x4⟩ := st
          have h : s_Sm_fillTable_B54 vq0_rows vq0_variables vq0_columns vq0_stepsDone vq0_problem_rows vq0_problem_variables vq0_problem_a vq0_problem_b vq0_right vq0_basic x1 x2 vq0_table x4 = some rb54 := h
          unfold s_Sm_fillTable_B54 at h
          refine lv_iload hx hb d_Sm_fillTable_54 (lv_at hl 3 rfl) ?_
          refine lv_aload_n hx hb d_Sm_fillTable_56 rfl (lv_at hl 0 rfl) ?_
          refine va_get (D := D) (ci := 6) (v := .int vq0_variables) (C := "ConeForge$SimplexMethod") (T := FSm) (N := 10) hx hb hts iSm hown hK hP 0 rfl rfl 7 (by decide) (hts _ (bgc bw247)) (fun _ h9 => h9) rfl d_Sm_fillTable_57 ?_
          refine lv_icmp_ge (tgt := 92) hx hb d_Sm_fillTable_60 (by decide) (fun c12 => ?_) (fun c12 => ?_)
          · have h := it_t c12 h
            exact kx54 _ (Option.some.inj h).symm H locs ls hP hD hS (lv_sub hl [0, 1, 2] rfl)
          · have h := it_f c12 h
            refine lv_aload_n hx hb d_Sm_fillTable_63 rfl (lv_at hl 0 rfl) ?_
            refine va_get (D := D) (ci := 6) (v := .ref q0_table) (C := "ConeForge$SimplexMethod") (T := FSm) (N := 10) hx hb hts iSm hown hK hP 0 rfl rfl 2 (by decide) (hts _ (bgc bw242)) (fun _ h9 => h9) rfl d_Sm_fillTable_64 ?_
            refine lv_iload_n hx hb d_Sm_fillTable_67 rfl (lv_at hl 1 rfl) ?_
            obtain ⟨g13, h⟩ := gd_some h
            refine va_aldg (f := Rq0_table) hx hb hK hP 9 3 rfl rfl (inb_in g13) d_Sm_fillTable_68 ?_
            refine lv_iload hx hb d_Sm_fillTable_69 (lv_at hl 3 rfl) ?_
            refine lv_aload_n hx hb d_Sm_fillTable_71 rfl (lv_at hl 0 rfl) ?_
            refine va_get (D := D) (ci := 6) (v := .ref q0_problem) (C := "ConeForge$SimplexMethod") (T := FSm) (N := 10) hx hb hts iSm hown hK hP 0 rfl rfl 0 (by decide) (hts _ (bgc bw240)) (fun _ h9 => h9) rfl d_Sm_fillTable_72 ?_
            refine va_getN (D := D) (ci := 0) (v := .ref q0_problem_a) (C := "ConeForge$Problem") (T := FPb) (N := 5) hx hb hts iPb hown hK hP 1 rfl rfl 2 (by decide) (hNW.use nw15) (fun _ h9 => h9) rfl d_Sm_fillTable_75 ?_
            refine lv_iload_n hx hb d_Sm_fillTable_78 rfl (lv_at hl 1 rfl) ?_
            obtain ⟨g14, h⟩ := gd_some h
            refine va_aldg (f := Rq0_problem_a) hx hb hK hP 2 3 rfl rfl (inb_in g14) d_Sm_fillTable_79 ?_
            refine lv_iload hx hb d_Sm_fillTable_80 (lv_at hl 3 rfl) ?_
            obtain ⟨g15, h⟩ := gd_some h
            refine va_dald hx hb hK hP (3 + x1.toNatClampNeg) 0 (gk5 (P := fun k => (w_Sm_fillTable T q0 q0_problem q0_point q0_table q0_right q0_cost q0_basic q0_problem_a q0_problem_b q0_problem_c Rq0_problem_a Rq0_table vq0_rows vq0_variables vq0_columns vq0_stepsDone vq0_problem_rows vq0_problem_variables vq0_problem_a vq0_problem_b vq0_table vq0_right vq0_basic)[3 + k]? = some (Rq0_problem_a k, .inl (T 0, 8, .inr (.inr (.inr (.inl (vq0_problem_a k))))))) rfl rfl rfl rfl rfl _ (inb_lt g14)) rfl (inb_in g15) d_Sm_fillTable_82 ?_
            refine lv_dload_n hx hb d_Sm_fillTable_83 rfl (lv_at hl 2 rfl) ?_
            obtain ⟨g16, h⟩ := gd_some h
            refine lv_dmul hx hb d_Sm_fillTable_84 (isn_n g16) ?_
            obtain ⟨g17, h⟩ := gd_some h
            refine va_dast hx hb hK hP hD hS (10 + x1.toNatClampNeg) 0 (gk5 (P := fun k => (w_Sm_fillTable T q0 q0_problem q0_point q0_table q0_right q0_cost q0_basic q0_problem_a q0_problem_b q0_problem_c Rq0_problem_a Rq0_table vq0_rows vq0_variables vq0_columns vq0_stepsDone vq0_problem_rows vq0_problem_variables vq0_problem_a vq0_problem_b vq0_table vq0_right vq0_basic)[10 + k]? = some (Rq0_table k, .inl (T 0, 13, .inr (.inr (.inr (.inl (vq0_table k))))))) rfl rfl rfl rfl rfl _ (inb_lt g13)) rfl (inb_in g17) d_Sm_fillTable_85 (fun H locs hP hD hS => ?_)
            have e18 : ∀ zz : Nat → UInt64, (w_Sm_fillTable T q0 q0_problem q0_point q0_table q0_right q0_cost q0_basic q0_problem_a q0_problem_b q0_problem_c Rq0_problem_a Rq0_table vq0_rows vq0_variables vq0_columns vq0_stepsDone vq0_problem_rows vq0_problem_variables vq0_problem_a vq0_problem_b vq0_table vq0_right vq0_basic).set (10 + x1.toNatClampNeg) (Rq0_table x1.toNatClampNeg, .inl (T 0, 13, .inr (.inr (.inr (.inl zz))))) = (w_Sm_fillTable T q0 q0_problem q0_point q0_table q0_right q0_cost q0_basic q0_problem_a q0_problem_b q0_problem_c Rq0_problem_a Rq0_table vq0_rows vq0_variables vq0_columns vq0_stepsDone vq0_problem_rows vq0_problem_variables vq0_problem_a vq0_problem_b (gset vq0_table x1.toNatClampNeg zz) vq0_right vq0_basic) := fun zz => gk5 (P := fun k => (w_Sm_fillTable T q0 q0_problem q0_point q0_table q0_right q0_cost q0_basic q0_problem_a q0_problem_b q0_problem_c Rq0_problem_a Rq0_table vq0_rows vq0_variables vq0_columns vq0_stepsDone vq0_problem_rows vq0_problem_variables vq0_problem_a vq0_problem_b vq0_table vq0_right vq0_basic).set (10 + k) (Rq0_table k, .inl (T 0, 13, .inr (.inr (.inr (.inl zz))))) = (w_Sm_fillTable T q0 q0_problem q0_point q0_table q0_right q0_cost q0_basic q0_problem_a q0_problem_b q0_problem_c Rq0_problem_a Rq0_table vq0_rows vq0_variables vq0_columns vq0_stepsDone vq0_problem_rows vq0_problem_variables vq0_problem_a vq0_problem_b (gset vq0_table k zz) vq0_right vq0_basic)) rfl rfl rfl rfl rfl _ (inb_lt g13)
            have hP : va_P D CL (w_Sm_fillTable T q0 q0_problem q0_point q0_table q0_right q0_cost q0_basic q0_problem_a q0_problem_b q0_problem_c Rq0_problem_a Rq0_table vq0_rows vq0_variables vq0_columns vq0_stepsDone vq0_problem_rows vq0_problem_variables vq0_problem_a vq0_problem_b (gset vq0_table x1.toNatClampNeg (vf_upd (vq0_table x1.toNatClampNeg) x4.toNatClampNeg (FP.dmul (vq0_problem_a x1.toNatClampNeg x4.toNatClampNeg) x2))) vq0_right vq0_basic) H := (e18 _) ▸ hP
            have hD : va_D A (w_Sm_fillTable T q0 q0_problem q0_point q0_table q0_right q0_cost q0_basic q0_problem_a q0_problem_b q0_problem_c Rq0_problem_a Rq0_table vq0_rows vq0_variables vq0_columns vq0_stepsDone vq0_problem_rows vq0_problem_variables vq0_problem_a vq0_problem_b (gset vq0_table x1.toNatClampNeg (vf_upd (vq0_table x1.toNatClampNeg) x4.toNatClampNeg (FP.dmul (vq0_problem_a x1.toNatClampNeg x4.toNatClampNeg) x2))) vq0_right vq0_basic) := (e18 _) ▸ hD
            refine lv_iinc (v := x4 + 1) (lv' := [(4, .int (x4 + 1)), (0, .ref q0), (1, .int x1), (2, .double x2)]) hx hb d_Sm_fillTable_86 hl (k := 3) rfl rfl (by decide) rfl (fun ls hl => ?_)
            refine lv_goto (tgt := 54) hx hb d_Sm_fillTable_89 (by decide) ?_
            exact kc54 _ (Option.some.inj h).symm H locs ls hP hD hS (lv_sub hl [1, 2, 3, 0] rfl)
        · intro H locs ls hP hD hS hl
          refine lv_iconst (v := 0) hx hb d_Sm_fillTable_92 (by decide) ?_
          refine lv_istore (lv' := [(4, .int 0), (0, .ref q0), (1, .int x1), (2, .double x2)]) hx hb d_Sm_fillTable_93 hl (by decide) rfl (fun ls hl => ?_)
          exact L95 ul54 vq0_right vq0_basic x1 x2 0 H locs ls hP hD hS (lv_sub hl [1, 2, 3, 0] rfl) h
      unfold s_Sm_fillTable_B37 at h
      refine lv_iload_n hx hb d_Sm_fillTable_37 rfl (lv_at hl 1 rfl) ?_
      refine lv_aload_n hx hb d_Sm_fillTable_38 rfl (lv_at hl 0 rfl) ?_
      refine va_get (D := D) (ci := 6) (v := .int vq0_rows) (C := "ConeForge$SimplexMethod") (T := FSm) (N := 10) hx hb hts iSm hown hK hP 0 rfl rfl 6 (by decide) (hts _ (bgc bw246)) (fun _ h9 => h9) rfl d_Sm_fillTable_39 ?_
      refine lv_icmp_ge (tgt := 170) hx hb d_Sm_fillTable_42 (by decide) (fun c19 => ?_) (fun c19 => ?_)
      · have h := it_t c19 h
        exact kx37 _ (Option.some.inj h).symm H locs ls hP hD hS (lv_sub hl [] rfl)
      · have h := it_f c19 h
        refine lv_aload_n hx hb d_Sm_fillTable_45 rfl (lv_at hl 0 rfl) ?_
        refine lv_iload_n hx hb d_Sm_fillTable_46 rfl (lv_at hl 1 rfl) ?_
        obtain ⟨u20, hu20, h⟩ := bi_some h
        have jj21 := j_Sm_fillTable_47 T q0 q0_problem q0_point q0_table q0_right q0_cost q0_basic q0_problem_a q0_problem_b q0_problem_c Rq0_problem_a Rq0_table vq0_rows vq0_variables vq0_columns vq0_stepsDone vq0_problem_rows vq0_problem_variables vq0_problem_a vq0_problem_b vq0_table vq0_right vq0_basic
        refine kD2 (v := u20) (wc := (w_Sm_signOf T q0 q0_problem q0_point q0_table q0_right q0_cost q0_basic q0_problem_a q0_problem_b q0_problem_c vq0_rows vq0_variables vq0_columns vq0_stepsDone vq0_problem_rows vq0_problem_variables vq0_problem_b)) (wc' := (w_Sm_signOf T q0 q0_problem q0_point q0_table q0_right q0_cost q0_basic q0_problem_a q0_problem_b q0_problem_c vq0_rows vq0_variables vq0_columns vq0_stepsDone vq0_problem_rows vq0_problem_variables vq0_problem_b)) (w_Sm_fillTable T q0 q0_problem q0_point q0_table q0_right q0_cost q0_basic q0_problem_a q0_problem_b q0_problem_c Rq0_problem_a Rq0_table vq0_rows vq0_variables vq0_columns vq0_stepsDone vq0_problem_rows vq0_problem_variables vq0_problem_a vq0_problem_b vq0_table vq0_right vq0_basic) (runOV (As := [.int x1]) (rest := []) ((c_Sm_signOf l D T q0 q0_problem q0_point q0_table q0_right q0_cost q0_basic q0_problem_a q0_problem_b q0_problem_c vq0_rows vq0_variables vq0_columns vq0_stepsDone vq0_problem_rows vq0_problem_variables vq0_problem_b x1 u20 hu20) H.size) ⟨hx, hb, hml, hown, hts⟩ (cwOV bw329 bw330 bw8 bw104 bw331 dd_Sm_signOf hts ⟨Nat.le_of_ble_eq_true rfl, Nat.le_of_ble_eq_true rfl⟩) (va_recv hK hP (ci := 6) (q0 := 0) rfl rfl) hNW hK hP hD [0, 1, 8] jj21.1 (by decide) rfl hl.1 rfl (lv_room (Nat.le_of_ble_eq_true rfl)) d_Sm_fillTable_47 ⟨Nat.le_of_ble_eq_true rfl, Nat.le_of_ble_eq_true rfl⟩) hP hD hS hA [0, 1, 8] [2, 3, 4, 5, 6, 7, 9, 10, 11, 12, 13, 14, 15, 16] jj21.1 jj21.2.1 jj21.2.2.1 (N := 17) jj21.2.2.2.2 (by decide) jj21.2.2.2.1 (fun H locs hP hD hS => ?_)
        refine lv_dstore_n (lv' := [(2, .double u20), (0, .ref q0), (1, .int x1)]) hx hb d_Sm_fillTable_50 rfl hl (by decide) rfl (fun ls hl => ?_)
        refine lv_iconst (v := 0) hx hb d_Sm_fillTable_51 (by decide) ?_
        refine lv_istore (lv' := [(4, .int 0), (2, .double u20), (0, .ref q0), (1, .int x1)]) hx hb d_Sm_fillTable_52 hl (by decide) rfl (fun ls hl => ?_)
        exact L54 vq0_table vq0_right vq0_basic x1 u20 0 H locs ls hP hD hS (lv_sub hl [2, 3, 1, 0] rfl) h
    · intro H locs ls hP hD hS hl
      exact rtV hx hb hr hlocks hQ (Option.some.inj h) hP hS d_Sm_fillTable_170 rfl
  unfold s_Sm_fillTable at h
  refine lv_aload_n hx hb d_Sm_fillTable_0 rfl (lv_at hl 0 rfl) ?_
  refine lv_aload_n hx hb d_Sm_fillTable_1 rfl (lv_at hl 0 rfl) ?_
  refine va_get (D := D) (ci := 6) (v := .ref q0_problem) (C := "ConeForge$SimplexMethod") (T := FSm) (N := 10) hx hb hts iSm hown hK hP 0 rfl rfl 0 (by decide) (hts _ (bgc bw240)) (fun _ h9 => h9) rfl d_Sm_fillTable_2 ?_
  refine va_getN (D := D) (ci := 0) (v := .int vq0_problem_rows) (C := "ConeForge$Problem") (T := FPb) (N := 5) hx hb hts iPb hown hK hP 1 rfl rfl 0 (by decide) (hNW.use nw3) (fun _ h9 => h9) rfl d_Sm_fillTable_5 ?_
  refine va_put (D := D) (ci := 6) (v := .int vq0_problem_rows) (ty := .int) (C := "ConeForge$SimplexMethod") (T := FSm) (N := 10) hx hb hts iSm tSm tSm_ok nmSm hown hK hP hD hS 0 rfl rfl 6 (by decide) (hts _ (bgc bw246)) (fun _ h9 => h9) rfl (by decide +kernel) rfl rfl (Nat.le_of_ble_eq_true rfl) d_Sm_fillTable_8 (fun H locs hP hD hS => ?_)
  have hP : va_P D CL (w_Sm_fillTable T q0 q0_problem q0_point q0_table q0_right q0_cost q0_basic q0_problem_a q0_problem_b q0_problem_c Rq0_problem_a Rq0_table vq0_problem_rows vq0_variables vq0_columns vq0_stepsDone vq0_problem_rows vq0_problem_variables vq0_problem_a vq0_problem_b vq0_table vq0_right vq0_basic) H := hP
  have hD : va_D A (w_Sm_fillTable T q0 q0_problem q0_point q0_table q0_right q0_cost q0_basic q0_problem_a q0_problem_b q0_problem_c Rq0_problem_a Rq0_table vq0_problem_rows vq0_variables vq0_columns vq0_stepsDone vq0_problem_rows vq0_problem_variables vq0_problem_a vq0_problem_b vq0_table vq0_right vq0_basic) := hD
  refine lv_aload_n hx hb d_Sm_fillTable_11 rfl (lv_at hl 0 rfl) ?_
  refine lv_aload_n hx hb d_Sm_fillTable_12 rfl (lv_at hl 0 rfl) ?_
  refine va_get (D := D) (ci := 6) (v := .ref q0_problem) (C := "ConeForge$SimplexMethod") (T := FSm) (N := 10) hx hb hts iSm hown hK hP 0 rfl rfl 0 (by decide) (hts _ (bgc bw240)) (fun _ h9 => h9) rfl d_Sm_fillTable_13 ?_
  refine va_getN (D := D) (ci := 0) (v := .int vq0_problem_variables) (C := "ConeForge$Problem") (T := FPb) (N := 5) hx hb hts iPb hown hK hP 1 rfl rfl 1 (by decide) (hNW.use nw8) (fun _ h9 => h9) rfl d_Sm_fillTable_16 ?_
  refine va_put (D := D) (ci := 6) (v := .int vq0_problem_variables) (ty := .int) (C := "ConeForge$SimplexMethod") (T := FSm) (N := 10) hx hb hts iSm tSm tSm_ok nmSm hown hK hP hD hS 0 rfl rfl 7 (by decide) (hts _ (bgc bw247)) (fun _ h9 => h9) rfl (by decide +kernel) rfl rfl (Nat.le_of_ble_eq_true rfl) d_Sm_fillTable_19 (fun H locs hP hD hS => ?_)
  have hP : va_P D CL (w_Sm_fillTable T q0 q0_problem q0_point q0_table q0_right q0_cost q0_basic q0_problem_a q0_problem_b q0_problem_c Rq0_problem_a Rq0_table vq0_problem_rows vq0_problem_variables vq0_columns vq0_stepsDone vq0_problem_rows vq0_problem_variables vq0_problem_a vq0_problem_b vq0_table vq0_right vq0_basic) H := hP
  have hD : va_D A (w_Sm_fillTable T q0 q0_problem q0_point q0_table q0_right q0_cost q0_basic q0_problem_a q0_problem_b q0_problem_c Rq0_problem_a Rq0_table vq0_problem_rows vq0_problem_variables vq0_columns vq0_stepsDone vq0_problem_rows vq0_problem_variables vq0_problem_a vq0_problem_b vq0_table vq0_right vq0_basic) := hD
  refine lv_aload_n hx hb d_Sm_fillTable_22 rfl (lv_at hl 0 rfl) ?_
  refine lv_aload_n hx hb d_Sm_fillTable_23 rfl (lv_at hl 0 rfl) ?_
  refine va_get (D := D) (ci := 6) (v := .int vq0_problem_variables) (C := "ConeForge$SimplexMethod") (T := FSm) (N := 10) hx hb hts iSm hown hK hP 0 rfl rfl 7 (by decide) (hts _ (bgc bw247)) (fun _ h9 => h9) rfl d_Sm_fillTable_24 ?_
  refine lv_aload_n hx hb d_Sm_fillTable_27 rfl (lv_at hl 0 rfl) ?_
  refine va_get (D := D) (ci := 6) (v := .int vq0_problem_rows) (C := "ConeForge$SimplexMethod") (T := FSm) (N := 10) hx hb hts iSm hown hK hP 0 rfl rfl 6 (by decide) (hts _ (bgc bw246)) (fun _ h9 => h9) rfl d_Sm_fillTable_28 ?_
  refine lv_iadd hx hb d_Sm_fillTable_31 ?_
  refine va_put (D := D) (ci := 6) (v := .int (vq0_problem_variables + vq0_problem_rows)) (ty := .int) (C := "ConeForge$SimplexMethod") (T := FSm) (N := 10) hx hb hts iSm tSm tSm_ok nmSm hown hK hP hD hS 0 rfl rfl 8 (by decide) (hts _ (bgc bw248)) (fun _ h9 => h9) rfl (by decide +kernel) rfl rfl (Nat.le_of_ble_eq_true rfl) d_Sm_fillTable_32 (fun H locs hP hD hS => ?_)
  have hP : va_P D CL (w_Sm_fillTable T q0 q0_problem q0_point q0_table q0_right q0_cost q0_basic q0_problem_a q0_problem_b q0_problem_c Rq0_problem_a Rq0_table vq0_problem_rows vq0_problem_variables (vq0_problem_variables + vq0_problem_rows) vq0_stepsDone vq0_problem_rows vq0_problem_variables vq0_problem_a vq0_problem_b vq0_table vq0_right vq0_basic) H := hP
  have hD : va_D A (w_Sm_fillTable T q0 q0_problem q0_point q0_table q0_right q0_cost q0_basic q0_problem_a q0_problem_b q0_problem_c Rq0_problem_a Rq0_table vq0_problem_rows vq0_problem_variables (vq0_problem_variables + vq0_problem_rows) vq0_stepsDone vq0_problem_rows vq0_problem_variables vq0_problem_a vq0_problem_b vq0_table vq0_right vq0_basic) := hD
  refine lv_iconst (v := 0) hx hb d_Sm_fillTable_35 (by decide) ?_
  refine lv_istore_n (lv' := [(1, .int 0), (0, .ref q0)]) hx hb d_Sm_fillTable_36 rfl hl (by decide) rfl (fun ls hl => ?_)
  exact L37 vq0_problem_rows vq0_problem_variables (vq0_problem_variables + vq0_problem_rows) vq0_table vq0_right vq0_basic 0 H locs ls hP hD hS (lv_sub hl [1, 0] rfl) h
theorem d_Sm_setCosts_0 : decode prog_7_method_5_code 0 = .ok (.iconst 0, 1) := by decide +kernel
theorem d_Sm_setCosts_1 : decode prog_7_method_5_code 1 = .ok (.istore_n 2, 1) := by decide +kernel
theorem d_Sm_setCosts_2 : decode prog_7_method_5_code 2 = .ok (.iload_n 2, 1) := by decide +kernel
theorem d_Sm_setCosts_3 : decode prog_7_method_5_code 3 = .ok (.aload_n 0, 1) := by decide +kernel
theorem d_Sm_setCosts_4 : decode prog_7_method_5_code 4 = .ok (.getfield 48, 3) := by decide +kernel
theorem d_Sm_setCosts_7 : decode prog_7_method_5_code 7 = .ok (.if_icmp .ge 62, 3) := by decide +kernel
theorem d_Sm_setCosts_10 : decode prog_7_method_5_code 10 = .ok (.iload_n 1, 1) := by decide +kernel
theorem d_Sm_setCosts_11 : decode prog_7_method_5_code 11 = .ok (.ifCond .eq 33, 3) := by decide +kernel
theorem d_Sm_setCosts_14 : decode prog_7_method_5_code 14 = .ok (.aload_n 0, 1) := by decide +kernel
theorem d_Sm_setCosts_15 : decode prog_7_method_5_code 15 = .ok (.getfield 34, 3) := by decide +kernel
theorem d_Sm_setCosts_18 : decode prog_7_method_5_code 18 = .ok (.iload_n 2, 1) := by decide +kernel
theorem d_Sm_setCosts_19 : decode prog_7_method_5_code 19 = .ok (.iload_n 2, 1) := by decide +kernel
theorem d_Sm_setCosts_20 : decode prog_7_method_5_code 20 = .ok (.aload_n 0, 1) := by decide +kernel
theorem d_Sm_setCosts_21 : decode prog_7_method_5_code 21 = .ok (.getfield 45, 3) := by decide +kernel
theorem d_Sm_setCosts_24 : decode prog_7_method_5_code 24 = .ok (.if_icmp .ge 15, 3) := by decide +kernel
theorem d_Sm_setCosts_27 : decode prog_7_method_5_code 27 = .ok (.aload_n 0, 1) := by decide +kernel
theorem d_Sm_setCosts_28 : decode prog_7_method_5_code 28 = .ok (.getfield 12, 3) := by decide +kernel
theorem d_Sm_setCosts_31 : decode prog_7_method_5_code 31 = .ok (.getfield 95, 3) := by decide +kernel
theorem d_Sm_setCosts_34 : decode prog_7_method_5_code 34 = .ok (.iload_n 2, 1) := by decide +kernel
theorem d_Sm_setCosts_35 : decode prog_7_method_5_code 35 = .ok (.daload, 1) := by decide +kernel
theorem d_Sm_setCosts_36 : decode prog_7_method_5_code 36 = .ok (.goto 4, 3) := by decide +kernel
theorem d_Sm_setCosts_39 : decode prog_7_method_5_code 39 = .ok (.dconst 0, 1) := by decide +kernel
theorem d_Sm_setCosts_40 : decode prog_7_method_5_code 40 = .ok (.dastore, 1) := by decide +kernel
theorem d_Sm_setCosts_41 : decode prog_7_method_5_code 41 = .ok (.goto 22, 3) := by decide +kernel
theorem d_Sm_setCosts_44 : decode prog_7_method_5_code 44 = .ok (.aload_n 0, 1) := by decide +kernel
theorem d_Sm_setCosts_45 : decode prog_7_method_5_code 45 = .ok (.getfield 34, 3) := by decide +kernel
theorem d_Sm_setCosts_48 : decode prog_7_method_5_code 48 = .ok (.iload_n 2, 1) := by decide +kernel
theorem d_Sm_setCosts_49 : decode prog_7_method_5_code 49 = .ok (.iload_n 2, 1) := by decide +kernel
theorem d_Sm_setCosts_50 : decode prog_7_method_5_code 50 = .ok (.aload_n 0, 1) := by decide +kernel
theorem d_Sm_setCosts_51 : decode prog_7_method_5_code 51 = .ok (.getfield 45, 3) := by decide +kernel
theorem d_Sm_setCosts_54 : decode prog_7_method_5_code 54 = .ok (.if_icmp .ge 7, 3) := by decide +kernel
theorem d_Sm_setCosts_57 : decode prog_7_method_5_code 57 = .ok (.dconst 0, 1) := by decide +kernel
theorem d_Sm_setCosts_58 : decode prog_7_method_5_code 58 = .ok (.goto 4, 3) := by decide +kernel
theorem d_Sm_setCosts_61 : decode prog_7_method_5_code 61 = .ok (.dconst 1, 1) := by decide +kernel
theorem d_Sm_setCosts_62 : decode prog_7_method_5_code 62 = .ok (.dastore, 1) := by decide +kernel
theorem d_Sm_setCosts_63 : decode prog_7_method_5_code 63 = .ok (.iinc 2 1, 3) := by decide +kernel
theorem d_Sm_setCosts_66 : decode prog_7_method_5_code 66 = .ok (.goto (-64), 3) := by decide +kernel
theorem d_Sm_setCosts_69 : decode prog_7_method_5_code 69 = .ok (.return_, 1) := by decide +kernel
abbrev w_Sm_setCosts (T : Nat → ClassId) (q0 : Nat) (q0_problem : Nat) (q0_point : Nat) (q0_table : Nat) (q0_right : Nat) (q0_cost : Nat) (q0_basic : Nat) (q0_problem_a : Nat) (q0_problem_b : Nat) (q0_problem_c : Nat) (vq0_rows : Int32) (vq0_variables : Int32) (vq0_columns : Int32) (vq0_stepsDone : Int32) (vq0_problem_rows : Int32) (vq0_problem_variables : Int32) (vq0_problem_c : Nat → UInt64) (vq0_cost : Nat → UInt64) : va_W := [(q0, .inr (6, [.ref q0_problem, .ref q0_point, .ref q0_table, .ref q0_right, .ref q0_cost, .ref q0_basic, .int vq0_rows, .int vq0_variables, .int vq0_columns, .int vq0_stepsDone])), (q0_problem, .inr (0, [.int vq0_problem_rows, .int vq0_problem_variables, .ref q0_problem_a, .ref q0_problem_b, .ref q0_problem_c])), (q0_problem_c, .inl (T 0, 8, .inr (.inr (.inr (.inl vq0_problem_c))))), (q0_cost, .inl (T 0, 13, .inr (.inr (.inr (.inl vq0_cost)))))]
def s_Sm_setCosts_J63 (vq0_rows : Int32) (vq0_variables : Int32) (vq0_columns : Int32) (vq0_stepsDone : Int32) (vq0_problem_rows : Int32) (vq0_problem_variables : Int32) (vq0_problem_c : Nat → UInt64) (vq0_cost : Nat → UInt64) (x1 : Int32) (x2 : Int32) : Option (((Nat → UInt64) × Int32) ⊕ ((Nat → UInt64))) :=
  some (.inl (vq0_cost, x2 + 1))
def s_Sm_setCosts_J62 (vq0_rows : Int32) (vq0_variables : Int32) (vq0_columns : Int32) (vq0_stepsDone : Int32) (vq0_problem_rows : Int32) (vq0_problem_variables : Int32) (vq0_problem_c : Nat → UInt64) (vq0_cost : Nat → UInt64) (x1 : Int32) (x2 : Int32) (y1 : Int32) (y2 : UInt64) : Option (((Nat → UInt64) × Int32) ⊕ ((Nat → UInt64))) :=
  gd (inb y1 13) <| s_Sm_setCosts_J63 vq0_rows vq0_variables vq0_columns vq0_stepsDone vq0_problem_rows vq0_problem_variables vq0_problem_c (vf_upd vq0_cost y1.toNatClampNeg y2) x1 x2
def s_Sm_setCosts_J40 (vq0_rows : Int32) (vq0_variables : Int32) (vq0_columns : Int32) (vq0_stepsDone : Int32) (vq0_problem_rows : Int32) (vq0_problem_variables : Int32) (vq0_problem_c : Nat → UInt64) (vq0_cost : Nat → UInt64) (x1 : Int32) (x2 : Int32) (y1 : Int32) (y2 : UInt64) : Option (((Nat → UInt64) × Int32) ⊕ ((Nat → UInt64))) :=
  gd (inb y1 13) <| s_Sm_setCosts_J63 vq0_rows vq0_variables vq0_columns vq0_stepsDone vq0_problem_rows vq0_problem_variables vq0_problem_c (vf_upd vq0_cost y1.toNatClampNeg y2) x1 x2
def s_Sm_setCosts_B2 (vq0_rows : Int32) (vq0_variables : Int32) (vq0_columns : Int32) (vq0_stepsDone : Int32) (vq0_problem_rows : Int32) (vq0_problem_variables : Int32) (vq0_problem_c : Nat → UInt64) (x1 : Int32) (vq0_cost : Nat → UInt64) (x2 : Int32) : Option (((Nat → UInt64) × Int32) ⊕ ((Nat → UInt64))) :=
  if vq0_columns ≤ x2 then (some (.inr vq0_cost)) else (if x1 = 0 then (if vq0_variables ≤ x2 then (s_Sm_setCosts_J62 vq0_rows vq0_variables vq0_columns vq0_stepsDone vq0_problem_rows vq0_problem_variables vq0_problem_c vq0_cost x1 x2 x2 FP.dconst1) else (s_Sm_setCosts_J62 vq0_rows vq0_variables vq0_columns vq0_stepsDone vq0_problem_rows vq0_problem_variables vq0_problem_c vq0_cost x1 x2 x2 FP.dconst0)) else (if vq0_variables ≤ x2 then (s_Sm_setCosts_J40 vq0_rows vq0_variables vq0_columns vq0_stepsDone vq0_problem_rows vq0_problem_variables vq0_problem_c vq0_cost x1 x2 x2 FP.dconst0) else (gd (inb x2 8) <| s_Sm_setCosts_J40 vq0_rows vq0_variables vq0_columns vq0_stepsDone vq0_problem_rows vq0_problem_variables vq0_problem_c vq0_cost x1 x2 x2 (vq0_problem_c x2.toNatClampNeg))))
def s_Sm_setCosts_L2 (vq0_rows : Int32) (vq0_variables : Int32) (vq0_columns : Int32) (vq0_stepsDone : Int32) (vq0_problem_rows : Int32) (vq0_problem_variables : Int32) (vq0_problem_c : Nat → UInt64) (vq0_cost : Nat → UInt64) (x1 : Int32) (x2 : Int32) : Option ((Nat → UInt64)) :=
  (loopO (fun (st : (Nat → UInt64) × Int32) => s_Sm_setCosts_B2 vq0_rows vq0_variables vq0_columns vq0_stepsDone vq0_problem_rows vq0_problem_variables vq0_problem_c x1 st.1 st.2) 2000 (vq0_cost, x2)).bind fun ul2 => some ul2
def s_Sm_setCosts (vq0_rows : Int32) (vq0_variables : Int32) (vq0_columns : Int32) (vq0_stepsDone : Int32) (vq0_problem_rows : Int32) (vq0_problem_variables : Int32) (vq0_problem_c : Nat → UInt64) (vq0_cost : Nat → UInt64) (x1 : Int32) : Option ((Nat → UInt64)) :=
  s_Sm_setCosts_L2 vq0_rows vq0_variables vq0_columns vq0_stepsDone vq0_problem_rows vq0_problem_variables vq0_problem_c vq0_cost x1 0
set_option maxHeartbeats 40000000 in
set_option maxRecDepth 100000 in
theorem c_Sm_setCosts (l : Launch) (D : va_G) (T : Nat → ClassId) (q0 : Nat) (q0_problem : Nat) (q0_point : Nat) (q0_table : Nat) (q0_right : Nat) (q0_cost : Nat) (q0_basic : Nat) (q0_problem_a : Nat) (q0_problem_b : Nat) (q0_problem_c : Nat) (vq0_rows : Int32) (vq0_variables : Int32) (vq0_columns : Int32) (vq0_stepsDone : Int32) (vq0_problem_rows : Int32) (vq0_problem_variables : Int32) (vq0_problem_c : Nat → UInt64) (vq0_cost : Nat → UInt64) (x1 : Int32) (rm : (Nat → UInt64)) (h : s_Sm_setCosts vq0_rows vq0_variables vq0_columns vq0_stepsDone vq0_problem_rows vq0_problem_variables vq0_problem_c vq0_cost x1 = some rm) : CtV l y_Sm_setCosts (Cond.code y_Sm_setCosts prog_7_method_5_code 3 none :: BIG) 0 0 D T [.ref q0, .int x1] (w_Sm_setCosts T q0 q0_problem q0_point q0_table q0_right q0_cost q0_basic q0_problem_a q0_problem_b q0_problem_c vq0_rows vq0_variables vq0_columns vq0_stepsDone vq0_problem_rows vq0_problem_variables vq0_problem_c vq0_cost) (fun r => (w_Sm_setCosts T q0 q0_problem q0_point q0_table q0_right q0_cost q0_basic q0_problem_a q0_problem_b q0_problem_c vq0_rows vq0_variables vq0_columns vq0_stepsDone vq0_problem_rows vq0_problem_variables vq0_problem_c r)) rm := by
  refine cf_entry (y := y_Sm_setCosts) (cc := prog_7_method_5_code) (nL := 3) (ret := none) (fr := 0) (lo := 0) (T := T) (av := [.ref q0, .int x1]) (w := (w_Sm_setCosts T q0 q0_problem q0_point q0_table q0_right q0_cost q0_basic q0_problem_a q0_problem_b q0_problem_c vq0_rows vq0_variables vq0_columns vq0_stepsDone vq0_problem_rows vq0_problem_variables vq0_problem_c vq0_cost)) (Qc := cfQv D (fun r => (w_Sm_setCosts T q0 q0_problem q0_point q0_table q0_right q0_cost q0_basic q0_problem_a q0_problem_b q0_problem_c vq0_rows vq0_variables vq0_columns vq0_stepsDone vq0_problem_rows vq0_problem_variables vq0_problem_c r)) rm) (by decide) rfl (Nat.le_of_ble_eq_true rfl) ?_
  intro p e s m args below meth c A Q H locs ls hx hb hr hlocks hml hown hts hNW hK hA hQ hP hD hS hl
  have hown : s.vm.findClass "ConeForge$SimplexMethod" = some m.cls := hown
  have hl : lv_has ls 3 [(0, .ref q0), (1, .int x1)] := hl
  have L2 : ∀ (vq0_cost : Nat → UInt64) (x1 : Int32) (x2 : Int32), ∀ (H : Heap) (locs : List Loc) (ls : Array Slot), va_P D CL (w_Sm_setCosts T q0 q0_problem q0_point q0_table q0_right q0_cost q0_basic q0_problem_a q0_problem_b q0_problem_c vq0_rows vq0_variables vq0_columns vq0_stepsDone vq0_problem_rows vq0_problem_variables vq0_problem_c vq0_cost) H → va_D A (w_Sm_setCosts T q0 q0_problem q0_point q0_table q0_right q0_cost q0_basic q0_problem_a q0_problem_b q0_problem_c vq0_rows vq0_variables vq0_columns vq0_stepsDone vq0_problem_rows vq0_problem_variables vq0_problem_c vq0_cost) → va_S A s.heap H locs → lv_has ls 3 [(0, .ref q0), (1, .int x1), (2, .int x2)] → s_Sm_setCosts_L2 vq0_rows vq0_variables vq0_columns vq0_stepsDone vq0_problem_rows vq0_problem_variables vq0_problem_c vq0_cost x1 x2 = some rm → W p l e (rmk 0 0) s m args below meth c H locs 0 0 Q (F0 m 2 ls []) := by
    intro vq0_cost x1 x2 H locs ls hP hD hS hl h
    unfold s_Sm_setCosts_L2 at h
    obtain ⟨ul2, hul2, h⟩ := bi_some h
    refine loopO_W (Wh := fun (st : (Nat → UInt64) × Int32) => ∀ (H : Heap) (locs : List Loc) (ls : Array Slot), va_P D CL (w_Sm_setCosts T q0 q0_problem q0_point q0_table q0_right q0_cost q0_basic q0_problem_a q0_problem_b q0_problem_c vq0_rows vq0_variables vq0_columns vq0_stepsDone vq0_problem_rows vq0_problem_variables vq0_problem_c st.1) H → va_D A (w_Sm_setCosts T q0 q0_problem q0_point q0_table q0_right q0_cost q0_basic q0_problem_a q0_problem_b q0_problem_c vq0_rows vq0_variables vq0_columns vq0_stepsDone vq0_problem_rows vq0_problem_variables vq0_problem_c st.1) → va_S A s.heap H locs → lv_has ls 3 [(0, .ref q0), (1, .int x1), (2, .int st.2)] → W p l e (rmk 0 0) s m args below meth c H locs 0 0 Q (F0 m 2 ls [])) (Wx := fun (e1 : (Nat → UInt64)) => ∀ (H : Heap) (locs : List Loc) (ls : Array Slot), va_P D CL (w_Sm_setCosts T q0 q0_problem q0_point q0_table q0_right q0_cost q0_basic q0_problem_a q0_problem_b q0_problem_c vq0_rows vq0_variables vq0_columns vq0_stepsDone vq0_problem_rows vq0_problem_variables vq0_problem_c e1) H → va_D A (w_Sm_setCosts T q0 q0_problem q0_point q0_table q0_right q0_cost q0_basic q0_problem_a q0_problem_b q0_problem_c vq0_rows vq0_variables vq0_columns vq0_stepsDone vq0_problem_rows vq0_problem_variables vq0_problem_c e1) → va_S A s.heap H locs → lv_has ls 3 [] → W p l e (rmk 0 0) s m args below meth c H locs 0 0 Q (F0 m 69 ls [])) ?_ 2000 _ ul2 hul2 ?_ H locs ls hP hD hS hl
    · intro st rb2 h kc2 kx2 H locs ls hP hD hS hl
      obtain ⟨vq0_cost, x2⟩ := st
      have h : s_Sm_setCosts_B2 vq0_rows vq0_variables vq0_columns vq0_stepsDone vq0_problem_rows vq0_problem_variables vq0_problem_c x1 vq0_cost x2 = some rb2 := h
      have J63 : ∀ (vq0_cost : Nat → UInt64) (x2 : Int32), ∀ (H : Heap) (locs : List Loc) (ls : Array Slot), va_P D CL (w_Sm_setCosts T q0 q0_problem q0_point q0_table q0_right q0_cost q0_basic q0_problem_a q0_problem_b q0_problem_c vq0_rows vq0_variables vq0_columns vq0_stepsDone vq0_problem_rows vq0_problem_variables vq0_problem_c vq0_cost) H → va_D A (w_Sm_setCosts T q0 q0_problem q0_point q0_table q0_right q0_cost q0_basic q0_problem_a q0_problem_b q0_problem_c vq0_rows vq0_variables vq0_columns vq0_stepsDone vq0_problem_rows vq0_problem_variables vq0_problem_c vq0_cost) → va_S A s.heap H locs → lv_has ls 3 [(0, .ref q0), (1, .int x1), (2, .int x2)] → s_Sm_setCosts_J63 vq0_rows vq0_variables vq0_columns vq0_stepsDone vq0_problem_rows vq0_problem_variables vq0_problem_c vq0_cost x1 x2 = some rb2 → W p l e (rmk 0 0) s m args below meth c H locs 0 0 Q (F0 m 63 ls []) := by
        intro vq0_cost x2 H locs ls hP hD hS hl h
        unfold s_Sm_setCosts_J63 at h
        refine lv_iinc (v := x2 + 1) (lv' := [(2, .int (x2 + 1)), (0, .ref q0), (1, .int x1)]) hx hb d_Sm_setCosts_63 hl (k := 2) rfl rfl (by decide) rfl (fun ls hl => ?_)
        refine lv_goto (tgt := 2) hx hb d_Sm_setCosts_66 (by decide) ?_
        exact kc2 _ (Option.some.inj h).symm H locs ls hP hD hS (lv_sub hl [1, 2, 0] rfl)
      have J62 : ∀ (vq0_cost : Nat → UInt64) (x2 : Int32) (y1 : Int32) (y2 : UInt64), ∀ (H : Heap) (locs : List Loc) (ls : Array Slot), va_P D CL (w_Sm_setCosts T q0 q0_problem q0_point q0_table q0_right q0_cost q0_basic q0_problem_a q0_problem_b q0_problem_c vq0_rows vq0_variables vq0_columns vq0_stepsDone vq0_problem_rows vq0_problem_variables vq0_problem_c vq0_cost) H → va_D A (w_Sm_setCosts T q0 q0_problem q0_point q0_table q0_right q0_cost q0_basic q0_problem_a q0_problem_b q0_problem_c vq0_rows vq0_variables vq0_columns vq0_stepsDone vq0_problem_rows vq0_problem_variables vq0_problem_c vq0_cost) → va_S A s.heap H locs → lv_has ls 3 [(0, .ref q0), (1, .int x1), (2, .int x2)] → s_Sm_setCosts_J62 vq0_rows vq0_variables vq0_columns vq0_stepsDone vq0_problem_rows vq0_problem_variables vq0_problem_c vq0_cost x1 x2 y1 y2 = some rb2 → W p l e (rmk 0 0) s m args below meth c H locs 0 0 Q (F0 m 62 ls [.double y2, .int y1, .ref q0_cost]) := by
        intro vq0_cost x2 y1 y2 H locs ls hP hD hS hl h
        unfold s_Sm_setCosts_J62 at h
        obtain ⟨g1, h⟩ := gd_some h
        refine va_dast hx hb hK hP hD hS 3 0 rfl rfl (inb_in g1) d_Sm_setCosts_62 (fun H locs hP hD hS => ?_)
        have hP : va_P D CL (w_Sm_setCosts T q0 q0_problem q0_point q0_table q0_right q0_cost q0_basic q0_problem_a q0_problem_b q0_problem_c vq0_rows vq0_variables vq0_columns vq0_stepsDone vq0_problem_rows vq0_problem_variables vq0_problem_c (vf_upd vq0_cost y1.toNatClampNeg y2)) H := hP
        have hD : va_D A (w_Sm_setCosts T q0 q0_problem q0_point q0_table q0_right q0_cost q0_basic q0_problem_a q0_problem_b q0_problem_c vq0_rows vq0_variables vq0_columns vq0_stepsDone vq0_problem_rows vq0_problem_variables vq0_problem_c (vf_upd vq0_cost y1.toNatClampNeg y2)) := hD
        exact J63 (vf_upd vq0_cost y1.toNatClampNeg y2) x2 H locs ls hP hD hS (lv_sub hl [0, 1, 2] rfl) h
      have J40 : ∀ (vq0_cost : Nat → UInt64) (x2 : Int32) (y1 : Int32) (y2 : UInt64), ∀ (H : Heap) (locs : List Loc) (ls : Array Slot), va_P D CL (w_Sm_setCosts T q0 q0_problem q0_point q0_table q0_right q0_cost q0_basic q0_problem_a q0_problem_b q0_problem_c vq0_rows vq0_variables vq0_columns vq0_stepsDone vq0_problem_rows vq0_problem_variables vq0_problem_c vq0_cost) H → va_D A (w_Sm_setCosts T q0 q0_problem q0_point q0_table q0_right q0_cost q0_basic q0_problem_a q0_problem_b q0_problem_c vq0_rows vq0_variables vq0_columns vq0_stepsDone vq0_problem_rows vq0_problem_variables vq0_problem_c vq0_cost) → va_S A s.heap H locs → lv_has ls 3 [(0, .ref q0), (1, .int x1), (2, .int x2)] → s_Sm_setCosts_J40 vq0_rows vq0_variables vq0_columns vq0_stepsDone vq0_problem_rows vq0_problem_variables vq0_problem_c vq0_cost x1 x2 y1 y2 = some rb2 → W p l e (rmk 0 0) s m args below meth c H locs 0 0 Q (F0 m 40 ls [.double y2, .int y1, .ref q0_cost]) := by
        intro vq0_cost x2 y1 y2 H locs ls hP hD hS hl h
        unfold s_Sm_setCosts_J40 at h
        obtain ⟨g2, h⟩ := gd_some h
        refine va_dast hx hb hK hP hD hS 3 0 rfl rfl (inb_in g2) d_Sm_setCosts_40 (fun H locs hP hD hS => ?_)
        have hP : va_P D CL (w_Sm_setCosts T q0 q0_problem q0_point q0_table q0_right q0_cost q0_basic q0_problem_a q0_problem_b q0_problem_c vq0_rows vq0_variables vq0_columns vq0_stepsDone vq0_problem_rows vq0_problem_variables vq0_problem_c (vf_upd vq0_cost y1.toNatClampNeg y2)) H := hP
        have hD : va_D A (w_Sm_setCosts T q0 q0_problem q0_point q0_table q0_right q0_cost q0_basic q0_problem_a q0_problem_b q0_problem_c vq0_rows vq0_variables vq0_columns vq0_stepsDone vq0_problem_rows vq0_problem_variables vq0_problem_c (vf_upd vq0_cost y1.toNatClampNeg y2)) := hD
        refine lv_goto (tgt := 63) hx hb d_Sm_setCosts_41 (by decide) ?_
        exact J63 (vf_upd vq0_cost y1.toNatClampNeg y2) x2 H locs ls hP hD hS (lv_sub hl [0, 1, 2] rfl) h
      unfold s_Sm_setCosts_B2 at h
      refine lv_iload_n hx hb d_Sm_setCosts_2 rfl (lv_at hl 2 rfl) ?_
      refine lv_aload_n hx hb d_Sm_setCosts_3 rfl (lv_at hl 0 rfl) ?_
      refine va_get (D := D) (ci := 6) (v := .int vq0_columns) (C := "ConeForge$SimplexMethod") (T := FSm) (N := 10) hx hb hts iSm hown hK hP 0 rfl rfl 8 (by decide) (hts _ (bgc bw248)) (fun _ h9 => h9) rfl d_Sm_setCosts_4 ?_
      refine lv_icmp_ge (tgt := 69) hx hb d_Sm_setCosts_7 (by decide) (fun c3 => ?_) (fun c3 => ?_)
      · have h := it_t c3 h
        exact kx2 _ (Option.some.inj h).symm H locs ls hP hD hS (lv_sub hl [] rfl)
      · have h := it_f c3 h
        refine lv_iload_n hx hb d_Sm_setCosts_10 rfl (lv_at hl 1 rfl) ?_
        refine lv_if_eq (tgt := 44) hx hb d_Sm_setCosts_11 (by decide) (fun c4 => ?_) (fun c4 => ?_)
        · have h := it_t c4 h
          refine lv_aload_n hx hb d_Sm_setCosts_44 rfl (lv_at hl 0 rfl) ?_
          refine va_get (D := D) (ci := 6) (v := .ref q0_cost) (C := "ConeForge$SimplexMethod") (T := FSm) (N := 10) hx hb hts iSm hown hK hP 0 rfl rfl 4 (by decide) (hts _ (bgc bw244)) (fun _ h9 => h9) rfl d_Sm_setCosts_45 ?_
          refine lv_iload_n hx hb d_Sm_setCosts_48 rfl (lv_at hl 2 rfl) ?_
          refine lv_iload_n hx hb d_Sm_setCosts_49 rfl (lv_at hl 2 rfl) ?_
          refine lv_aload_n hx hb d_Sm_setCosts_50 rfl (lv_at hl 0 rfl) ?_
          refine va_get (D := D) (ci := 6) (v := .int vq0_variables) (C := "ConeForge$SimplexMethod") (T := FSm) (N := 10) hx hb hts iSm hown hK hP 0 rfl rfl 7 (by decide) (hts _ (bgc bw247)) (fun _ h9 => h9) rfl d_Sm_setCosts_51 ?_
          refine lv_icmp_ge (tgt := 61) hx hb d_Sm_setCosts_54 (by decide) (fun c5 => ?_) (fun c5 => ?_)
          · have h := it_t c5 h
            refine lv_dconst1 hx hb d_Sm_setCosts_61 ?_
            exact J62 vq0_cost x2 x2 FP.dconst1 H locs ls hP hD hS (lv_sub hl [0, 1, 2] rfl) h
          · have h := it_f c5 h
            refine lv_dconst0 hx hb d_Sm_setCosts_57 ?_
            refine lv_goto (tgt := 62) hx hb d_Sm_setCosts_58 (by decide) ?_
            exact J62 vq0_cost x2 x2 FP.dconst0 H locs ls hP hD hS (lv_sub hl [0, 1, 2] rfl) h
        · have h := it_f c4 h
          refine lv_aload_n hx hb d_Sm_setCosts_14 rfl (lv_at hl 0 rfl) ?_
          refine va_get (D := D) (ci := 6) (v := .ref q0_cost) (C := "ConeForge$SimplexMethod") (T := FSm) (N := 10) hx hb hts iSm hown hK hP 0 rfl rfl 4 (by decide) (hts _ (bgc bw244)) (fun _ h9 => h9) rfl d_Sm_setCosts_15 ?_
          refine lv_iload_n hx hb d_Sm_setCosts_18 rfl (lv_at hl 2 rfl) ?_
          refine lv_iload_n hx hb d_Sm_setCosts_19 rfl (lv_at hl 2 rfl) ?_
          refine lv_aload_n hx hb d_Sm_setCosts_20 rfl (lv_at hl 0 rfl) ?_
          refine va_get (D := D) (ci := 6) (v := .int vq0_variables) (C := "ConeForge$SimplexMethod") (T := FSm) (N := 10) hx hb hts iSm hown hK hP 0 rfl rfl 7 (by decide) (hts _ (bgc bw247)) (fun _ h9 => h9) rfl d_Sm_setCosts_21 ?_
          refine lv_icmp_ge (tgt := 39) hx hb d_Sm_setCosts_24 (by decide) (fun c6 => ?_) (fun c6 => ?_)
          · have h := it_t c6 h
            refine lv_dconst0 hx hb d_Sm_setCosts_39 ?_
            exact J40 vq0_cost x2 x2 FP.dconst0 H locs ls hP hD hS (lv_sub hl [0, 1, 2] rfl) h
          · have h := it_f c6 h
            refine lv_aload_n hx hb d_Sm_setCosts_27 rfl (lv_at hl 0 rfl) ?_
            refine va_get (D := D) (ci := 6) (v := .ref q0_problem) (C := "ConeForge$SimplexMethod") (T := FSm) (N := 10) hx hb hts iSm hown hK hP 0 rfl rfl 0 (by decide) (hts _ (bgc bw240)) (fun _ h9 => h9) rfl d_Sm_setCosts_28 ?_
            refine va_getN (D := D) (ci := 0) (v := .ref q0_problem_c) (C := "ConeForge$Problem") (T := FPb) (N := 5) hx hb hts iPb hown hK hP 1 rfl rfl 4 (by decide) (hNW.use nw25) (fun _ h9 => h9) rfl d_Sm_setCosts_31 ?_
            refine lv_iload_n hx hb d_Sm_setCosts_34 rfl (lv_at hl 2 rfl) ?_
            obtain ⟨g7, h⟩ := gd_some h
            refine va_dald hx hb hK hP 2 0 rfl rfl (inb_in g7) d_Sm_setCosts_35 ?_
            refine lv_goto (tgt := 40) hx hb d_Sm_setCosts_36 (by decide) ?_
            exact J40 vq0_cost x2 x2 (vq0_problem_c x2.toNatClampNeg) H locs ls hP hD hS (lv_sub hl [0, 1, 2] rfl) h
    · intro H locs ls hP hD hS hl
      exact rtV hx hb hr hlocks hQ (Option.some.inj h) hP hS d_Sm_setCosts_69 rfl
  unfold s_Sm_setCosts at h
  refine lv_iconst (v := 0) hx hb d_Sm_setCosts_0 (by decide) ?_
  refine lv_istore_n (lv' := [(2, .int 0), (0, .ref q0), (1, .int x1)]) hx hb d_Sm_setCosts_1 rfl hl (by decide) rfl (fun ls hl => ?_)
  exact L2 vq0_cost x1 0 H locs ls hP hD hS (lv_sub hl [1, 2, 0] rfl) h
theorem d_Sm_incoming_0 : decode prog_7_method_7_code 0 = .ok (.iconst 0, 1) := by decide +kernel
theorem d_Sm_incoming_1 : decode prog_7_method_7_code 1 = .ok (.istore_n 1, 1) := by decide +kernel
theorem d_Sm_incoming_2 : decode prog_7_method_7_code 2 = .ok (.iload_n 1, 1) := by decide +kernel
theorem d_Sm_incoming_3 : decode prog_7_method_7_code 3 = .ok (.aload_n 0, 1) := by decide +kernel
theorem d_Sm_incoming_4 : decode prog_7_method_7_code 4 = .ok (.getfield 45, 3) := by decide +kernel
theorem d_Sm_incoming_7 : decode prog_7_method_7_code 7 = .ok (.if_icmp .ge 69, 3) := by decide +kernel
theorem d_Sm_incoming_10 : decode prog_7_method_7_code 10 = .ok (.aload_n 0, 1) := by decide +kernel
theorem d_Sm_incoming_11 : decode prog_7_method_7_code 11 = .ok (.getfield 34, 3) := by decide +kernel
theorem d_Sm_incoming_14 : decode prog_7_method_7_code 14 = .ok (.iload_n 1, 1) := by decide +kernel
theorem d_Sm_incoming_15 : decode prog_7_method_7_code 15 = .ok (.daload, 1) := by decide +kernel
theorem d_Sm_incoming_16 : decode prog_7_method_7_code 16 = .ok (.dstore_n 2, 1) := by decide +kernel
theorem d_Sm_incoming_17 : decode prog_7_method_7_code 17 = .ok (.iconst 0, 1) := by decide +kernel
theorem d_Sm_incoming_18 : decode prog_7_method_7_code 18 = .ok (.istore 4, 2) := by decide +kernel
theorem d_Sm_incoming_20 : decode prog_7_method_7_code 20 = .ok (.iload 4, 2) := by decide +kernel
theorem d_Sm_incoming_22 : decode prog_7_method_7_code 22 = .ok (.aload_n 0, 1) := by decide +kernel
theorem d_Sm_incoming_23 : decode prog_7_method_7_code 23 = .ok (.getfield 41, 3) := by decide +kernel
theorem d_Sm_incoming_26 : decode prog_7_method_7_code 26 = .ok (.if_icmp .ge 34, 3) := by decide +kernel
theorem d_Sm_incoming_29 : decode prog_7_method_7_code 29 = .ok (.dload_n 2, 1) := by decide +kernel
theorem d_Sm_incoming_30 : decode prog_7_method_7_code 30 = .ok (.aload_n 0, 1) := by decide +kernel
theorem d_Sm_incoming_31 : decode prog_7_method_7_code 31 = .ok (.getfield 34, 3) := by decide +kernel
theorem d_Sm_incoming_34 : decode prog_7_method_7_code 34 = .ok (.aload_n 0, 1) := by decide +kernel
theorem d_Sm_incoming_35 : decode prog_7_method_7_code 35 = .ok (.getfield 37, 3) := by decide +kernel
theorem d_Sm_incoming_38 : decode prog_7_method_7_code 38 = .ok (.iload 4, 2) := by decide +kernel
theorem d_Sm_incoming_40 : decode prog_7_method_7_code 40 = .ok (.iaload, 1) := by decide +kernel
theorem d_Sm_incoming_41 : decode prog_7_method_7_code 41 = .ok (.daload, 1) := by decide +kernel
theorem d_Sm_incoming_42 : decode prog_7_method_7_code 42 = .ok (.aload_n 0, 1) := by decide +kernel
theorem d_Sm_incoming_43 : decode prog_7_method_7_code 43 = .ok (.getfield 27, 3) := by decide +kernel
theorem d_Sm_incoming_46 : decode prog_7_method_7_code 46 = .ok (.iload 4, 2) := by decide +kernel
theorem d_Sm_incoming_48 : decode prog_7_method_7_code 48 = .ok (.aaload, 1) := by decide +kernel
theorem d_Sm_incoming_49 : decode prog_7_method_7_code 49 = .ok (.iload_n 1, 1) := by decide +kernel
theorem d_Sm_incoming_50 : decode prog_7_method_7_code 50 = .ok (.daload, 1) := by decide +kernel
theorem d_Sm_incoming_51 : decode prog_7_method_7_code 51 = .ok (.dmul, 1) := by decide +kernel
theorem d_Sm_incoming_52 : decode prog_7_method_7_code 52 = .ok (.dsub, 1) := by decide +kernel
theorem d_Sm_incoming_53 : decode prog_7_method_7_code 53 = .ok (.dstore_n 2, 1) := by decide +kernel
theorem d_Sm_incoming_54 : decode prog_7_method_7_code 54 = .ok (.iinc 4 1, 3) := by decide +kernel
theorem d_Sm_incoming_57 : decode prog_7_method_7_code 57 = .ok (.goto (-37), 3) := by decide +kernel
theorem d_Sm_incoming_60 : decode prog_7_method_7_code 60 = .ok (.dload_n 2, 1) := by decide +kernel
theorem d_Sm_incoming_61 : decode prog_7_method_7_code 61 = .ok (.ldc2_w 118, 3) := by decide +kernel
theorem d_Sm_incoming_64 : decode prog_7_method_7_code 64 = .ok (.dcmp .g, 1) := by decide +kernel
theorem d_Sm_incoming_65 : decode prog_7_method_7_code 65 = .ok (.ifCond .ge 5, 3) := by decide +kernel
theorem d_Sm_incoming_68 : decode prog_7_method_7_code 68 = .ok (.iload_n 1, 1) := by decide +kernel
theorem d_Sm_incoming_69 : decode prog_7_method_7_code 69 = .ok (.ireturn, 1) := by decide +kernel
theorem d_Sm_incoming_70 : decode prog_7_method_7_code 70 = .ok (.iinc 1 1, 3) := by decide +kernel
theorem d_Sm_incoming_73 : decode prog_7_method_7_code 73 = .ok (.goto (-71), 3) := by decide +kernel
theorem d_Sm_incoming_76 : decode prog_7_method_7_code 76 = .ok (.iconst (-1), 1) := by decide +kernel
theorem d_Sm_incoming_77 : decode prog_7_method_7_code 77 = .ok (.ireturn, 1) := by decide +kernel
abbrev w_Sm_incoming (T : Nat → ClassId) (q0 : Nat) (q0_problem : Nat) (q0_point : Nat) (q0_table : Nat) (q0_right : Nat) (q0_cost : Nat) (q0_basic : Nat) (Rq0_table : Nat → Nat) (vq0_rows : Int32) (vq0_variables : Int32) (vq0_columns : Int32) (vq0_stepsDone : Int32) (vq0_table : Nat → Nat → UInt64) (vq0_cost : Nat → UInt64) (vq0_basic : Nat → Int32) : va_W := [(q0, .inr (6, [.ref q0_problem, .ref q0_point, .ref q0_table, .ref q0_right, .ref q0_cost, .ref q0_basic, .int vq0_rows, .int vq0_variables, .int vq0_columns, .int vq0_stepsDone])), (q0_table, .inl (T 3, 5, .inr (.inr (.inr (.inr (fun i => some (Rq0_table i))))))), (Rq0_table 0, .inl (T 0, 13, .inr (.inr (.inr (.inl (vq0_table 0)))))), (Rq0_table 1, .inl (T 0, 13, .inr (.inr (.inr (.inl (vq0_table 1)))))), (Rq0_table 2, .inl (T 0, 13, .inr (.inr (.inr (.inl (vq0_table 2)))))), (Rq0_table 3, .inl (T 0, 13, .inr (.inr (.inr (.inl (vq0_table 3)))))), (Rq0_table 4, .inl (T 0, 13, .inr (.inr (.inr (.inl (vq0_table 4)))))), (q0_cost, .inl (T 0, 13, .inr (.inr (.inr (.inl vq0_cost))))), (q0_basic, .inl (T 1, 5, .inl vq0_basic))]
def s_Sm_incoming_B20 (vq0_rows : Int32) (vq0_variables : Int32) (vq0_columns : Int32) (vq0_stepsDone : Int32) (vq0_table : Nat → Nat → UInt64) (vq0_cost : Nat → UInt64) (vq0_basic : Nat → Int32) (x1 : Int32) (x2 : UInt64) (x4 : Int32) : Option ((UInt64 × Int32) ⊕ (UInt64)) :=
  if vq0_rows ≤ x4 then (some (.inr x2)) else (gd (inb x4 5) <| gd (inb (vq0_basic x4.toNatClampNeg) 13) <| gd (inb x4 5) <| gd (inb x1 13) <| gd (isn (FP.dmul (vq0_cost (vq0_basic x4.toNatClampNeg).toNatClampNeg) (vq0_table x4.toNatClampNeg x1.toNatClampNeg))) <| gd (isn (FP.dsub x2 (FP.dmul (vq0_cost (vq0_basic x4.toNatClampNeg).toNatClampNeg) (vq0_table x4.toNatClampNeg x1.toNatClampNeg)))) <| some (.inl (FP.dsub x2 (FP.dmul (vq0_cost (vq0_basic x4.toNatClampNeg).toNatClampNeg) (vq0_table x4.toNatClampNeg x1.toNatClampNeg)), x4 + 1)))
def s_Sm_incoming_L20 (vq0_rows : Int32) (vq0_variables : Int32) (vq0_columns : Int32) (vq0_stepsDone : Int32) (vq0_table : Nat → Nat → UInt64) (vq0_cost : Nat → UInt64) (vq0_basic : Nat → Int32) (x1 : Int32) (x2 : UInt64) (x4 : Int32) : Option ((Int32) ⊕ ((Unit) ⊕ (Int32))) :=
  (loopO (fun (st : UInt64 × Int32) => s_Sm_incoming_B20 vq0_rows vq0_variables vq0_columns vq0_stepsDone vq0_table vq0_cost vq0_basic x1 st.1 st.2) 2000 (x2, x4)).bind fun ul20 => if 0 ≤ (Op.cmpValue (FP.dcmp ul20 13695778570484766357) .g) then (some (.inl (x1 + 1))) else (some (.inr (.inr x1)))
def s_Sm_incoming_B2 (vq0_rows : Int32) (vq0_variables : Int32) (vq0_columns : Int32) (vq0_stepsDone : Int32) (vq0_table : Nat → Nat → UInt64) (vq0_cost : Nat → UInt64) (vq0_basic : Nat → Int32) (x1 : Int32) : Option ((Int32) ⊕ ((Unit) ⊕ (Int32))) :=
  if vq0_variables ≤ x1 then (some (.inr (.inl ()))) else (gd (inb x1 13) <| s_Sm_incoming_L20 vq0_rows vq0_variables vq0_columns vq0_stepsDone vq0_table vq0_cost vq0_basic x1 (vq0_cost x1.toNatClampNeg) 0)
def s_Sm_incoming_L2 (vq0_rows : Int32) (vq0_variables : Int32) (vq0_columns : Int32) (vq0_stepsDone : Int32) (vq0_table : Nat → Nat → UInt64) (vq0_cost : Nat → UInt64) (vq0_basic : Nat → Int32) (x1 : Int32) : Option (Int32) :=
  (loopO (fun (st : Int32) => s_Sm_incoming_B2 vq0_rows vq0_variables vq0_columns vq0_stepsDone vq0_table vq0_cost vq0_basic st) 2000 x1).bind fun ul2 => Sum.elim (fun wl2 => some (-1)) (fun wl2 => some wl2) ul2
def s_Sm_incoming (vq0_rows : Int32) (vq0_variables : Int32) (vq0_columns : Int32) (vq0_stepsDone : Int32) (vq0_table : Nat → Nat → UInt64) (vq0_cost : Nat → UInt64) (vq0_basic : Nat → Int32) : Option (Int32) :=
  s_Sm_incoming_L2 vq0_rows vq0_variables vq0_columns vq0_stepsDone vq0_table vq0_cost vq0_basic 0
set_option maxHeartbeats 40000000 in
set_option maxRecDepth 100000 in
theorem c_Sm_incoming (l : Launch) (D : va_G) (T : Nat → ClassId) (q0 : Nat) (q0_problem : Nat) (q0_point : Nat) (q0_table : Nat) (q0_right : Nat) (q0_cost : Nat) (q0_basic : Nat) (Rq0_table : Nat → Nat) (vq0_rows : Int32) (vq0_variables : Int32) (vq0_columns : Int32) (vq0_stepsDone : Int32) (vq0_table : Nat → Nat → UInt64) (vq0_cost : Nat → UInt64) (vq0_basic : Nat → Int32) (rm : Int32) (h : s_Sm_incoming vq0_rows vq0_variables vq0_columns vq0_stepsDone vq0_table vq0_cost vq0_basic = some rm) : CtI l y_Sm_incoming (Cond.code y_Sm_incoming prog_7_method_7_code 5 (some .int) :: BIG) 0 0 D T [.ref q0] (w_Sm_incoming T q0 q0_problem q0_point q0_table q0_right q0_cost q0_basic Rq0_table vq0_rows vq0_variables vq0_columns vq0_stepsDone vq0_table vq0_cost vq0_basic) (fun r => r) (fun r => (w_Sm_incoming T q0 q0_problem q0_point q0_table q0_right q0_cost q0_basic Rq0_table vq0_rows vq0_variables vq0_columns vq0_stepsDone vq0_table vq0_cost vq0_basic)) rm := by
  refine cf_entry (y := y_Sm_incoming) (cc := prog_7_method_7_code) (nL := 5) (ret := (some .int)) (fr := 0) (lo := 0) (T := T) (av := [.ref q0]) (w := (w_Sm_incoming T q0 q0_problem q0_point q0_table q0_right q0_cost q0_basic Rq0_table vq0_rows vq0_variables vq0_columns vq0_stepsDone vq0_table vq0_cost vq0_basic)) (Qc := cfQi D (fun r => r) (fun r => (w_Sm_incoming T q0 q0_problem q0_point q0_table q0_right q0_cost q0_basic Rq0_table vq0_rows vq0_variables vq0_columns vq0_stepsDone vq0_table vq0_cost vq0_basic)) rm) (by decide) rfl (Nat.le_of_ble_eq_true rfl) ?_
  intro p e s m args below meth c A Q H locs ls hx hb hr hlocks hml hown hts hNW hK hA hQ hP hD hS hl
  have hown : s.vm.findClass "ConeForge$SimplexMethod" = some m.cls := hown
  have hl : lv_has ls 5 [(0, .ref q0)] := hl
  have L2 : ∀ (x1 : Int32), ∀ (H : Heap) (locs : List Loc) (ls : Array Slot), va_P D CL (w_Sm_incoming T q0 q0_problem q0_point q0_table q0_right q0_cost q0_basic Rq0_table vq0_rows vq0_variables vq0_columns vq0_stepsDone vq0_table vq0_cost vq0_basic) H → va_D A (w_Sm_incoming T q0 q0_problem q0_point q0_table q0_right q0_cost q0_basic Rq0_table vq0_rows vq0_variables vq0_columns vq0_stepsDone vq0_table vq0_cost vq0_basic) → va_S A s.heap H locs → lv_has ls 5 [(0, .ref q0), (1, .int x1)] → s_Sm_incoming_L2 vq0_rows vq0_variables vq0_columns vq0_stepsDone vq0_table vq0_cost vq0_basic x1 = some rm → W p l e (rmk 0 0) s m args below meth c H locs 0 0 Q (F0 m 2 ls []) := by
    intro x1 H locs ls hP hD hS hl h
    unfold s_Sm_incoming_L2 at h
    obtain ⟨ul2, hul2, h⟩ := bi_some h
    refine loopO_W (Wh := fun (st : Int32) => ∀ (H : Heap) (locs : List Loc) (ls : Array Slot), va_P D CL (w_Sm_incoming T q0 q0_problem q0_point q0_table q0_right q0_cost q0_basic Rq0_table vq0_rows vq0_variables vq0_columns vq0_stepsDone vq0_table vq0_cost vq0_basic) H → va_D A (w_Sm_incoming T q0 q0_problem q0_point q0_table q0_right q0_cost q0_basic Rq0_table vq0_rows vq0_variables vq0_columns vq0_stepsDone vq0_table vq0_cost vq0_basic) → va_S A s.heap H locs → lv_has ls 5 [(0, .ref q0), (1, .int st)] → W p l e (rmk 0 0) s m args below meth c H locs 0 0 Q (F0 m 2 ls [])) (Wx := fun (e0 : (Unit) ⊕ (Int32)) => Sum.elim (fun (e1 : Unit) => ∀ (H : Heap) (locs : List Loc) (ls : Array Slot), va_P D CL (w_Sm_incoming T q0 q0_problem q0_point q0_table q0_right q0_cost q0_basic Rq0_table vq0_rows vq0_variables vq0_columns vq0_stepsDone vq0_table vq0_cost vq0_basic) H → va_D A (w_Sm_incoming T q0 q0_problem q0_point q0_table q0_right q0_cost q0_basic Rq0_table vq0_rows vq0_variables vq0_columns vq0_stepsDone vq0_table vq0_cost vq0_basic) → va_S A s.heap H locs → lv_has ls 5 [] → W p l e (rmk 0 0) s m args below meth c H locs 0 0 Q (F0 m 76 ls [])) (fun e2 => e2 = rm) e0) ?_ 2000 _ ul2 hul2 ?_ H locs ls hP hD hS hl
    · intro st rb2 h kc2 kx2 H locs ls hP hD hS hl
      obtain ⟨x1, rfl⟩ : ∃ z, z = st := ⟨_, rfl⟩
      have h : s_Sm_incoming_B2 vq0_rows vq0_variables vq0_columns vq0_stepsDone vq0_table vq0_cost vq0_basic x1 = some rb2 := h
      have L20 : ∀ (x1 : Int32) (x2 : UInt64) (x4 : Int32), ∀ (H : Heap) (locs : List Loc) (ls : Array Slot), va_P D CL (w_Sm_incoming T q0 q0_problem q0_point q0_table q0_right q0_cost q0_basic Rq0_table vq0_rows vq0_variables vq0_columns vq0_stepsDone vq0_table vq0_cost vq0_basic) H → va_D A (w_Sm_incoming T q0 q0_problem q0_point q0_table q0_right q0_cost q0_basic Rq0_table vq0_rows vq0_variables vq0_columns vq0_stepsDone vq0_table vq0_cost vq0_basic) → va_S A s.heap H locs → lv_has ls 5 [(0, .ref q0), (1, .int x1), (2, .double x2), (4, .int x4)] → s_Sm_incoming_L20 vq0_rows vq0_variables vq0_columns vq0_stepsDone vq0_table vq0_cost vq0_basic x1 x2 x4 = some rb2 → W p l e (rmk 0 0) s m args below meth c H locs 0 0 Q (F0 m 20 ls []) := by
        intro x1 x2 x4 H locs ls hP hD hS hl h
        unfold s_Sm_incoming_L20 at h
        obtain ⟨ul20, hul20, h⟩ := bi_some h
        refine loopO_W (Wh := fun (st : UInt64 × Int32) => ∀ (H : Heap) (locs : List Loc) (ls : Array Slot), va_P D CL (w_Sm_incoming T q0 q0_problem q0_point q0_table q0_right q0_cost q0_basic Rq0_table vq0_rows vq0_variables vq0_columns vq0_stepsDone vq0_table vq0_cost vq0_basic) H → va_D A (w_Sm_incoming T q0 q0_problem q0_point q0_table q0_right q0_cost q0_basic Rq0_table vq0_rows vq0_variables vq0_columns vq0_stepsDone vq0_table vq0_cost vq0_basic) → va_S A s.heap H locs → lv_has ls 5 [(0, .ref q0), (1, .int x1), (2, .double st.1), (4, .int st.2)] → W p l e (rmk 0 0) s m args below meth c H locs 0 0 Q (F0 m 20 ls [])) (Wx := fun (e1 : UInt64) => ∀ (H : Heap) (locs : List Loc) (ls : Array Slot), va_P D CL (w_Sm_incoming T q0 q0_problem q0_point q0_table q0_right q0_cost q0_basic Rq0_table vq0_rows vq0_variables vq0_columns vq0_stepsDone vq0_table vq0_cost vq0_basic) H → va_D A (w_Sm_incoming T q0 q0_problem q0_point q0_table q0_right q0_cost q0_basic Rq0_table vq0_rows vq0_variables vq0_columns vq0_stepsDone vq0_table vq0_cost vq0_basic) → va_S A s.heap H locs → lv_has ls 5 [(0, .ref q0), (1, .int x1), (2, .double e1)] → W p l e (rmk 0 0) s m args below meth c H locs 0 0 Q (F0 m 60 ls [])) ?_ 2000 _ ul20 hul20 ?_ H locs ls hP hD hS hl
        · intro st rb20 h kc20 kx20 H locs ls hP hD hS hl
          obtain ⟨x2, x4⟩ := st
          have h : s_Sm_incoming_B20 vq0_rows vq0_variables vq0_columns vq0_stepsDone vq0_table vq0_cost vq0_basic x1 x2 x4 = some rb20 := h
          unfold s_Sm_incoming_B20 at h
          refine lv_iload hx hb d_Sm_incoming_20 (lv_at hl 3 rfl) ?_
          refine lv_aload_n hx hb d_Sm_incoming_22 rfl (lv_at hl 0 rfl) ?_
          refine va_get (D := D) (ci := 6) (v := .int vq0_rows) (C := "ConeForge$SimplexMethod") (T := FSm) (N := 10) hx hb hts iSm hown hK hP 0 rfl rfl 6 (by decide) (hts _ (bgc bw246)) (fun _ h9 => h9) rfl d_Sm_incoming_23 ?_
          refine lv_icmp_ge (tgt := 60) hx hb d_Sm_incoming_26 (by decide) (fun c1 => ?_) (fun c1 => ?_)
          · have h := it_t c1 h
            exact kx20 _ (Option.some.inj h).symm H locs ls hP hD hS (lv_sub hl [0, 1, 2] rfl)
          · have h := it_f c1 h
            refine lv_dload_n hx hb d_Sm_incoming_29 rfl (lv_at hl 2 rfl) ?_
            refine lv_aload_n hx hb d_Sm_incoming_30 rfl (lv_at hl 0 rfl) ?_
            refine va_get (D := D) (ci := 6) (v := .ref q0_cost) (C := "ConeForge$SimplexMethod") (T := FSm) (N := 10) hx hb hts iSm hown hK hP 0 rfl rfl 4 (by decide) (hts _ (bgc bw244)) (fun _ h9 => h9) rfl d_Sm_incoming_31 ?_
            refine lv_aload_n hx hb d_Sm_incoming_34 rfl (lv_at hl 0 rfl) ?_
            refine va_get (D := D) (ci := 6) (v := .ref q0_basic) (C := "ConeForge$SimplexMethod") (T := FSm) (N := 10) hx hb hts iSm hown hK hP 0 rfl rfl 5 (by decide) (hts _ (bgc bw245)) (fun _ h9 => h9) rfl d_Sm_incoming_35 ?_
            refine lv_iload hx hb d_Sm_incoming_38 (lv_at hl 3 rfl) ?_
            obtain ⟨g2, h⟩ := gd_some h
            refine va_iald hx hb hK hP 8 1 rfl rfl (inb_in g2) d_Sm_incoming_40 ?_
            obtain ⟨g3, h⟩ := gd_some h
            refine va_dald hx hb hK hP 7 0 rfl rfl (inb_in g3) d_Sm_incoming_41 ?_
            refine lv_aload_n hx hb d_Sm_incoming_42 rfl (lv_at hl 0 rfl) ?_
            refine va_get (D := D) (ci := 6) (v := .ref q0_table) (C := "ConeForge$SimplexMethod") (T := FSm) (N := 10) hx hb hts iSm hown hK hP 0 rfl rfl 2 (by decide) (hts _ (bgc bw242)) (fun _ h9 => h9) rfl d_Sm_incoming_43 ?_
            refine lv_iload hx hb d_Sm_incoming_46 (lv_at hl 3 rfl) ?_
            obtain ⟨g4, h⟩ := gd_some h
            refine va_aldg (f := Rq0_table) hx hb hK hP 1 3 rfl rfl (inb_in g4) d_Sm_incoming_48 ?_
            refine lv_iload_n hx hb d_Sm_incoming_49 rfl (lv_at hl 1 rfl) ?_
            obtain ⟨g5, h⟩ := gd_some h
            refine va_dald hx hb hK hP (2 + x4.toNatClampNeg) 0 (gk5 (P := fun k => (w_Sm_incoming T q0 q0_problem q0_point q0_table q0_right q0_cost q0_basic Rq0_table vq0_rows vq0_variables vq0_columns vq0_stepsDone vq0_table vq0_cost vq0_basic)[2 + k]? = some (Rq0_table k, .inl (T 0, 13, .inr (.inr (.inr (.inl (vq0_table k))))))) rfl rfl rfl rfl rfl _ (inb_lt g4)) rfl (inb_in g5) d_Sm_incoming_50 ?_
            obtain ⟨g6, h⟩ := gd_some h
            refine lv_dmul hx hb d_Sm_incoming_51 (isn_n g6) ?_
            obtain ⟨g7, h⟩ := gd_some h
            refine lv_dsub hx hb d_Sm_incoming_52 (isn_n g7) ?_
            refine lv_dstore_n (lv' := [(2, .double (FP.dsub x2 (FP.dmul (vq0_cost (vq0_basic x4.toNatClampNeg).toNatClampNeg) (vq0_table x4.toNatClampNeg x1.toNatClampNeg)))), (0, .ref q0), (1, .int x1), (4, .int x4)]) hx hb d_Sm_incoming_53 rfl hl (by decide) rfl (fun ls hl => ?_)
            refine lv_iinc (v := x4 + 1) (lv' := [(4, .int (x4 + 1)), (2, .double (FP.dsub x2 (FP.dmul (vq0_cost (vq0_basic x4.toNatClampNeg).toNatClampNeg) (vq0_table x4.toNatClampNeg x1.toNatClampNeg)))), (0, .ref q0), (1, .int x1)]) hx hb d_Sm_incoming_54 hl (k := 3) rfl rfl (by decide) rfl (fun ls hl => ?_)
            refine lv_goto (tgt := 20) hx hb d_Sm_incoming_57 (by decide) ?_
            exact kc20 _ (Option.some.inj h).symm H locs ls hP hD hS (lv_sub hl [2, 3, 1, 0] rfl)
        · intro H locs ls hP hD hS hl
          refine lv_dload_n hx hb d_Sm_incoming_60 rfl (lv_at hl 2 rfl) ?_
          refine lv_ldc2d (v := 13695778570484766357) hx hb hown (hts _ (bgc bw342)) d_Sm_incoming_61 ?_
          refine lv_dcmp hx hb d_Sm_incoming_64 ?_
          refine lv_if_ge (tgt := 70) hx hb d_Sm_incoming_65 (by decide) (fun c8 => ?_) (fun c8 => ?_)
          · have h := it_t c8 h
            refine lv_iinc (v := x1 + 1) (lv' := [(1, .int (x1 + 1)), (0, .ref q0), (2, .double ul20)]) hx hb d_Sm_incoming_70 hl (k := 1) rfl rfl (by decide) rfl (fun ls hl => ?_)
            refine lv_goto (tgt := 2) hx hb d_Sm_incoming_73 (by decide) ?_
            exact kc2 _ (Option.some.inj h).symm H locs ls hP hD hS (lv_sub hl [1, 0] rfl)
          · have h := it_f c8 h
            refine lv_iload_n hx hb d_Sm_incoming_68 rfl (lv_at hl 1 rfl) ?_
            exact rtI hx hb hr hlocks hQ (kx2 _ (Option.some.inj h).symm) hP hS d_Sm_incoming_69 rfl rfl
      unfold s_Sm_incoming_B2 at h
      refine lv_iload_n hx hb d_Sm_incoming_2 rfl (lv_at hl 1 rfl) ?_
      refine lv_aload_n hx hb d_Sm_incoming_3 rfl (lv_at hl 0 rfl) ?_
      refine va_get (D := D) (ci := 6) (v := .int vq0_variables) (C := "ConeForge$SimplexMethod") (T := FSm) (N := 10) hx hb hts iSm hown hK hP 0 rfl rfl 7 (by decide) (hts _ (bgc bw247)) (fun _ h9 => h9) rfl d_Sm_incoming_4 ?_
      refine lv_icmp_ge (tgt := 76) hx hb d_Sm_incoming_7 (by decide) (fun c9 => ?_) (fun c9 => ?_)
      · have h := it_t c9 h
        exact kx2 _ (Option.some.inj h).symm H locs ls hP hD hS (lv_sub hl [] rfl)
      · have h := it_f c9 h
        refine lv_aload_n hx hb d_Sm_incoming_10 rfl (lv_at hl 0 rfl) ?_
        refine va_get (D := D) (ci := 6) (v := .ref q0_cost) (C := "ConeForge$SimplexMethod") (T := FSm) (N := 10) hx hb hts iSm hown hK hP 0 rfl rfl 4 (by decide) (hts _ (bgc bw244)) (fun _ h9 => h9) rfl d_Sm_incoming_11 ?_
        refine lv_iload_n hx hb d_Sm_incoming_14 rfl (lv_at hl 1 rfl) ?_
        obtain ⟨g10, h⟩ := gd_some h
        refine va_dald hx hb hK hP 7 0 rfl rfl (inb_in g10) d_Sm_incoming_15 ?_
        refine lv_dstore_n (lv' := [(2, .double (vq0_cost x1.toNatClampNeg)), (0, .ref q0), (1, .int x1)]) hx hb d_Sm_incoming_16 rfl hl (by decide) rfl (fun ls hl => ?_)
        refine lv_iconst (v := 0) hx hb d_Sm_incoming_17 (by decide) ?_
        refine lv_istore (lv' := [(4, .int 0), (2, .double (vq0_cost x1.toNatClampNeg)), (0, .ref q0), (1, .int x1)]) hx hb d_Sm_incoming_18 hl (by decide) rfl (fun ls hl => ?_)
        exact L20 x1 (vq0_cost x1.toNatClampNeg) 0 H locs ls hP hD hS (lv_sub hl [2, 3, 1, 0] rfl) h
    · cases ul2 with
      | inl wl2 =>
        intro H locs ls hP hD hS hl
        refine lv_iconst (v := (-1)) hx hb d_Sm_incoming_76 (by decide) ?_
        exact rtI hx hb hr hlocks hQ (Option.some.inj h) hP hS d_Sm_incoming_77 rfl rfl
      | inr wl2 => exact Option.some.inj h
  unfold s_Sm_incoming at h
  refine lv_iconst (v := 0) hx hb d_Sm_incoming_0 (by decide) ?_
  refine lv_istore_n (lv' := [(1, .int 0), (0, .ref q0)]) hx hb d_Sm_incoming_1 rfl hl (by decide) rfl (fun ls hl => ?_)
  exact L2 0 H locs ls hP hD hS (lv_sub hl [1, 0] rfl) h
theorem d_Sm_leftover_0 : decode prog_7_method_9_code 0 = .ok (.iconst 0, 1) := by decide +kernel
theorem d_Sm_leftover_1 : decode prog_7_method_9_code 1 = .ok (.istore_n 2, 1) := by decide +kernel
theorem d_Sm_leftover_2 : decode prog_7_method_9_code 2 = .ok (.iload_n 2, 1) := by decide +kernel
theorem d_Sm_leftover_3 : decode prog_7_method_9_code 3 = .ok (.aload_n 0, 1) := by decide +kernel
theorem d_Sm_leftover_4 : decode prog_7_method_9_code 4 = .ok (.getfield 41, 3) := by decide +kernel
theorem d_Sm_leftover_7 : decode prog_7_method_9_code 7 = .ok (.if_icmp .ge 42, 3) := by decide +kernel
theorem d_Sm_leftover_10 : decode prog_7_method_9_code 10 = .ok (.aload_n 0, 1) := by decide +kernel
theorem d_Sm_leftover_11 : decode prog_7_method_9_code 11 = .ok (.getfield 37, 3) := by decide +kernel
theorem d_Sm_leftover_14 : decode prog_7_method_9_code 14 = .ok (.iload_n 2, 1) := by decide +kernel
theorem d_Sm_leftover_15 : decode prog_7_method_9_code 15 = .ok (.iaload, 1) := by decide +kernel
theorem d_Sm_leftover_16 : decode prog_7_method_9_code 16 = .ok (.aload_n 0, 1) := by decide +kernel
theorem d_Sm_leftover_17 : decode prog_7_method_9_code 17 = .ok (.getfield 45, 3) := by decide +kernel
theorem d_Sm_leftover_20 : decode prog_7_method_9_code 20 = .ok (.if_icmp .lt 23, 3) := by decide +kernel
theorem d_Sm_leftover_23 : decode prog_7_method_9_code 23 = .ok (.aload_n 0, 1) := by decide +kernel
theorem d_Sm_leftover_24 : decode prog_7_method_9_code 24 = .ok (.getfield 27, 3) := by decide +kernel
theorem d_Sm_leftover_27 : decode prog_7_method_9_code 27 = .ok (.iload_n 2, 1) := by decide +kernel
theorem d_Sm_leftover_28 : decode prog_7_method_9_code 28 = .ok (.aaload, 1) := by decide +kernel
theorem d_Sm_leftover_29 : decode prog_7_method_9_code 29 = .ok (.iload_n 1, 1) := by decide +kernel
theorem d_Sm_leftover_30 : decode prog_7_method_9_code 30 = .ok (.daload, 1) := by decide +kernel
theorem d_Sm_leftover_31 : decode prog_7_method_9_code 31 = .ok (.invokestatic 127, 3) := by decide +kernel
theorem d_Sm_leftover_34 : decode prog_7_method_9_code 34 = .ok (.ldc2_w 131, 3) := by decide +kernel
theorem d_Sm_leftover_37 : decode prog_7_method_9_code 37 = .ok (.dcmp .l, 1) := by decide +kernel
theorem d_Sm_leftover_38 : decode prog_7_method_9_code 38 = .ok (.ifCond .le 5, 3) := by decide +kernel
theorem d_Sm_leftover_41 : decode prog_7_method_9_code 41 = .ok (.iload_n 2, 1) := by decide +kernel
theorem d_Sm_leftover_42 : decode prog_7_method_9_code 42 = .ok (.ireturn, 1) := by decide +kernel
theorem d_Sm_leftover_43 : decode prog_7_method_9_code 43 = .ok (.iinc 2 1, 3) := by decide +kernel
theorem d_Sm_leftover_46 : decode prog_7_method_9_code 46 = .ok (.goto (-44), 3) := by decide +kernel
theorem d_Sm_leftover_49 : decode prog_7_method_9_code 49 = .ok (.iconst (-1), 1) := by decide +kernel
theorem d_Sm_leftover_50 : decode prog_7_method_9_code 50 = .ok (.ireturn, 1) := by decide +kernel
abbrev w_Sm_leftover (T : Nat → ClassId) (q0 : Nat) (q0_problem : Nat) (q0_point : Nat) (q0_table : Nat) (q0_right : Nat) (q0_cost : Nat) (q0_basic : Nat) (Rq0_table : Nat → Nat) (vq0_rows : Int32) (vq0_variables : Int32) (vq0_columns : Int32) (vq0_stepsDone : Int32) (vq0_table : Nat → Nat → UInt64) (vq0_basic : Nat → Int32) : va_W := [(q0, .inr (6, [.ref q0_problem, .ref q0_point, .ref q0_table, .ref q0_right, .ref q0_cost, .ref q0_basic, .int vq0_rows, .int vq0_variables, .int vq0_columns, .int vq0_stepsDone])), (q0_table, .inl (T 3, 5, .inr (.inr (.inr (.inr (fun i => some (Rq0_table i))))))), (Rq0_table 0, .inl (T 0, 13, .inr (.inr (.inr (.inl (vq0_table 0)))))), (Rq0_table 1, .inl (T 0, 13, .inr (.inr (.inr (.inl (vq0_table 1)))))), (Rq0_table 2, .inl (T 0, 13, .inr (.inr (.inr (.inl (vq0_table 2)))))), (Rq0_table 3, .inl (T 0, 13, .inr (.inr (.inr (.inl (vq0_table 3)))))), (Rq0_table 4, .inl (T 0, 13, .inr (.inr (.inr (.inl (vq0_table 4)))))), (q0_basic, .inl (T 1, 5, .inl vq0_basic))]
def s_Sm_leftover_J43 (vq0_rows : Int32) (vq0_variables : Int32) (vq0_columns : Int32) (vq0_stepsDone : Int32) (vq0_table : Nat → Nat → UInt64) (vq0_basic : Nat → Int32) (x1 : Int32) (x2 : Int32) : Option ((Int32) ⊕ ((Unit) ⊕ (Int32))) :=
  some (.inl (x2 + 1))
def s_Sm_leftover_B2 (vq0_rows : Int32) (vq0_variables : Int32) (vq0_columns : Int32) (vq0_stepsDone : Int32) (vq0_table : Nat → Nat → UInt64) (vq0_basic : Nat → Int32) (x1 : Int32) (x2 : Int32) : Option ((Int32) ⊕ ((Unit) ⊕ (Int32))) :=
  if vq0_rows ≤ x2 then (some (.inr (.inl ()))) else (gd (inb x2 5) <| if (vq0_basic x2.toNatClampNeg) < vq0_variables then (s_Sm_leftover_J43 vq0_rows vq0_variables vq0_columns vq0_stepsDone vq0_table vq0_basic x1 x2) else (gd (inb x2 5) <| gd (inb x1 13) <| (s_C_absolute (vq0_table x2.toNatClampNeg x1.toNatClampNeg)).bind fun u6 => if (Op.cmpValue (FP.dcmp u6 4472406533629990549) .l) ≤ 0 then (s_Sm_leftover_J43 vq0_rows vq0_variables vq0_columns vq0_stepsDone vq0_table vq0_basic x1 x2) else (some (.inr (.inr x2)))))
def s_Sm_leftover_L2 (vq0_rows : Int32) (vq0_variables : Int32) (vq0_columns : Int32) (vq0_stepsDone : Int32) (vq0_table : Nat → Nat → UInt64) (vq0_basic : Nat → Int32) (x1 : Int32) (x2 : Int32) : Option (Int32) :=
  (loopO (fun (st : Int32) => s_Sm_leftover_B2 vq0_rows vq0_variables vq0_columns vq0_stepsDone vq0_table vq0_basic x1 st) 2000 x2).bind fun ul2 => Sum.elim (fun wl2 => some (-1)) (fun wl2 => some wl2) ul2
def s_Sm_leftover (vq0_rows : Int32) (vq0_variables : Int32) (vq0_columns : Int32) (vq0_stepsDone : Int32) (vq0_table : Nat → Nat → UInt64) (vq0_basic : Nat → Int32) (x1 : Int32) : Option (Int32) :=
  s_Sm_leftover_L2 vq0_rows vq0_variables vq0_columns vq0_stepsDone vq0_table vq0_basic x1 0
set_option maxRecDepth 100000 in
theorem j_Sm_leftover_31 (T : Nat → ClassId) (q0 : Nat) (q0_problem : Nat) (q0_point : Nat) (q0_table : Nat) (q0_right : Nat) (q0_cost : Nat) (q0_basic : Nat) (Rq0_table : Nat → Nat) (vq0_rows : Int32) (vq0_variables : Int32) (vq0_columns : Int32) (vq0_stepsDone : Int32) (vq0_table : Nat → Nat → UInt64) (vq0_basic : Nat → Int32) : ([].map (fun (i : Nat) => (w_Sm_leftover T q0 q0_problem q0_point q0_table q0_right q0_cost q0_basic Rq0_table vq0_rows vq0_variables vq0_columns vq0_stepsDone vq0_table vq0_basic)[i]?) = (w_C_absolute T  ).map some) ∧ ([].map (fun (i : Nat) => (w_Sm_leftover T q0 q0_problem q0_point q0_table q0_right q0_cost q0_basic Rq0_table vq0_rows vq0_variables vq0_columns vq0_stepsDone vq0_table vq0_basic)[i]?) = (w_C_absolute T  ).map some) ∧ ([0, 1, 2, 3, 4, 5, 6, 7].map (fun (i : Nat) => (w_Sm_leftover T q0 q0_problem q0_point q0_table q0_right q0_cost q0_basic Rq0_table vq0_rows vq0_variables vq0_columns vq0_stepsDone vq0_table vq0_basic)[i]?) = [0, 1, 2, 3, 4, 5, 6, 7].map (fun (i : Nat) => (w_Sm_leftover T q0 q0_problem q0_point q0_table q0_right q0_cost q0_basic Rq0_table vq0_rows vq0_variables vq0_columns vq0_stepsDone vq0_table vq0_basic)[i]?)) ∧ (w_C_absolute T  ).map Prod.fst = (w_C_absolute T  ).map Prod.fst ∧ (w_Sm_leftover T q0 q0_problem q0_point q0_table q0_right q0_cost q0_basic Rq0_table vq0_rows vq0_variables vq0_columns vq0_stepsDone vq0_table vq0_basic).length = 8 :=
  ⟨rfl, rfl, Eq.trans (b := ([some (q0, .inr (6, [.ref q0_problem, .ref q0_point, .ref q0_table, .ref q0_right, .ref q0_cost, .ref q0_basic, .int vq0_rows, .int vq0_variables, .int vq0_columns, .int vq0_stepsDone])), some (q0_table, .inl (T 3, 5, .inr (.inr (.inr (.inr (fun i => some (Rq0_table i))))))), some (Rq0_table 0, .inl (T 0, 13, .inr (.inr (.inr (.inl (vq0_table 0)))))), some (Rq0_table 1, .inl (T 0, 13, .inr (.inr (.inr (.inl (vq0_table 1)))))), some (Rq0_table 2, .inl (T 0, 13, .inr (.inr (.inr (.inl (vq0_table 2)))))), some (Rq0_table 3, .inl (T 0, 13, .inr (.inr (.inr (.inl (vq0_table 3)))))), some (Rq0_table 4, .inl (T 0, 13, .inr (.inr (.inr (.inl (vq0_table 4)))))), some (q0_basic, .inl (T 1, 5, .inl vq0_basic))] : List (Option (Nat × va_E)))) rfl rfl, rfl, rfl⟩
set_option maxHeartbeats 40000000 in
set_option maxRecDepth 100000 in
theorem c_Sm_leftover (l : Launch) (D : va_G) (T : Nat → ClassId) (q0 : Nat) (q0_problem : Nat) (q0_point : Nat) (q0_table : Nat) (q0_right : Nat) (q0_cost : Nat) (q0_basic : Nat) (Rq0_table : Nat → Nat) (vq0_rows : Int32) (vq0_variables : Int32) (vq0_columns : Int32) (vq0_stepsDone : Int32) (vq0_table : Nat → Nat → UInt64) (vq0_basic : Nat → Int32) (x1 : Int32) (rm : Int32) (h : s_Sm_leftover vq0_rows vq0_variables vq0_columns vq0_stepsDone vq0_table vq0_basic x1 = some rm) : CtI l y_Sm_leftover (Cond.code y_Sm_leftover prog_7_method_9_code 3 (some .int) :: BIG) 1 21 D T [.ref q0, .int x1] (w_Sm_leftover T q0 q0_problem q0_point q0_table q0_right q0_cost q0_basic Rq0_table vq0_rows vq0_variables vq0_columns vq0_stepsDone vq0_table vq0_basic) (fun r => r) (fun r => (w_Sm_leftover T q0 q0_problem q0_point q0_table q0_right q0_cost q0_basic Rq0_table vq0_rows vq0_variables vq0_columns vq0_stepsDone vq0_table vq0_basic)) rm := by
  refine cf_entry (y := y_Sm_leftover) (cc := prog_7_method_9_code) (nL := 3) (ret := (some .int)) (fr := 1) (lo := 21) (T := T) (av := [.ref q0, .int x1]) (w := (w_Sm_leftover T q0 q0_problem q0_point q0_table q0_right q0_cost q0_basic Rq0_table vq0_rows vq0_variables vq0_columns vq0_stepsDone vq0_table vq0_basic)) (Qc := cfQi D (fun r => r) (fun r => (w_Sm_leftover T q0 q0_problem q0_point q0_table q0_right q0_cost q0_basic Rq0_table vq0_rows vq0_variables vq0_columns vq0_stepsDone vq0_table vq0_basic)) rm) (by decide) rfl (Nat.le_of_ble_eq_true rfl) ?_
  intro p e s m args below meth c A Q H locs ls hx hb hr hlocks hml hown hts hNW hK hA hQ hP hD hS hl
  have hown : s.vm.findClass "ConeForge$SimplexMethod" = some m.cls := hown
  have hl : lv_has ls 3 [(0, .ref q0), (1, .int x1)] := hl
  have L2 : ∀ (x1 : Int32) (x2 : Int32), ∀ (H : Heap) (locs : List Loc) (ls : Array Slot), va_P D CL (w_Sm_leftover T q0 q0_problem q0_point q0_table q0_right q0_cost q0_basic Rq0_table vq0_rows vq0_variables vq0_columns vq0_stepsDone vq0_table vq0_basic) H → va_D A (w_Sm_leftover T q0 q0_problem q0_point q0_table q0_right q0_cost q0_basic Rq0_table vq0_rows vq0_variables vq0_columns vq0_stepsDone vq0_table vq0_basic) → va_S A s.heap H locs → lv_has ls 3 [(0, .ref q0), (1, .int x1), (2, .int x2)] → s_Sm_leftover_L2 vq0_rows vq0_variables vq0_columns vq0_stepsDone vq0_table vq0_basic x1 x2 = some rm → W p l e (rmk 1 21) s m args below meth c H locs 0 0 Q (F0 m 2 ls []) := by
    intro x1 x2 H locs ls hP hD hS hl h
    unfold s_Sm_leftover_L2 at h
    obtain ⟨ul2, hul2, h⟩ := bi_some h
    refine loopO_W (Wh := fun (st : Int32) => ∀ (H : Heap) (locs : List Loc) (ls : Array Slot), va_P D CL (w_Sm_leftover T q0 q0_problem q0_point q0_table q0_right q0_cost q0_basic Rq0_table vq0_rows vq0_variables vq0_columns vq0_stepsDone vq0_table vq0_basic) H → va_D A (w_Sm_leftover T q0 q0_problem q0_point q0_table q0_right q0_cost q0_basic Rq0_table vq0_rows vq0_variables vq0_columns vq0_stepsDone vq0_table vq0_basic) → va_S A s.heap H locs → lv_has ls 3 [(0, .ref q0), (1, .int x1), (2, .int st)] → W p l e (rmk 1 21) s m args below meth c H locs 0 0 Q (F0 m 2 ls [])) (Wx := fun (e0 : (Unit) ⊕ (Int32)) => Sum.elim (fun (e1 : Unit) => ∀ (H : Heap) (locs : List Loc) (ls : Array Slot), va_P D CL (w_Sm_leftover T q0 q0_problem q0_point q0_table q0_right q0_cost q0_basic Rq0_table vq0_rows vq0_variables vq0_columns vq0_stepsDone vq0_table vq0_basic) H → va_D A (w_Sm_leftover T q0 q0_problem q0_point q0_table q0_right q0_cost q0_basic Rq0_table vq0_rows vq0_variables vq0_columns vq0_stepsDone vq0_table vq0_basic) → va_S A s.heap H locs → lv_has ls 3 [] → W p l e (rmk 1 21) s m args below meth c H locs 0 0 Q (F0 m 49 ls [])) (fun e2 => e2 = rm) e0) ?_ 2000 _ ul2 hul2 ?_ H locs ls hP hD hS hl
    · intro st rb2 h kc2 kx2 H locs ls hP hD hS hl
      obtain ⟨x2, rfl⟩ : ∃ z, z = st := ⟨_, rfl⟩
      have h : s_Sm_leftover_B2 vq0_rows vq0_variables vq0_columns vq0_stepsDone vq0_table vq0_basic x1 x2 = some rb2 := h
      have J43 : ∀ (x2 : Int32), ∀ (H : Heap) (locs : List Loc) (ls : Array Slot), va_P D CL (w_Sm_leftover T q0 q0_problem q0_point q0_table q0_right q0_cost q0_basic Rq0_table vq0_rows vq0_variables vq0_columns vq0_stepsDone vq0_table vq0_basic) H → va_D A (w_Sm_leftover T q0 q0_problem q0_point q0_table q0_right q0_cost q0_basic Rq0_table vq0_rows vq0_variables vq0_columns vq0_stepsDone vq0_table vq0_basic) → va_S A s.heap H locs → lv_has ls 3 [(0, .ref q0), (1, .int x1), (2, .int x2)] → s_Sm_leftover_J43 vq0_rows vq0_variables vq0_columns vq0_stepsDone vq0_table vq0_basic x1 x2 = some rb2 → W p l e (rmk 1 21) s m args below meth c H locs 0 0 Q (F0 m 43 ls []) := by
        intro x2 H locs ls hP hD hS hl h
        unfold s_Sm_leftover_J43 at h
        refine lv_iinc (v := x2 + 1) (lv' := [(2, .int (x2 + 1)), (0, .ref q0), (1, .int x1)]) hx hb d_Sm_leftover_43 hl (k := 2) rfl rfl (by decide) rfl (fun ls hl => ?_)
        refine lv_goto (tgt := 2) hx hb d_Sm_leftover_46 (by decide) ?_
        exact kc2 _ (Option.some.inj h).symm H locs ls hP hD hS (lv_sub hl [1, 2, 0] rfl)
      unfold s_Sm_leftover_B2 at h
      refine lv_iload_n hx hb d_Sm_leftover_2 rfl (lv_at hl 2 rfl) ?_
      refine lv_aload_n hx hb d_Sm_leftover_3 rfl (lv_at hl 0 rfl) ?_
      refine va_get (D := D) (ci := 6) (v := .int vq0_rows) (C := "ConeForge$SimplexMethod") (T := FSm) (N := 10) hx hb hts iSm hown hK hP 0 rfl rfl 6 (by decide) (hts _ (bgc bw246)) (fun _ h9 => h9) rfl d_Sm_leftover_4 ?_
      refine lv_icmp_ge (tgt := 49) hx hb d_Sm_leftover_7 (by decide) (fun c1 => ?_) (fun c1 => ?_)
      · have h := it_t c1 h
        exact kx2 _ (Option.some.inj h).symm H locs ls hP hD hS (lv_sub hl [] rfl)
      · have h := it_f c1 h
        refine lv_aload_n hx hb d_Sm_leftover_10 rfl (lv_at hl 0 rfl) ?_
        refine va_get (D := D) (ci := 6) (v := .ref q0_basic) (C := "ConeForge$SimplexMethod") (T := FSm) (N := 10) hx hb hts iSm hown hK hP 0 rfl rfl 5 (by decide) (hts _ (bgc bw245)) (fun _ h9 => h9) rfl d_Sm_leftover_11 ?_
        refine lv_iload_n hx hb d_Sm_leftover_14 rfl (lv_at hl 2 rfl) ?_
        obtain ⟨g2, h⟩ := gd_some h
        refine va_iald hx hb hK hP 7 1 rfl rfl (inb_in g2) d_Sm_leftover_15 ?_
        refine lv_aload_n hx hb d_Sm_leftover_16 rfl (lv_at hl 0 rfl) ?_
        refine va_get (D := D) (ci := 6) (v := .int vq0_variables) (C := "ConeForge$SimplexMethod") (T := FSm) (N := 10) hx hb hts iSm hown hK hP 0 rfl rfl 7 (by decide) (hts _ (bgc bw247)) (fun _ h9 => h9) rfl d_Sm_leftover_17 ?_
        refine lv_icmp_lt (tgt := 43) hx hb d_Sm_leftover_20 (by decide) (fun c3 => ?_) (fun c3 => ?_)
        · have h := it_t c3 h
          exact J43 x2 H locs ls hP hD hS (lv_sub hl [0, 1, 2] rfl) h
        · have h := it_f c3 h
          refine lv_aload_n hx hb d_Sm_leftover_23 rfl (lv_at hl 0 rfl) ?_
          refine va_get (D := D) (ci := 6) (v := .ref q0_table) (C := "ConeForge$SimplexMethod") (T := FSm) (N := 10) hx hb hts iSm hown hK hP 0 rfl rfl 2 (by decide) (hts _ (bgc bw242)) (fun _ h9 => h9) rfl d_Sm_leftover_24 ?_
          refine lv_iload_n hx hb d_Sm_leftover_27 rfl (lv_at hl 2 rfl) ?_
          obtain ⟨g4, h⟩ := gd_some h
          refine va_aldg (f := Rq0_table) hx hb hK hP 1 3 rfl rfl (inb_in g4) d_Sm_leftover_28 ?_
          refine lv_iload_n hx hb d_Sm_leftover_29 rfl (lv_at hl 1 rfl) ?_
          obtain ⟨g5, h⟩ := gd_some h
          refine va_dald hx hb hK hP (2 + x2.toNatClampNeg) 0 (gk5 (P := fun k => (w_Sm_leftover T q0 q0_problem q0_point q0_table q0_right q0_cost q0_basic Rq0_table vq0_rows vq0_variables vq0_columns vq0_stepsDone vq0_table vq0_basic)[2 + k]? = some (Rq0_table k, .inl (T 0, 13, .inr (.inr (.inr (.inl (vq0_table k))))))) rfl rfl rfl rfl rfl _ (inb_lt g4)) rfl (inb_in g5) d_Sm_leftover_30 ?_
          obtain ⟨u6, hu6, h⟩ := bi_some h
          have jj7 := j_Sm_leftover_31 T q0 q0_problem q0_point q0_table q0_right q0_cost q0_basic Rq0_table vq0_rows vq0_variables vq0_columns vq0_stepsDone vq0_table vq0_basic
          refine kD2 (v := u6) (wc := (w_C_absolute T  )) (wc' := (w_C_absolute T  )) (w_Sm_leftover T q0 q0_problem q0_point q0_table q0_right q0_cost q0_basic Rq0_table vq0_rows vq0_variables vq0_columns vq0_stepsDone vq0_table vq0_basic) (runNS (As := [.double (vq0_table x2.toNatClampNeg x1.toNatClampNeg)]) (rest := []) ((c_C_absolute l D T   (vq0_table x2.toNatClampNeg x1.toNatClampNeg) u6 hu6) H.size) ⟨hx, hb, hml, hown, hts⟩ (cwNS nw71 bw304 bw97 bw305 dd_C_absolute hts hNW ⟨Nat.le_of_ble_eq_true rfl, Nat.le_of_ble_eq_true rfl⟩)  hNW hK hP hD [] jj7.1 (by decide) rfl hl.1 rfl (lv_room (Nat.le_of_ble_eq_true rfl)) d_Sm_leftover_31 ⟨Nat.le_of_ble_eq_true rfl, Nat.le_of_ble_eq_true rfl⟩) hP hD hS hA [] [0, 1, 2, 3, 4, 5, 6, 7] jj7.1 jj7.2.1 jj7.2.2.1 (N := 8) jj7.2.2.2.2 (by decide) jj7.2.2.2.1 (fun H locs hP hD hS => ?_)
          refine lv_ldc2d (v := 4472406533629990549) hx hb hown (hts _ (bgc bw349)) d_Sm_leftover_34 ?_
          refine lv_dcmp hx hb d_Sm_leftover_37 ?_
          refine lv_if_le (tgt := 43) hx hb d_Sm_leftover_38 (by decide) (fun c8 => ?_) (fun c8 => ?_)
          · have h := it_t c8 h
            exact J43 x2 H locs ls hP hD hS (lv_sub hl [0, 1, 2] rfl) h
          · have h := it_f c8 h
            refine lv_iload_n hx hb d_Sm_leftover_41 rfl (lv_at hl 2 rfl) ?_
            exact rtI hx hb hr hlocks hQ (kx2 _ (Option.some.inj h).symm) hP hS d_Sm_leftover_42 rfl rfl
    · cases ul2 with
      | inl wl2 =>
        intro H locs ls hP hD hS hl
        refine lv_iconst (v := (-1)) hx hb d_Sm_leftover_49 (by decide) ?_
        exact rtI hx hb hr hlocks hQ (Option.some.inj h) hP hS d_Sm_leftover_50 rfl rfl
      | inr wl2 => exact Option.some.inj h
  unfold s_Sm_leftover at h
  refine lv_iconst (v := 0) hx hb d_Sm_leftover_0 (by decide) ?_
  refine lv_istore_n (lv' := [(2, .int 0), (0, .ref q0), (1, .int x1)]) hx hb d_Sm_leftover_1 rfl hl (by decide) rfl (fun ls hl => ?_)
  exact L2 x1 0 H locs ls hP hD hS (lv_sub hl [1, 2, 0] rfl) h
theorem d_Sm_tightest_0 : decode prog_7_method_10_code 0 = .ok (.iconst (-1), 1) := by decide +kernel
theorem d_Sm_tightest_1 : decode prog_7_method_10_code 1 = .ok (.istore_n 2, 1) := by decide +kernel
theorem d_Sm_tightest_2 : decode prog_7_method_10_code 2 = .ok (.dconst 0, 1) := by decide +kernel
theorem d_Sm_tightest_3 : decode prog_7_method_10_code 3 = .ok (.dstore_n 3, 1) := by decide +kernel
theorem d_Sm_tightest_4 : decode prog_7_method_10_code 4 = .ok (.iconst 0, 1) := by decide +kernel
theorem d_Sm_tightest_5 : decode prog_7_method_10_code 5 = .ok (.istore 5, 2) := by decide +kernel
theorem d_Sm_tightest_7 : decode prog_7_method_10_code 7 = .ok (.iload 5, 2) := by decide +kernel
theorem d_Sm_tightest_9 : decode prog_7_method_10_code 9 = .ok (.aload_n 0, 1) := by decide +kernel
theorem d_Sm_tightest_10 : decode prog_7_method_10_code 10 = .ok (.getfield 41, 3) := by decide +kernel
theorem d_Sm_tightest_13 : decode prog_7_method_10_code 13 = .ok (.if_icmp .ge 84, 3) := by decide +kernel
theorem d_Sm_tightest_16 : decode prog_7_method_10_code 16 = .ok (.aload_n 0, 1) := by decide +kernel
theorem d_Sm_tightest_17 : decode prog_7_method_10_code 17 = .ok (.getfield 27, 3) := by decide +kernel
theorem d_Sm_tightest_20 : decode prog_7_method_10_code 20 = .ok (.iload 5, 2) := by decide +kernel
theorem d_Sm_tightest_22 : decode prog_7_method_10_code 22 = .ok (.aaload, 1) := by decide +kernel
theorem d_Sm_tightest_23 : decode prog_7_method_10_code 23 = .ok (.iload_n 1, 1) := by decide +kernel
theorem d_Sm_tightest_24 : decode prog_7_method_10_code 24 = .ok (.daload, 1) := by decide +kernel
theorem d_Sm_tightest_25 : decode prog_7_method_10_code 25 = .ok (.ldc2_w 131, 3) := by decide +kernel
theorem d_Sm_tightest_28 : decode prog_7_method_10_code 28 = .ok (.dcmp .l, 1) := by decide +kernel
theorem d_Sm_tightest_29 : decode prog_7_method_10_code 29 = .ok (.ifCond .le 62, 3) := by decide +kernel
theorem d_Sm_tightest_32 : decode prog_7_method_10_code 32 = .ok (.aload_n 0, 1) := by decide +kernel
theorem d_Sm_tightest_33 : decode prog_7_method_10_code 33 = .ok (.getfield 30, 3) := by decide +kernel
theorem d_Sm_tightest_36 : decode prog_7_method_10_code 36 = .ok (.iload 5, 2) := by decide +kernel
theorem d_Sm_tightest_38 : decode prog_7_method_10_code 38 = .ok (.daload, 1) := by decide +kernel
theorem d_Sm_tightest_39 : decode prog_7_method_10_code 39 = .ok (.aload_n 0, 1) := by decide +kernel
theorem d_Sm_tightest_40 : decode prog_7_method_10_code 40 = .ok (.getfield 27, 3) := by decide +kernel
theorem d_Sm_tightest_43 : decode prog_7_method_10_code 43 = .ok (.iload 5, 2) := by decide +kernel
theorem d_Sm_tightest_45 : decode prog_7_method_10_code 45 = .ok (.aaload, 1) := by decide +kernel
theorem d_Sm_tightest_46 : decode prog_7_method_10_code 46 = .ok (.iload_n 1, 1) := by decide +kernel
theorem d_Sm_tightest_47 : decode prog_7_method_10_code 47 = .ok (.daload, 1) := by decide +kernel
theorem d_Sm_tightest_48 : decode prog_7_method_10_code 48 = .ok (.ddiv, 1) := by decide +kernel
theorem d_Sm_tightest_49 : decode prog_7_method_10_code 49 = .ok (.dstore 6, 2) := by decide +kernel
theorem d_Sm_tightest_51 : decode prog_7_method_10_code 51 = .ok (.iload_n 2, 1) := by decide +kernel
theorem d_Sm_tightest_52 : decode prog_7_method_10_code 52 = .ok (.ifCond .lt 33, 3) := by decide +kernel
theorem d_Sm_tightest_55 : decode prog_7_method_10_code 55 = .ok (.dload 6, 2) := by decide +kernel
theorem d_Sm_tightest_57 : decode prog_7_method_10_code 57 = .ok (.dload_n 3, 1) := by decide +kernel
theorem d_Sm_tightest_58 : decode prog_7_method_10_code 58 = .ok (.dcmp .g, 1) := by decide +kernel
theorem d_Sm_tightest_59 : decode prog_7_method_10_code 59 = .ok (.ifCond .lt 26, 3) := by decide +kernel
theorem d_Sm_tightest_62 : decode prog_7_method_10_code 62 = .ok (.dload 6, 2) := by decide +kernel
theorem d_Sm_tightest_64 : decode prog_7_method_10_code 64 = .ok (.dload_n 3, 1) := by decide +kernel
theorem d_Sm_tightest_65 : decode prog_7_method_10_code 65 = .ok (.dcmp .l, 1) := by decide +kernel
theorem d_Sm_tightest_66 : decode prog_7_method_10_code 66 = .ok (.ifCond .ne 25, 3) := by decide +kernel
theorem d_Sm_tightest_69 : decode prog_7_method_10_code 69 = .ok (.aload_n 0, 1) := by decide +kernel
theorem d_Sm_tightest_70 : decode prog_7_method_10_code 70 = .ok (.getfield 37, 3) := by decide +kernel
theorem d_Sm_tightest_73 : decode prog_7_method_10_code 73 = .ok (.iload 5, 2) := by decide +kernel
theorem d_Sm_tightest_75 : decode prog_7_method_10_code 75 = .ok (.iaload, 1) := by decide +kernel
theorem d_Sm_tightest_76 : decode prog_7_method_10_code 76 = .ok (.aload_n 0, 1) := by decide +kernel
theorem d_Sm_tightest_77 : decode prog_7_method_10_code 77 = .ok (.getfield 37, 3) := by decide +kernel
theorem d_Sm_tightest_80 : decode prog_7_method_10_code 80 = .ok (.iload_n 2, 1) := by decide +kernel
theorem d_Sm_tightest_81 : decode prog_7_method_10_code 81 = .ok (.iaload, 1) := by decide +kernel
theorem d_Sm_tightest_82 : decode prog_7_method_10_code 82 = .ok (.if_icmp .ge 9, 3) := by decide +kernel
theorem d_Sm_tightest_85 : decode prog_7_method_10_code 85 = .ok (.iload 5, 2) := by decide +kernel
theorem d_Sm_tightest_87 : decode prog_7_method_10_code 87 = .ok (.istore_n 2, 1) := by decide +kernel
theorem d_Sm_tightest_88 : decode prog_7_method_10_code 88 = .ok (.dload 6, 2) := by decide +kernel
theorem d_Sm_tightest_90 : decode prog_7_method_10_code 90 = .ok (.dstore_n 3, 1) := by decide +kernel
theorem d_Sm_tightest_91 : decode prog_7_method_10_code 91 = .ok (.iinc 5 1, 3) := by decide +kernel
theorem d_Sm_tightest_94 : decode prog_7_method_10_code 94 = .ok (.goto (-87), 3) := by decide +kernel
theorem d_Sm_tightest_97 : decode prog_7_method_10_code 97 = .ok (.iload_n 2, 1) := by decide +kernel
theorem d_Sm_tightest_98 : decode prog_7_method_10_code 98 = .ok (.ireturn, 1) := by decide +kernel
abbrev w_Sm_tightest (T : Nat → ClassId) (q0 : Nat) (q0_problem : Nat) (q0_point : Nat) (q0_table : Nat) (q0_right : Nat) (q0_cost : Nat) (q0_basic : Nat) (Rq0_table : Nat → Nat) (vq0_rows : Int32) (vq0_variables : Int32) (vq0_columns : Int32) (vq0_stepsDone : Int32) (vq0_table : Nat → Nat → UInt64) (vq0_right : Nat → UInt64) (vq0_basic : Nat → Int32) : va_W := [(q0, .inr (6, [.ref q0_problem, .ref q0_point, .ref q0_table, .ref q0_right, .ref q0_cost, .ref q0_basic, .int vq0_rows, .int vq0_variables, .int vq0_columns, .int vq0_stepsDone])), (q0_table, .inl (T 3, 5, .inr (.inr (.inr (.inr (fun i => some (Rq0_table i))))))), (Rq0_table 0, .inl (T 0, 13, .inr (.inr (.inr (.inl (vq0_table 0)))))), (Rq0_table 1, .inl (T 0, 13, .inr (.inr (.inr (.inl (vq0_table 1)))))), (Rq0_table 2, .inl (T 0, 13, .inr (.inr (.inr (.inl (vq0_table 2)))))), (Rq0_table 3, .inl (T 0, 13, .inr (.inr (.inr (.inl (vq0_table 3)))))), (Rq0_table 4, .inl (T 0, 13, .inr (.inr (.inr (.inl (vq0_table 4)))))), (q0_right, .inl (T 0, 5, .inr (.inr (.inr (.inl vq0_right))))), (q0_basic, .inl (T 1, 5, .inl vq0_basic))]
def s_Sm_tightest_J91 (vq0_rows : Int32) (vq0_variables : Int32) (vq0_columns : Int32) (vq0_stepsDone : Int32) (vq0_table : Nat → Nat → UInt64) (vq0_right : Nat → UInt64) (vq0_basic : Nat → Int32) (x1 : Int32) (x2 : Int32) (x3 : UInt64) (x5 : Int32) : Option ((Int32 × UInt64 × Int32) ⊕ (Int32)) :=
  some (.inl (x2, x3, x5 + 1))
def s_Sm_tightest_J85 (vq0_rows : Int32) (vq0_variables : Int32) (vq0_columns : Int32) (vq0_stepsDone : Int32) (vq0_table : Nat → Nat → UInt64) (vq0_right : Nat → UInt64) (vq0_basic : Nat → Int32) (x1 : Int32) (x5 : Int32) (x6 : UInt64) : Option ((Int32 × UInt64 × Int32) ⊕ (Int32)) :=
  s_Sm_tightest_J91 vq0_rows vq0_variables vq0_columns vq0_stepsDone vq0_table vq0_right vq0_basic x1 x5 x6 x5
def s_Sm_tightest_B7 (vq0_rows : Int32) (vq0_variables : Int32) (vq0_columns : Int32) (vq0_stepsDone : Int32) (vq0_table : Nat → Nat → UInt64) (vq0_right : Nat → UInt64) (vq0_basic : Nat → Int32) (x1 : Int32) (x2 : Int32) (x3 : UInt64) (x5 : Int32) : Option ((Int32 × UInt64 × Int32) ⊕ (Int32)) :=
  if vq0_rows ≤ x5 then (some (.inr x2)) else (gd (inb x5 5) <| gd (inb x1 13) <| if (Op.cmpValue (FP.dcmp (vq0_table x5.toNatClampNeg x1.toNatClampNeg) 4472406533629990549) .l) ≤ 0 then (s_Sm_tightest_J91 vq0_rows vq0_variables vq0_columns vq0_stepsDone vq0_table vq0_right vq0_basic x1 x2 x3 x5) else (gd (inb x5 5) <| gd (inb x5 5) <| gd (inb x1 13) <| gd (isn (FP.ddiv (vq0_right x5.toNatClampNeg) (vq0_table x5.toNatClampNeg x1.toNatClampNeg))) <| if x2 < 0 then (s_Sm_tightest_J85 vq0_rows vq0_variables vq0_columns vq0_stepsDone vq0_table vq0_right vq0_basic x1 x5 (FP.ddiv (vq0_right x5.toNatClampNeg) (vq0_table x5.toNatClampNeg x1.toNatClampNeg))) else (if (Op.cmpValue (FP.dcmp (FP.ddiv (vq0_right x5.toNatClampNeg) (vq0_table x5.toNatClampNeg x1.toNatClampNeg)) x3) .g) < 0 then (s_Sm_tightest_J85 vq0_rows vq0_variables vq0_columns vq0_stepsDone vq0_table vq0_right vq0_basic x1 x5 (FP.ddiv (vq0_right x5.toNatClampNeg) (vq0_table x5.toNatClampNeg x1.toNatClampNeg))) else (if (Op.cmpValue (FP.dcmp (FP.ddiv (vq0_right x5.toNatClampNeg) (vq0_table x5.toNatClampNeg x1.toNatClampNeg)) x3) .l) = 0 then (gd (inb x5 5) <| gd (inb x2 5) <| if (vq0_basic x2.toNatClampNeg) ≤ (vq0_basic x5.toNatClampNeg) then (s_Sm_tightest_J91 vq0_rows vq0_variables vq0_columns vq0_stepsDone vq0_table vq0_right vq0_basic x1 x2 x3 x5) else (s_Sm_tightest_J85 vq0_rows vq0_variables vq0_columns vq0_stepsDone vq0_table vq0_right vq0_basic x1 x5 (FP.ddiv (vq0_right x5.toNatClampNeg) (vq0_table x5.toNatClampNeg x1.toNatClampNeg)))) else (s_Sm_tightest_J91 vq0_rows vq0_variables vq0_columns vq0_stepsDone vq0_table vq0_right vq0_basic x1 x2 x3 x5)))))
def s_Sm_tightest_L7 (vq0_rows : Int32) (vq0_variables : Int32) (vq0_columns : Int32) (vq0_stepsDone : Int32) (vq0_table : Nat → Nat → UInt64) (vq0_right : Nat → UInt64) (vq0_basic : Nat → Int32) (x1 : Int32) (x2 : Int32) (x3 : UInt64) (x5 : Int32) : Option (Int32) :=
  (loopO (fun (st : Int32 × UInt64 × Int32) => s_Sm_tightest_B7 vq0_rows vq0_variables vq0_columns vq0_stepsDone vq0_table vq0_right vq0_basic x1 st.1 st.2.1 st.2.2) 2000 (x2, x3, x5)).bind fun ul7 => some ul7
def s_Sm_tightest (vq0_rows : Int32) (vq0_variables : Int32) (vq0_columns : Int32) (vq0_stepsDone : Int32) (vq0_table : Nat → Nat → UInt64) (vq0_right : Nat → UInt64) (vq0_basic : Nat → Int32) (x1 : Int32) : Option (Int32) :=
  s_Sm_tightest_L7 vq0_rows vq0_variables vq0_columns vq0_stepsDone vq0_table vq0_right vq0_basic x1 (-1) FP.dconst0 0
set_option maxHeartbeats 40000000 in
set_option maxRecDepth 100000 in
theorem c_Sm_tightest (l : Launch) (D : va_G) (T : Nat → ClassId) (q0 : Nat) (q0_problem : Nat) (q0_point : Nat) (q0_table : Nat) (q0_right : Nat) (q0_cost : Nat) (q0_basic : Nat) (Rq0_table : Nat → Nat) (vq0_rows : Int32) (vq0_variables : Int32) (vq0_columns : Int32) (vq0_stepsDone : Int32) (vq0_table : Nat → Nat → UInt64) (vq0_right : Nat → UInt64) (vq0_basic : Nat → Int32) (x1 : Int32) (rm : Int32) (h : s_Sm_tightest vq0_rows vq0_variables vq0_columns vq0_stepsDone vq0_table vq0_right vq0_basic x1 = some rm) : CtI l y_Sm_tightest (Cond.code y_Sm_tightest prog_7_method_10_code 8 (some .int) :: BIG) 0 0 D T [.ref q0, .int x1] (w_Sm_tightest T q0 q0_problem q0_point q0_table q0_right q0_cost q0_basic Rq0_table vq0_rows vq0_variables vq0_columns vq0_stepsDone vq0_table vq0_right vq0_basic) (fun r => r) (fun r => (w_Sm_tightest T q0 q0_problem q0_point q0_table q0_right q0_cost q0_basic Rq0_table vq0_rows vq0_variables vq0_columns vq0_stepsDone vq0_table vq0_right vq0_basic)) rm := by
  refine cf_entry (y := y_Sm_tightest) (cc := prog_7_method_10_code) (nL := 8) (ret := (some .int)) (fr := 0) (lo := 0) (T := T) (av := [.ref q0, .int x1]) (w := (w_Sm_tightest T q0 q0_problem q0_point q0_table q0_right q0_cost q0_basic Rq0_table vq0_rows vq0_variables vq0_columns vq0_stepsDone vq0_table vq0_right vq0_basic)) (Qc := cfQi D (fun r => r) (fun r => (w_Sm_tightest T q0 q0_problem q0_point q0_table q0_right q0_cost q0_basic Rq0_table vq0_rows vq0_variables vq0_columns vq0_stepsDone vq0_table vq0_right vq0_basic)) rm) (by decide) rfl (Nat.le_of_ble_eq_true rfl) ?_
  intro p e s m args below meth c A Q H locs ls hx hb hr hlocks hml hown hts hNW hK hA hQ hP hD hS hl
  have hown : s.vm.findClass "ConeForge$SimplexMethod" = some m.cls := hown
  have hl : lv_has ls 8 [(0, .ref q0), (1, .int x1)] := hl
  have L7 : ∀ (x1 : Int32) (x2 : Int32) (x3 : UInt64) (x5 : Int32), ∀ (H : Heap) (locs : List Loc) (ls : Array Slot), va_P D CL (w_Sm_tightest T q0 q0_problem q0_point q0_table q0_right q0_cost q0_basic Rq0_table vq0_rows vq0_variables vq0_columns vq0_stepsDone vq0_table vq0_right vq0_basic) H → va_D A (w_Sm_tightest T q0 q0_problem q0_point q0_table q0_right q0_cost q0_basic Rq0_table vq0_rows vq0_variables vq0_columns vq0_stepsDone vq0_table vq0_right vq0_basic) → va_S A s.heap H locs → lv_has ls 8 [(0, .ref q0), (1, .int x1), (2, .int x2), (3, .double x3), (5, .int x5)] → s_Sm_tightest_L7 vq0_rows vq0_variables vq0_columns vq0_stepsDone vq0_table vq0_right vq0_basic x1 x2 x3 x5 = some rm → W p l e (rmk 0 0) s m args below meth c H locs 0 0 Q (F0 m 7 ls []) := by
    intro x1 x2 x3 x5 H locs ls hP hD hS hl h
    unfold s_Sm_tightest_L7 at h
    obtain ⟨ul7, hul7, h⟩ := bi_some h
    refine loopO_W (Wh := fun (st : Int32 × UInt64 × Int32) => ∀ (H : Heap) (locs : List Loc) (ls : Array Slot), va_P D CL (w_Sm_tightest T q0 q0_problem q0_point q0_table q0_right q0_cost q0_basic Rq0_table vq0_rows vq0_variables vq0_columns vq0_stepsDone vq0_table vq0_right vq0_basic) H → va_D A (w_Sm_tightest T q0 q0_problem q0_point q0_table q0_right q0_cost q0_basic Rq0_table vq0_rows vq0_variables vq0_columns vq0_stepsDone vq0_table vq0_right vq0_basic) → va_S A s.heap H locs → lv_has ls 8 [(0, .ref q0), (1, .int x1), (2, .int st.1), (3, .double st.2.1), (5, .int st.2.2)] → W p l e (rmk 0 0) s m args below meth c H locs 0 0 Q (F0 m 7 ls [])) (Wx := fun (e1 : Int32) => ∀ (H : Heap) (locs : List Loc) (ls : Array Slot), va_P D CL (w_Sm_tightest T q0 q0_problem q0_point q0_table q0_right q0_cost q0_basic Rq0_table vq0_rows vq0_variables vq0_columns vq0_stepsDone vq0_table vq0_right vq0_basic) H → va_D A (w_Sm_tightest T q0 q0_problem q0_point q0_table q0_right q0_cost q0_basic Rq0_table vq0_rows vq0_variables vq0_columns vq0_stepsDone vq0_table vq0_right vq0_basic) → va_S A s.heap H locs → lv_has ls 8 [(2, .int e1)] → W p l e (rmk 0 0) s m args below meth c H locs 0 0 Q (F0 m 97 ls [])) ?_ 2000 _ ul7 hul7 ?_ H locs ls hP hD hS hl
    · intro st rb7 h kc7 kx7 H locs ls hP hD hS hl
      obtain ⟨x2, x3, x5⟩ := st
      have h : s_Sm_tightest_B7 vq0_rows vq0_variables vq0_columns vq0_stepsDone vq0_table vq0_right vq0_basic x1 x2 x3 x5 = some rb7 := h
      have J91 : ∀ (x2 : Int32) (x3 : UInt64) (x5 : Int32), ∀ (H : Heap) (locs : List Loc) (ls : Array Slot), va_P D CL (w_Sm_tightest T q0 q0_problem q0_point q0_table q0_right q0_cost q0_basic Rq0_table vq0_rows vq0_variables vq0_columns vq0_stepsDone vq0_table vq0_right vq0_basic) H → va_D A (w_Sm_tightest T q0 q0_problem q0_point q0_table q0_right q0_cost q0_basic Rq0_table vq0_rows vq0_variables vq0_columns vq0_stepsDone vq0_table vq0_right vq0_basic) → va_S A s.heap H locs → lv_has ls 8 [(0, .ref q0), (1, .int x1), (2, .int x2), (3, .double x3), (5, .int x5)] → s_Sm_tightest_J91 vq0_rows vq0_variables vq0_columns vq0_stepsDone vq0_table vq0_right vq0_basic x1 x2 x3 x5 = some rb7 → W p l e (rmk 0 0) s m args below meth c H locs 0 0 Q (F0 m 91 ls []) := by
        intro x2 x3 x5 H locs ls hP hD hS hl h
        unfold s_Sm_tightest_J91 at h
        refine lv_iinc (v := x5 + 1) (lv' := [(5, .int (x5 + 1)), (0, .ref q0), (1, .int x1), (2, .int x2), (3, .double x3)]) hx hb d_Sm_tightest_91 hl (k := 4) rfl rfl (by decide) rfl (fun ls hl => ?_)
        refine lv_goto (tgt := 7) hx hb d_Sm_tightest_94 (by decide) ?_
        exact kc7 _ (Option.some.inj h).symm H locs ls hP hD hS (lv_sub hl [1, 2, 3, 4, 0] rfl)
      have J85 : ∀ (x5 : Int32) (x6 : UInt64), ∀ (H : Heap) (locs : List Loc) (ls : Array Slot), va_P D CL (w_Sm_tightest T q0 q0_problem q0_point q0_table q0_right q0_cost q0_basic Rq0_table vq0_rows vq0_variables vq0_columns vq0_stepsDone vq0_table vq0_right vq0_basic) H → va_D A (w_Sm_tightest T q0 q0_problem q0_point q0_table q0_right q0_cost q0_basic Rq0_table vq0_rows vq0_variables vq0_columns vq0_stepsDone vq0_table vq0_right vq0_basic) → va_S A s.heap H locs → lv_has ls 8 [(0, .ref q0), (1, .int x1), (5, .int x5), (6, .double x6)] → s_Sm_tightest_J85 vq0_rows vq0_variables vq0_columns vq0_stepsDone vq0_table vq0_right vq0_basic x1 x5 x6 = some rb7 → W p l e (rmk 0 0) s m args below meth c H locs 0 0 Q (F0 m 85 ls []) := by
        intro x5 x6 H locs ls hP hD hS hl h
        unfold s_Sm_tightest_J85 at h
        refine lv_iload hx hb d_Sm_tightest_85 (lv_at hl 2 rfl) ?_
        refine lv_istore_n (lv' := [(2, .int x5), (0, .ref q0), (1, .int x1), (5, .int x5), (6, .double x6)]) hx hb d_Sm_tightest_87 rfl hl (by decide) rfl (fun ls hl => ?_)
        refine lv_dload hx hb d_Sm_tightest_88 (lv_at hl 4 rfl) ?_
        refine lv_dstore_n (lv' := [(3, .double x6), (2, .int x5), (0, .ref q0), (1, .int x1), (5, .int x5), (6, .double x6)]) hx hb d_Sm_tightest_90 rfl hl (by decide) rfl (fun ls hl => ?_)
        exact J91 x5 x6 x5 H locs ls hP hD hS (lv_sub hl [2, 3, 1, 0, 4] rfl) h
      unfold s_Sm_tightest_B7 at h
      refine lv_iload hx hb d_Sm_tightest_7 (lv_at hl 4 rfl) ?_
      refine lv_aload_n hx hb d_Sm_tightest_9 rfl (lv_at hl 0 rfl) ?_
      refine va_get (D := D) (ci := 6) (v := .int vq0_rows) (C := "ConeForge$SimplexMethod") (T := FSm) (N := 10) hx hb hts iSm hown hK hP 0 rfl rfl 6 (by decide) (hts _ (bgc bw246)) (fun _ h9 => h9) rfl d_Sm_tightest_10 ?_
      refine lv_icmp_ge (tgt := 97) hx hb d_Sm_tightest_13 (by decide) (fun c1 => ?_) (fun c1 => ?_)
      · have h := it_t c1 h
        exact kx7 _ (Option.some.inj h).symm H locs ls hP hD hS (lv_sub hl [2] rfl)
      · have h := it_f c1 h
        refine lv_aload_n hx hb d_Sm_tightest_16 rfl (lv_at hl 0 rfl) ?_
        refine va_get (D := D) (ci := 6) (v := .ref q0_table) (C := "ConeForge$SimplexMethod") (T := FSm) (N := 10) hx hb hts iSm hown hK hP 0 rfl rfl 2 (by decide) (hts _ (bgc bw242)) (fun _ h9 => h9) rfl d_Sm_tightest_17 ?_
        refine lv_iload hx hb d_Sm_tightest_20 (lv_at hl 4 rfl) ?_
        obtain ⟨g2, h⟩ := gd_some h
        refine va_aldg (f := Rq0_table) hx hb hK hP 1 3 rfl rfl (inb_in g2) d_Sm_tightest_22 ?_
        refine lv_iload_n hx hb d_Sm_tightest_23 rfl (lv_at hl 1 rfl) ?_
        obtain ⟨g3, h⟩ := gd_some h
        refine va_dald hx hb hK hP (2 + x5.toNatClampNeg) 0 (gk5 (P := fun k => (w_Sm_tightest T q0 q0_problem q0_point q0_table q0_right q0_cost q0_basic Rq0_table vq0_rows vq0_variables vq0_columns vq0_stepsDone vq0_table vq0_right vq0_basic)[2 + k]? = some (Rq0_table k, .inl (T 0, 13, .inr (.inr (.inr (.inl (vq0_table k))))))) rfl rfl rfl rfl rfl _ (inb_lt g2)) rfl (inb_in g3) d_Sm_tightest_24 ?_
        refine lv_ldc2d (v := 4472406533629990549) hx hb hown (hts _ (bgc bw349)) d_Sm_tightest_25 ?_
        refine lv_dcmp hx hb d_Sm_tightest_28 ?_
        refine lv_if_le (tgt := 91) hx hb d_Sm_tightest_29 (by decide) (fun c4 => ?_) (fun c4 => ?_)
        · have h := it_t c4 h
          exact J91 x2 x3 x5 H locs ls hP hD hS (lv_sub hl [0, 1, 2, 3, 4] rfl) h
        · have h := it_f c4 h
          refine lv_aload_n hx hb d_Sm_tightest_32 rfl (lv_at hl 0 rfl) ?_
          refine va_get (D := D) (ci := 6) (v := .ref q0_right) (C := "ConeForge$SimplexMethod") (T := FSm) (N := 10) hx hb hts iSm hown hK hP 0 rfl rfl 3 (by decide) (hts _ (bgc bw243)) (fun _ h9 => h9) rfl d_Sm_tightest_33 ?_
          refine lv_iload hx hb d_Sm_tightest_36 (lv_at hl 4 rfl) ?_
          obtain ⟨g5, h⟩ := gd_some h
          refine va_dald hx hb hK hP 7 0 rfl rfl (inb_in g5) d_Sm_tightest_38 ?_
          refine lv_aload_n hx hb d_Sm_tightest_39 rfl (lv_at hl 0 rfl) ?_
          refine va_get (D := D) (ci := 6) (v := .ref q0_table) (C := "ConeForge$SimplexMethod") (T := FSm) (N := 10) hx hb hts iSm hown hK hP 0 rfl rfl 2 (by decide) (hts _ (bgc bw242)) (fun _ h9 => h9) rfl d_Sm_tightest_40 ?_
          refine lv_iload hx hb d_Sm_tightest_43 (lv_at hl 4 rfl) ?_
          obtain ⟨g6, h⟩ := gd_some h
          refine va_aldg (f := Rq0_table) hx hb hK hP 1 3 rfl rfl (inb_in g6) d_Sm_tightest_45 ?_
          refine lv_iload_n hx hb d_Sm_tightest_46 rfl (lv_at hl 1 rfl) ?_
          obtain ⟨g7, h⟩ := gd_some h
          refine va_dald hx hb hK hP (2 + x5.toNatClampNeg) 0 (gk5 (P := fun k => (w_Sm_tightest T q0 q0_problem q0_point q0_table q0_right q0_cost q0_basic Rq0_table vq0_rows vq0_variables vq0_columns vq0_stepsDone vq0_table vq0_right vq0_basic)[2 + k]? = some (Rq0_table k, .inl (T 0, 13, .inr (.inr (.inr (.inl (vq0_table k))))))) rfl rfl rfl rfl rfl _ (inb_lt g6)) rfl (inb_in g7) d_Sm_tightest_47 ?_
          obtain ⟨g8, h⟩ := gd_some h
          refine lv_ddiv hx hb d_Sm_tightest_48 (isn_n g8) ?_
          refine lv_dstore (lv' := [(6, .double (FP.ddiv (vq0_right x5.toNatClampNeg) (vq0_table x5.toNatClampNeg x1.toNatClampNeg))), (0, .ref q0), (1, .int x1), (2, .int x2), (3, .double x3), (5, .int x5)]) hx hb d_Sm_tightest_49 hl (by decide) rfl (fun ls hl => ?_)
          refine lv_iload_n hx hb d_Sm_tightest_51 rfl (lv_at hl 3 rfl) ?_
          refine lv_if_lt (tgt := 85) hx hb d_Sm_tightest_52 (by decide) (fun c9 => ?_) (fun c9 => ?_)
          · have h := it_t c9 h
            exact J85 x5 (FP.ddiv (vq0_right x5.toNatClampNeg) (vq0_table x5.toNatClampNeg x1.toNatClampNeg)) H locs ls hP hD hS (lv_sub hl [1, 2, 5, 0] rfl) h
          · have h := it_f c9 h
            refine lv_dload hx hb d_Sm_tightest_55 (lv_at hl 0 rfl) ?_
            refine lv_dload_n hx hb d_Sm_tightest_57 rfl (lv_at hl 4 rfl) ?_
            refine lv_dcmp hx hb d_Sm_tightest_58 ?_
            refine lv_if_lt (tgt := 85) hx hb d_Sm_tightest_59 (by decide) (fun c10 => ?_) (fun c10 => ?_)
            · have h := it_t c10 h
              exact J85 x5 (FP.ddiv (vq0_right x5.toNatClampNeg) (vq0_table x5.toNatClampNeg x1.toNatClampNeg)) H locs ls hP hD hS (lv_sub hl [1, 2, 5, 0] rfl) h
            · have h := it_f c10 h
              refine lv_dload hx hb d_Sm_tightest_62 (lv_at hl 0 rfl) ?_
              refine lv_dload_n hx hb d_Sm_tightest_64 rfl (lv_at hl 4 rfl) ?_
              refine lv_dcmp hx hb d_Sm_tightest_65 ?_
              refine lv_if_ne (tgt := 91) hx hb d_Sm_tightest_66 (by decide) (fun c11 => ?_) (fun c11 => ?_)
              · have h := it_f c11 h
                exact J91 x2 x3 x5 H locs ls hP hD hS (lv_sub hl [1, 2, 3, 4, 5] rfl) h
              · have h := it_t c11 h
                refine lv_aload_n hx hb d_Sm_tightest_69 rfl (lv_at hl 1 rfl) ?_
                refine va_get (D := D) (ci := 6) (v := .ref q0_basic) (C := "ConeForge$SimplexMethod") (T := FSm) (N := 10) hx hb hts iSm hown hK hP 0 rfl rfl 5 (by decide) (hts _ (bgc bw245)) (fun _ h9 => h9) rfl d_Sm_tightest_70 ?_
                refine lv_iload hx hb d_Sm_tightest_73 (lv_at hl 5 rfl) ?_
                obtain ⟨g12, h⟩ := gd_some h
                refine va_iald hx hb hK hP 8 1 rfl rfl (inb_in g12) d_Sm_tightest_75 ?_
                refine lv_aload_n hx hb d_Sm_tightest_76 rfl (lv_at hl 1 rfl) ?_
                refine va_get (D := D) (ci := 6) (v := .ref q0_basic) (C := "ConeForge$SimplexMethod") (T := FSm) (N := 10) hx hb hts iSm hown hK hP 0 rfl rfl 5 (by decide) (hts _ (bgc bw245)) (fun _ h9 => h9) rfl d_Sm_tightest_77 ?_
                refine lv_iload_n hx hb d_Sm_tightest_80 rfl (lv_at hl 3 rfl) ?_
                obtain ⟨g13, h⟩ := gd_some h
                refine va_iald hx hb hK hP 8 1 rfl rfl (inb_in g13) d_Sm_tightest_81 ?_
                refine lv_icmp_ge (tgt := 91) hx hb d_Sm_tightest_82 (by decide) (fun c14 => ?_) (fun c14 => ?_)
                · have h := it_t c14 h
                  exact J91 x2 x3 x5 H locs ls hP hD hS (lv_sub hl [1, 2, 3, 4, 5] rfl) h
                · have h := it_f c14 h
                  exact J85 x5 (FP.ddiv (vq0_right x5.toNatClampNeg) (vq0_table x5.toNatClampNeg x1.toNatClampNeg)) H locs ls hP hD hS (lv_sub hl [1, 2, 5, 0] rfl) h
    · intro H locs ls hP hD hS hl
      refine lv_iload_n hx hb d_Sm_tightest_97 rfl (lv_at hl 0 rfl) ?_
      exact rtI hx hb hr hlocks hQ (Option.some.inj h) hP hS d_Sm_tightest_98 rfl rfl
  unfold s_Sm_tightest at h
  refine lv_iconst (v := (-1)) hx hb d_Sm_tightest_0 (by decide) ?_
  refine lv_istore_n (lv' := [(2, .int (-1)), (0, .ref q0), (1, .int x1)]) hx hb d_Sm_tightest_1 rfl hl (by decide) rfl (fun ls hl => ?_)
  refine lv_dconst0 hx hb d_Sm_tightest_2 ?_
  refine lv_dstore_n (lv' := [(3, .double FP.dconst0), (2, .int (-1)), (0, .ref q0), (1, .int x1)]) hx hb d_Sm_tightest_3 rfl hl (by decide) rfl (fun ls hl => ?_)
  refine lv_iconst (v := 0) hx hb d_Sm_tightest_4 (by decide) ?_
  refine lv_istore (lv' := [(5, .int 0), (3, .double FP.dconst0), (2, .int (-1)), (0, .ref q0), (1, .int x1)]) hx hb d_Sm_tightest_5 hl (by decide) rfl (fun ls hl => ?_)
  exact L7 x1 (-1) FP.dconst0 0 H locs ls hP hD hS (lv_sub hl [3, 4, 2, 1, 0] rfl) h
theorem d_Sm_outgoing_0 : decode prog_7_method_8_code 0 = .ok (.iload_n 2, 1) := by decide +kernel
theorem d_Sm_outgoing_1 : decode prog_7_method_8_code 1 = .ok (.ifCond .eq 11, 3) := by decide +kernel
theorem d_Sm_outgoing_4 : decode prog_7_method_8_code 4 = .ok (.aload_n 0, 1) := by decide +kernel
theorem d_Sm_outgoing_5 : decode prog_7_method_8_code 5 = .ok (.iload_n 1, 1) := by decide +kernel
theorem d_Sm_outgoing_6 : decode prog_7_method_8_code 6 = .ok (.invokevirtual 120, 3) := by decide +kernel
theorem d_Sm_outgoing_9 : decode prog_7_method_8_code 9 = .ok (.goto 4, 3) := by decide +kernel
theorem d_Sm_outgoing_12 : decode prog_7_method_8_code 12 = .ok (.iconst (-1), 1) := by decide +kernel
theorem d_Sm_outgoing_13 : decode prog_7_method_8_code 13 = .ok (.istore_n 3, 1) := by decide +kernel
theorem d_Sm_outgoing_14 : decode prog_7_method_8_code 14 = .ok (.iload_n 3, 1) := by decide +kernel
theorem d_Sm_outgoing_15 : decode prog_7_method_8_code 15 = .ok (.ifCond .lt 7, 3) := by decide +kernel
theorem d_Sm_outgoing_18 : decode prog_7_method_8_code 18 = .ok (.iload_n 3, 1) := by decide +kernel
theorem d_Sm_outgoing_19 : decode prog_7_method_8_code 19 = .ok (.goto 8, 3) := by decide +kernel
theorem d_Sm_outgoing_22 : decode prog_7_method_8_code 22 = .ok (.aload_n 0, 1) := by decide +kernel
theorem d_Sm_outgoing_23 : decode prog_7_method_8_code 23 = .ok (.iload_n 1, 1) := by decide +kernel
theorem d_Sm_outgoing_24 : decode prog_7_method_8_code 24 = .ok (.invokevirtual 124, 3) := by decide +kernel
theorem d_Sm_outgoing_27 : decode prog_7_method_8_code 27 = .ok (.ireturn, 1) := by decide +kernel
abbrev w_Sm_outgoing (T : Nat → ClassId) (q0 : Nat) (q0_problem : Nat) (q0_point : Nat) (q0_table : Nat) (q0_right : Nat) (q0_cost : Nat) (q0_basic : Nat) (Rq0_table : Nat → Nat) (vq0_rows : Int32) (vq0_variables : Int32) (vq0_columns : Int32) (vq0_stepsDone : Int32) (vq0_table : Nat → Nat → UInt64) (vq0_right : Nat → UInt64) (vq0_basic : Nat → Int32) : va_W := [(q0, .inr (6, [.ref q0_problem, .ref q0_point, .ref q0_table, .ref q0_right, .ref q0_cost, .ref q0_basic, .int vq0_rows, .int vq0_variables, .int vq0_columns, .int vq0_stepsDone])), (q0_table, .inl (T 3, 5, .inr (.inr (.inr (.inr (fun i => some (Rq0_table i))))))), (Rq0_table 0, .inl (T 0, 13, .inr (.inr (.inr (.inl (vq0_table 0)))))), (Rq0_table 1, .inl (T 0, 13, .inr (.inr (.inr (.inl (vq0_table 1)))))), (Rq0_table 2, .inl (T 0, 13, .inr (.inr (.inr (.inl (vq0_table 2)))))), (Rq0_table 3, .inl (T 0, 13, .inr (.inr (.inr (.inl (vq0_table 3)))))), (Rq0_table 4, .inl (T 0, 13, .inr (.inr (.inr (.inl (vq0_table 4)))))), (q0_right, .inl (T 0, 5, .inr (.inr (.inr (.inl vq0_right))))), (q0_basic, .inl (T 1, 5, .inl vq0_basic))]
def s_Sm_outgoing_J13 (vq0_rows : Int32) (vq0_variables : Int32) (vq0_columns : Int32) (vq0_stepsDone : Int32) (vq0_table : Nat → Nat → UInt64) (vq0_right : Nat → UInt64) (vq0_basic : Nat → Int32) (x1 : Int32) (y0 : Int32) : Option (Int32) :=
  if y0 < 0 then ((s_Sm_tightest vq0_rows vq0_variables vq0_columns vq0_stepsDone vq0_table vq0_right vq0_basic x1).bind fun u2 => some u2) else (some y0)
def s_Sm_outgoing (vq0_rows : Int32) (vq0_variables : Int32) (vq0_columns : Int32) (vq0_stepsDone : Int32) (vq0_table : Nat → Nat → UInt64) (vq0_right : Nat → UInt64) (vq0_basic : Nat → Int32) (x1 : Int32) (x2 : Int32) : Option (Int32) :=
  if x2 = 0 then (s_Sm_outgoing_J13 vq0_rows vq0_variables vq0_columns vq0_stepsDone vq0_table vq0_right vq0_basic x1 (-1)) else ((s_Sm_leftover vq0_rows vq0_variables vq0_columns vq0_stepsDone vq0_table vq0_basic x1).bind fun u5 => s_Sm_outgoing_J13 vq0_rows vq0_variables vq0_columns vq0_stepsDone vq0_table vq0_right vq0_basic x1 u5)
set_option maxRecDepth 100000 in
theorem j_Sm_outgoing_24 (T : Nat → ClassId) (q0 : Nat) (q0_problem : Nat) (q0_point : Nat) (q0_table : Nat) (q0_right : Nat) (q0_cost : Nat) (q0_basic : Nat) (Rq0_table : Nat → Nat) (vq0_rows : Int32) (vq0_variables : Int32) (vq0_columns : Int32) (vq0_stepsDone : Int32) (vq0_table : Nat → Nat → UInt64) (vq0_right : Nat → UInt64) (vq0_basic : Nat → Int32) : ([0, 1, 2, 3, 4, 5, 6, 7, 8].map (fun (i : Nat) => (w_Sm_outgoing T q0 q0_problem q0_point q0_table q0_right q0_cost q0_basic Rq0_table vq0_rows vq0_variables vq0_columns vq0_stepsDone vq0_table vq0_right vq0_basic)[i]?) = (w_Sm_tightest T q0 q0_problem q0_point q0_table q0_right q0_cost q0_basic Rq0_table vq0_rows vq0_variables vq0_columns vq0_stepsDone vq0_table vq0_right vq0_basic).map some) ∧ ([0, 1, 2, 3, 4, 5, 6, 7, 8].map (fun (i : Nat) => (w_Sm_outgoing T q0 q0_problem q0_point q0_table q0_right q0_cost q0_basic Rq0_table vq0_rows vq0_variables vq0_columns vq0_stepsDone vq0_table vq0_right vq0_basic)[i]?) = (w_Sm_tightest T q0 q0_problem q0_point q0_table q0_right q0_cost q0_basic Rq0_table vq0_rows vq0_variables vq0_columns vq0_stepsDone vq0_table vq0_right vq0_basic).map some) ∧ ([].map (fun (i : Nat) => (w_Sm_outgoing T q0 q0_problem q0_point q0_table q0_right q0_cost q0_basic Rq0_table vq0_rows vq0_variables vq0_columns vq0_stepsDone vq0_table vq0_right vq0_basic)[i]?) = [].map (fun (i : Nat) => (w_Sm_outgoing T q0 q0_problem q0_point q0_table q0_right q0_cost q0_basic Rq0_table vq0_rows vq0_variables vq0_columns vq0_stepsDone vq0_table vq0_right vq0_basic)[i]?)) ∧ (w_Sm_tightest T q0 q0_problem q0_point q0_table q0_right q0_cost q0_basic Rq0_table vq0_rows vq0_variables vq0_columns vq0_stepsDone vq0_table vq0_right vq0_basic).map Prod.fst = (w_Sm_tightest T q0 q0_problem q0_point q0_table q0_right q0_cost q0_basic Rq0_table vq0_rows vq0_variables vq0_columns vq0_stepsDone vq0_table vq0_right vq0_basic).map Prod.fst ∧ (w_Sm_outgoing T q0 q0_problem q0_point q0_table q0_right q0_cost q0_basic Rq0_table vq0_rows vq0_variables vq0_columns vq0_stepsDone vq0_table vq0_right vq0_basic).length = 9 :=
  ⟨rfl, rfl, Eq.trans (b := ([] : List (Option (Nat × va_E)))) rfl rfl, rfl, rfl⟩
set_option maxRecDepth 100000 in
theorem j_Sm_outgoing_6 (T : Nat → ClassId) (q0 : Nat) (q0_problem : Nat) (q0_point : Nat) (q0_table : Nat) (q0_right : Nat) (q0_cost : Nat) (q0_basic : Nat) (Rq0_table : Nat → Nat) (vq0_rows : Int32) (vq0_variables : Int32) (vq0_columns : Int32) (vq0_stepsDone : Int32) (vq0_table : Nat → Nat → UInt64) (vq0_right : Nat → UInt64) (vq0_basic : Nat → Int32) : ([0, 1, 2, 3, 4, 5, 6, 8].map (fun (i : Nat) => (w_Sm_outgoing T q0 q0_problem q0_point q0_table q0_right q0_cost q0_basic Rq0_table vq0_rows vq0_variables vq0_columns vq0_stepsDone vq0_table vq0_right vq0_basic)[i]?) = (w_Sm_leftover T q0 q0_problem q0_point q0_table q0_right q0_cost q0_basic Rq0_table vq0_rows vq0_variables vq0_columns vq0_stepsDone vq0_table vq0_basic).map some) ∧ ([0, 1, 2, 3, 4, 5, 6, 8].map (fun (i : Nat) => (w_Sm_outgoing T q0 q0_problem q0_point q0_table q0_right q0_cost q0_basic Rq0_table vq0_rows vq0_variables vq0_columns vq0_stepsDone vq0_table vq0_right vq0_basic)[i]?) = (w_Sm_leftover T q0 q0_problem q0_point q0_table q0_right q0_cost q0_basic Rq0_table vq0_rows vq0_variables vq0_columns vq0_stepsDone vq0_table vq0_basic).map some) ∧ ([7].map (fun (i : Nat) => (w_Sm_outgoing T q0 q0_problem q0_point q0_table q0_right q0_cost q0_basic Rq0_table vq0_rows vq0_variables vq0_columns vq0_stepsDone vq0_table vq0_right vq0_basic)[i]?) = [7].map (fun (i : Nat) => (w_Sm_outgoing T q0 q0_problem q0_point q0_table q0_right q0_cost q0_basic Rq0_table vq0_rows vq0_variables vq0_columns vq0_stepsDone vq0_table vq0_right vq0_basic)[i]?)) ∧ (w_Sm_leftover T q0 q0_problem q0_point q0_table q0_right q0_cost q0_basic Rq0_table vq0_rows vq0_variables vq0_columns vq0_stepsDone vq0_table vq0_basic).map Prod.fst = (w_Sm_leftover T q0 q0_problem q0_point q0_table q0_right q0_cost q0_basic Rq0_table vq0_rows vq0_variables vq0_columns vq0_stepsDone vq0_table vq0_basic).map Prod.fst ∧ (w_Sm_outgoing T q0 q0_problem q0_point q0_table q0_right q0_cost q0_basic Rq0_table vq0_rows vq0_variables vq0_columns vq0_stepsDone vq0_table vq0_right vq0_basic).length = 9 :=
  ⟨rfl, rfl, Eq.trans (b := ([some (q0_right, .inl (T 0, 5, .inr (.inr (.inr (.inl vq0_right)))))] : List (Option (Nat × va_E)))) rfl rfl, rfl, rfl⟩
set_option maxHeartbeats 40000000 in
set_option maxRecDepth 100000 in
theorem c_Sm_outgoing (l : Launch) (D : va_G) (T : Nat → ClassId) (q0 : Nat) (q0_problem : Nat) (q0_point : Nat) (q0_table : Nat) (q0_right : Nat) (q0_cost : Nat) (q0_basic : Nat) (Rq0_table : Nat → Nat) (vq0_rows : Int32) (vq0_variables : Int32) (vq0_columns : Int32) (vq0_stepsDone : Int32) (vq0_table : Nat → Nat → UInt64) (vq0_right : Nat → UInt64) (vq0_basic : Nat → Int32) (x1 : Int32) (x2 : Int32) (rm : Int32) (h : s_Sm_outgoing vq0_rows vq0_variables vq0_columns vq0_stepsDone vq0_table vq0_right vq0_basic x1 x2 = some rm) : CtI l y_Sm_outgoing (Cond.code y_Sm_outgoing prog_7_method_8_code 4 (some .int) :: BIG) 2 43 D T [.ref q0, .int x1, .int x2] (w_Sm_outgoing T q0 q0_problem q0_point q0_table q0_right q0_cost q0_basic Rq0_table vq0_rows vq0_variables vq0_columns vq0_stepsDone vq0_table vq0_right vq0_basic) (fun r => r) (fun r => (w_Sm_outgoing T q0 q0_problem q0_point q0_table q0_right q0_cost q0_basic Rq0_table vq0_rows vq0_variables vq0_columns vq0_stepsDone vq0_table vq0_right vq0_basic)) rm := by
  refine cf_entry (y := y_Sm_outgoing) (cc := prog_7_method_8_code) (nL := 4) (ret := (some .int)) (fr := 2) (lo := 43) (T := T) (av := [.ref q0, .int x1, .int x2]) (w := (w_Sm_outgoing T q0 q0_problem q0_point q0_table q0_right q0_cost q0_basic Rq0_table vq0_rows vq0_variables vq0_columns vq0_stepsDone vq0_table vq0_right vq0_basic)) (Qc := cfQi D (fun r => r) (fun r => (w_Sm_outgoing T q0 q0_problem q0_point q0_table q0_right q0_cost q0_basic Rq0_table vq0_rows vq0_variables vq0_columns vq0_stepsDone vq0_table vq0_right vq0_basic)) rm) (by decide) rfl (Nat.le_of_ble_eq_true rfl) ?_
  intro p e s m args below meth c A Q H locs ls hx hb hr hlocks hml hown hts hNW hK hA hQ hP hD hS hl
  have hown : s.vm.findClass "ConeForge$SimplexMethod" = some m.cls := hown
  have hl : lv_has ls 4 [(0, .ref q0), (1, .int x1), (2, .int x2)] := hl
  have J13 : ∀ (x1 : Int32) (y0 : Int32), ∀ (H : Heap) (locs : List Loc) (ls : Array Slot), va_P D CL (w_Sm_outgoing T q0 q0_problem q0_point q0_table q0_right q0_cost q0_basic Rq0_table vq0_rows vq0_variables vq0_columns vq0_stepsDone vq0_table vq0_right vq0_basic) H → va_D A (w_Sm_outgoing T q0 q0_problem q0_point q0_table q0_right q0_cost q0_basic Rq0_table vq0_rows vq0_variables vq0_columns vq0_stepsDone vq0_table vq0_right vq0_basic) → va_S A s.heap H locs → lv_has ls 4 [(0, .ref q0), (1, .int x1)] → s_Sm_outgoing_J13 vq0_rows vq0_variables vq0_columns vq0_stepsDone vq0_table vq0_right vq0_basic x1 y0 = some rm → W p l e (rmk 2 43) s m args below meth c H locs 0 0 Q (F0 m 13 ls [.int y0]) := by
    intro x1 y0 H locs ls hP hD hS hl h
    unfold s_Sm_outgoing_J13 at h
    refine lv_istore_n (lv' := [(3, .int y0), (0, .ref q0), (1, .int x1)]) hx hb d_Sm_outgoing_13 rfl hl (by decide) rfl (fun ls hl => ?_)
    refine lv_iload_n hx hb d_Sm_outgoing_14 rfl (lv_at hl 0 rfl) ?_
    refine lv_if_lt (tgt := 22) hx hb d_Sm_outgoing_15 (by decide) (fun c1 => ?_) (fun c1 => ?_)
    · have h := it_t c1 h
      refine lv_aload_n hx hb d_Sm_outgoing_22 rfl (lv_at hl 1 rfl) ?_
      refine lv_iload_n hx hb d_Sm_outgoing_23 rfl (lv_at hl 2 rfl) ?_
      obtain ⟨u2, hu2, h⟩ := bi_some h
      have jj3 := j_Sm_outgoing_24 T q0 q0_problem q0_point q0_table q0_right q0_cost q0_basic Rq0_table vq0_rows vq0_variables vq0_columns vq0_stepsDone vq0_table vq0_right vq0_basic
      refine kI2 (v := u2) (wc := (w_Sm_tightest T q0 q0_problem q0_point q0_table q0_right q0_cost q0_basic Rq0_table vq0_rows vq0_variables vq0_columns vq0_stepsDone vq0_table vq0_right vq0_basic)) (wc' := (w_Sm_tightest T q0 q0_problem q0_point q0_table q0_right q0_cost q0_basic Rq0_table vq0_rows vq0_variables vq0_columns vq0_stepsDone vq0_table vq0_right vq0_basic)) (w_Sm_outgoing T q0 q0_problem q0_point q0_table q0_right q0_cost q0_basic Rq0_table vq0_rows vq0_variables vq0_columns vq0_stepsDone vq0_table vq0_right vq0_basic) (runOV (As := [.int x1]) (rest := []) ((c_Sm_tightest l D T q0 q0_problem q0_point q0_table q0_right q0_cost q0_basic Rq0_table vq0_rows vq0_variables vq0_columns vq0_stepsDone vq0_table vq0_right vq0_basic x1 u2 hu2) H.size) ⟨hx, hb, hml, hown, hts⟩ (cwOV bw350 bw351 bw14 bw104 bw352 dd_Sm_tightest hts ⟨Nat.le_of_ble_eq_true rfl, Nat.le_of_ble_eq_true rfl⟩) (va_recv hK hP (ci := 6) (q0 := 0) rfl rfl) hNW hK hP hD [0, 1, 2, 3, 4, 5, 6, 7, 8] jj3.1 (by decide) rfl hl.1 rfl (lv_room (Nat.le_of_ble_eq_true rfl)) d_Sm_outgoing_24 ⟨Nat.le_of_ble_eq_true rfl, Nat.le_of_ble_eq_true rfl⟩) hP hD hS hA [0, 1, 2, 3, 4, 5, 6, 7, 8] [] jj3.1 jj3.2.1 jj3.2.2.1 (N := 9) jj3.2.2.2.2 (by decide) jj3.2.2.2.1 (fun H locs hP hD hS => ?_)
      exact rtI hx hb hr hlocks hQ (Option.some.inj h) hP hS d_Sm_outgoing_27 rfl rfl
    · have h := it_f c1 h
      refine lv_iload_n hx hb d_Sm_outgoing_18 rfl (lv_at hl 0 rfl) ?_
      refine lv_goto (tgt := 27) hx hb d_Sm_outgoing_19 (by decide) ?_
      exact rtI hx hb hr hlocks hQ (Option.some.inj h) hP hS d_Sm_outgoing_27 rfl rfl
  unfold s_Sm_outgoing at h
  refine lv_iload_n hx hb d_Sm_outgoing_0 rfl (lv_at hl 2 rfl) ?_
  refine lv_if_eq (tgt := 12) hx hb d_Sm_outgoing_1 (by decide) (fun c4 => ?_) (fun c4 => ?_)
  · have h := it_t c4 h
    refine lv_iconst (v := (-1)) hx hb d_Sm_outgoing_12 (by decide) ?_
    exact J13 x1 (-1) H locs ls hP hD hS (lv_sub hl [0, 1] rfl) h
  · have h := it_f c4 h
    refine lv_aload_n hx hb d_Sm_outgoing_4 rfl (lv_at hl 0 rfl) ?_
    refine lv_iload_n hx hb d_Sm_outgoing_5 rfl (lv_at hl 1 rfl) ?_
    obtain ⟨u5, hu5, h⟩ := bi_some h
    have jj6 := j_Sm_outgoing_6 T q0 q0_problem q0_point q0_table q0_right q0_cost q0_basic Rq0_table vq0_rows vq0_variables vq0_columns vq0_stepsDone vq0_table vq0_right vq0_basic
    refine kI2 (v := u5) (wc := (w_Sm_leftover T q0 q0_problem q0_point q0_table q0_right q0_cost q0_basic Rq0_table vq0_rows vq0_variables vq0_columns vq0_stepsDone vq0_table vq0_basic)) (wc' := (w_Sm_leftover T q0 q0_problem q0_point q0_table q0_right q0_cost q0_basic Rq0_table vq0_rows vq0_variables vq0_columns vq0_stepsDone vq0_table vq0_basic)) (w_Sm_outgoing T q0 q0_problem q0_point q0_table q0_right q0_cost q0_basic Rq0_table vq0_rows vq0_variables vq0_columns vq0_stepsDone vq0_table vq0_right vq0_basic) (runOV (As := [.int x1]) (rest := []) ((c_Sm_leftover l D T q0 q0_problem q0_point q0_table q0_right q0_cost q0_basic Rq0_table vq0_rows vq0_variables vq0_columns vq0_stepsDone vq0_table vq0_basic x1 u5 hu5) H.size) ⟨hx, hb, hml, hown, hts⟩ (cwOV bw346 bw347 bw13 bw104 bw348 dd_Sm_leftover hts ⟨Nat.le_of_ble_eq_true rfl, Nat.le_of_ble_eq_true rfl⟩) (va_recv hK hP (ci := 6) (q0 := 0) rfl rfl) hNW hK hP hD [0, 1, 2, 3, 4, 5, 6, 8] jj6.1 (by decide) rfl hl.1 rfl (lv_room (Nat.le_of_ble_eq_true rfl)) d_Sm_outgoing_6 ⟨Nat.le_of_ble_eq_true rfl, Nat.le_of_ble_eq_true rfl⟩) hP hD hS hA [0, 1, 2, 3, 4, 5, 6, 8] [7] jj6.1 jj6.2.1 jj6.2.2.1 (N := 9) jj6.2.2.2.2 (by decide) jj6.2.2.2.1 (fun H locs hP hD hS => ?_)
    refine lv_goto (tgt := 13) hx hb d_Sm_outgoing_9 (by decide) ?_
    exact J13 x1 u5 H locs ls hP hD hS (lv_sub hl [0, 1] rfl) h
theorem d_Sm_tellRay_0 : decode prog_7_method_17_code 0 = .ok (.aload_n 0, 1) := by decide +kernel
theorem d_Sm_tellRay_1 : decode prog_7_method_17_code 1 = .ok (.getfield 21, 3) := by decide +kernel
theorem d_Sm_tellRay_4 : decode prog_7_method_17_code 4 = .ok (.getfield 146, 3) := by decide +kernel
theorem d_Sm_tellRay_7 : decode prog_7_method_17_code 7 = .ok (.iload_n 1, 1) := by decide +kernel
theorem d_Sm_tellRay_8 : decode prog_7_method_17_code 8 = .ok (.dconst 1, 1) := by decide +kernel
theorem d_Sm_tellRay_9 : decode prog_7_method_17_code 9 = .ok (.dastore, 1) := by decide +kernel
theorem d_Sm_tellRay_10 : decode prog_7_method_17_code 10 = .ok (.iconst 0, 1) := by decide +kernel
theorem d_Sm_tellRay_11 : decode prog_7_method_17_code 11 = .ok (.istore_n 2, 1) := by decide +kernel
theorem d_Sm_tellRay_12 : decode prog_7_method_17_code 12 = .ok (.iload_n 2, 1) := by decide +kernel
theorem d_Sm_tellRay_13 : decode prog_7_method_17_code 13 = .ok (.aload_n 0, 1) := by decide +kernel
theorem d_Sm_tellRay_14 : decode prog_7_method_17_code 14 = .ok (.getfield 41, 3) := by decide +kernel
theorem d_Sm_tellRay_17 : decode prog_7_method_17_code 17 = .ok (.if_icmp .ge 45, 3) := by decide +kernel
theorem d_Sm_tellRay_20 : decode prog_7_method_17_code 20 = .ok (.aload_n 0, 1) := by decide +kernel
theorem d_Sm_tellRay_21 : decode prog_7_method_17_code 21 = .ok (.getfield 37, 3) := by decide +kernel
theorem d_Sm_tellRay_24 : decode prog_7_method_17_code 24 = .ok (.iload_n 2, 1) := by decide +kernel
theorem d_Sm_tellRay_25 : decode prog_7_method_17_code 25 = .ok (.iaload, 1) := by decide +kernel
theorem d_Sm_tellRay_26 : decode prog_7_method_17_code 26 = .ok (.aload_n 0, 1) := by decide +kernel
theorem d_Sm_tellRay_27 : decode prog_7_method_17_code 27 = .ok (.getfield 45, 3) := by decide +kernel
theorem d_Sm_tellRay_30 : decode prog_7_method_17_code 30 = .ok (.if_icmp .ge 26, 3) := by decide +kernel
theorem d_Sm_tellRay_33 : decode prog_7_method_17_code 33 = .ok (.aload_n 0, 1) := by decide +kernel
theorem d_Sm_tellRay_34 : decode prog_7_method_17_code 34 = .ok (.getfield 21, 3) := by decide +kernel
theorem d_Sm_tellRay_37 : decode prog_7_method_17_code 37 = .ok (.getfield 146, 3) := by decide +kernel
theorem d_Sm_tellRay_40 : decode prog_7_method_17_code 40 = .ok (.aload_n 0, 1) := by decide +kernel
theorem d_Sm_tellRay_41 : decode prog_7_method_17_code 41 = .ok (.getfield 37, 3) := by decide +kernel
theorem d_Sm_tellRay_44 : decode prog_7_method_17_code 44 = .ok (.iload_n 2, 1) := by decide +kernel
theorem d_Sm_tellRay_45 : decode prog_7_method_17_code 45 = .ok (.iaload, 1) := by decide +kernel
theorem d_Sm_tellRay_46 : decode prog_7_method_17_code 46 = .ok (.aload_n 0, 1) := by decide +kernel
theorem d_Sm_tellRay_47 : decode prog_7_method_17_code 47 = .ok (.getfield 27, 3) := by decide +kernel
theorem d_Sm_tellRay_50 : decode prog_7_method_17_code 50 = .ok (.iload_n 2, 1) := by decide +kernel
theorem d_Sm_tellRay_51 : decode prog_7_method_17_code 51 = .ok (.aaload, 1) := by decide +kernel
theorem d_Sm_tellRay_52 : decode prog_7_method_17_code 52 = .ok (.iload_n 1, 1) := by decide +kernel
theorem d_Sm_tellRay_53 : decode prog_7_method_17_code 53 = .ok (.daload, 1) := by decide +kernel
theorem d_Sm_tellRay_54 : decode prog_7_method_17_code 54 = .ok (.dneg, 1) := by decide +kernel
theorem d_Sm_tellRay_55 : decode prog_7_method_17_code 55 = .ok (.dastore, 1) := by decide +kernel
theorem d_Sm_tellRay_56 : decode prog_7_method_17_code 56 = .ok (.iinc 2 1, 3) := by decide +kernel
theorem d_Sm_tellRay_59 : decode prog_7_method_17_code 59 = .ok (.goto (-47), 3) := by decide +kernel
theorem d_Sm_tellRay_62 : decode prog_7_method_17_code 62 = .ok (.return_, 1) := by decide +kernel
abbrev w_Sm_tellRay (T : Nat → ClassId) (q0 : Nat) (q0_problem : Nat) (q0_point : Nat) (q0_table : Nat) (q0_right : Nat) (q0_cost : Nat) (q0_basic : Nat) (q0_point_x : Nat) (q0_point_s : Nat) (q0_point_y : Nat) (Rq0_table : Nat → Nat) (vq0_rows : Int32) (vq0_variables : Int32) (vq0_columns : Int32) (vq0_stepsDone : Int32) (vq0_point_x : Nat → UInt64) (vq0_table : Nat → Nat → UInt64) (vq0_basic : Nat → Int32) : va_W := [(q0, .inr (6, [.ref q0_problem, .ref q0_point, .ref q0_table, .ref q0_right, .ref q0_cost, .ref q0_basic, .int vq0_rows, .int vq0_variables, .int vq0_columns, .int vq0_stepsDone])), (q0_point, .inr (1, [.ref q0_point_x, .ref q0_point_s, .ref q0_point_y])), (q0_point_x, .inl (T 0, 8, .inr (.inr (.inr (.inl vq0_point_x))))), (q0_table, .inl (T 3, 5, .inr (.inr (.inr (.inr (fun i => some (Rq0_table i))))))), (Rq0_table 0, .inl (T 0, 13, .inr (.inr (.inr (.inl (vq0_table 0)))))), (Rq0_table 1, .inl (T 0, 13, .inr (.inr (.inr (.inl (vq0_table 1)))))), (Rq0_table 2, .inl (T 0, 13, .inr (.inr (.inr (.inl (vq0_table 2)))))), (Rq0_table 3, .inl (T 0, 13, .inr (.inr (.inr (.inl (vq0_table 3)))))), (Rq0_table 4, .inl (T 0, 13, .inr (.inr (.inr (.inl (vq0_table 4)))))), (q0_basic, .inl (T 1, 5, .inl vq0_basic))]
def s_Sm_tellRay_J56 (vq0_rows : Int32) (vq0_variables : Int32) (vq0_columns : Int32) (vq0_stepsDone : Int32) (vq0_point_x : Nat → UInt64) (vq0_table : Nat → Nat → UInt64) (vq0_basic : Nat → Int32) (x1 : Int32) (x2 : Int32) : Option (((Nat → UInt64) × Int32) ⊕ ((Nat → UInt64))) :=
  some (.inl (vq0_point_x, x2 + 1))
def s_Sm_tellRay_B12 (vq0_rows : Int32) (vq0_variables : Int32) (vq0_columns : Int32) (vq0_stepsDone : Int32) (vq0_table : Nat → Nat → UInt64) (vq0_basic : Nat → Int32) (x1 : Int32) (vq0_point_x : Nat → UInt64) (x2 : Int32) : Option (((Nat → UInt64) × Int32) ⊕ ((Nat → UInt64))) :=
  if vq0_rows ≤ x2 then (some (.inr vq0_point_x)) else (gd (inb x2 5) <| if vq0_variables ≤ (vq0_basic x2.toNatClampNeg) then (s_Sm_tellRay_J56 vq0_rows vq0_variables vq0_columns vq0_stepsDone vq0_point_x vq0_table vq0_basic x1 x2) else (gd (inb x2 5) <| gd (inb x2 5) <| gd (inb x1 13) <| gd (inb (vq0_basic x2.toNatClampNeg) 8) <| s_Sm_tellRay_J56 vq0_rows vq0_variables vq0_columns vq0_stepsDone (vf_upd vq0_point_x (vq0_basic x2.toNatClampNeg).toNatClampNeg (FP.dneg (vq0_table x2.toNatClampNeg x1.toNatClampNeg))) vq0_table vq0_basic x1 x2))
def s_Sm_tellRay_L12 (vq0_rows : Int32) (vq0_variables : Int32) (vq0_columns : Int32) (vq0_stepsDone : Int32) (vq0_point_x : Nat → UInt64) (vq0_table : Nat → Nat → UInt64) (vq0_basic : Nat → Int32) (x1 : Int32) (x2 : Int32) : Option ((Nat → UInt64)) :=
  (loopO (fun (st : (Nat → UInt64) × Int32) => s_Sm_tellRay_B12 vq0_rows vq0_variables vq0_columns vq0_stepsDone vq0_table vq0_basic x1 st.1 st.2) 2000 (vq0_point_x, x2)).bind fun ul12 => some ul12
def s_Sm_tellRay (vq0_rows : Int32) (vq0_variables : Int32) (vq0_columns : Int32) (vq0_stepsDone : Int32) (vq0_point_x : Nat → UInt64) (vq0_table : Nat → Nat → UInt64) (vq0_basic : Nat → Int32) (x1 : Int32) : Option ((Nat → UInt64)) :=
  gd (inb x1 8) <| s_Sm_tellRay_L12 vq0_rows vq0_variables vq0_columns vq0_stepsDone (vf_upd vq0_point_x x1.toNatClampNeg FP.dconst1) vq0_table vq0_basic x1 0
set_option maxHeartbeats 40000000 in
set_option maxRecDepth 100000 in
theorem c_Sm_tellRay (l : Launch) (D : va_G) (T : Nat → ClassId) (q0 : Nat) (q0_problem : Nat) (q0_point : Nat) (q0_table : Nat) (q0_right : Nat) (q0_cost : Nat) (q0_basic : Nat) (q0_point_x : Nat) (q0_point_s : Nat) (q0_point_y : Nat) (Rq0_table : Nat → Nat) (vq0_rows : Int32) (vq0_variables : Int32) (vq0_columns : Int32) (vq0_stepsDone : Int32) (vq0_point_x : Nat → UInt64) (vq0_table : Nat → Nat → UInt64) (vq0_basic : Nat → Int32) (x1 : Int32) (rm : (Nat → UInt64)) (h : s_Sm_tellRay vq0_rows vq0_variables vq0_columns vq0_stepsDone vq0_point_x vq0_table vq0_basic x1 = some rm) : CtV l y_Sm_tellRay (Cond.code y_Sm_tellRay prog_7_method_17_code 3 none :: BIG) 0 0 D T [.ref q0, .int x1] (w_Sm_tellRay T q0 q0_problem q0_point q0_table q0_right q0_cost q0_basic q0_point_x q0_point_s q0_point_y Rq0_table vq0_rows vq0_variables vq0_columns vq0_stepsDone vq0_point_x vq0_table vq0_basic) (fun r => (w_Sm_tellRay T q0 q0_problem q0_point q0_table q0_right q0_cost q0_basic q0_point_x q0_point_s q0_point_y Rq0_table vq0_rows vq0_variables vq0_columns vq0_stepsDone r vq0_table vq0_basic)) rm := by
  refine cf_entry (y := y_Sm_tellRay) (cc := prog_7_method_17_code) (nL := 3) (ret := none) (fr := 0) (lo := 0) (T := T) (av := [.ref q0, .int x1]) (w := (w_Sm_tellRay T q0 q0_problem q0_point q0_table q0_right q0_cost q0_basic q0_point_x q0_point_s q0_point_y Rq0_table vq0_rows vq0_variables vq0_columns vq0_stepsDone vq0_point_x vq0_table vq0_basic)) (Qc := cfQv D (fun r => (w_Sm_tellRay T q0 q0_problem q0_point q0_table q0_right q0_cost q0_basic q0_point_x q0_point_s q0_point_y Rq0_table vq0_rows vq0_variables vq0_columns vq0_stepsDone r vq0_table vq0_basic)) rm) (by decide) rfl (Nat.le_of_ble_eq_true rfl) ?_
  intro p e s m args below meth c A Q H locs ls hx hb hr hlocks hml hown hts hNW hK hA hQ hP hD hS hl
  have hown : s.vm.findClass "ConeForge$SimplexMethod" = some m.cls := hown
  have hl : lv_has ls 3 [(0, .ref q0), (1, .int x1)] := hl
  have L12 : ∀ (vq0_point_x : Nat → UInt64) (x1 : Int32) (x2 : Int32), ∀ (H : Heap) (locs : List Loc) (ls : Array Slot), va_P D CL (w_Sm_tellRay T q0 q0_problem q0_point q0_table q0_right q0_cost q0_basic q0_point_x q0_point_s q0_point_y Rq0_table vq0_rows vq0_variables vq0_columns vq0_stepsDone vq0_point_x vq0_table vq0_basic) H → va_D A (w_Sm_tellRay T q0 q0_problem q0_point q0_table q0_right q0_cost q0_basic q0_point_x q0_point_s q0_point_y Rq0_table vq0_rows vq0_variables vq0_columns vq0_stepsDone vq0_point_x vq0_table vq0_basic) → va_S A s.heap H locs → lv_has ls 3 [(0, .ref q0), (1, .int x1), (2, .int x2)] → s_Sm_tellRay_L12 vq0_rows vq0_variables vq0_columns vq0_stepsDone vq0_point_x vq0_table vq0_basic x1 x2 = some rm → W p l e (rmk 0 0) s m args below meth c H locs 0 0 Q (F0 m 12 ls []) := by
    intro vq0_point_x x1 x2 H locs ls hP hD hS hl h
    unfold s_Sm_tellRay_L12 at h
    obtain ⟨ul12, hul12, h⟩ := bi_some h
    refine loopO_W (Wh := fun (st : (Nat → UInt64) × Int32) => ∀ (H : Heap) (locs : List Loc) (ls : Array Slot), va_P D CL (w_Sm_tellRay T q0 q0_problem q0_point q0_table q0_right q0_cost q0_basic q0_point_x q0_point_s q0_point_y Rq0_table vq0_rows vq0_variables vq0_columns vq0_stepsDone st.1 vq0_table vq0_basic) H → va_D A (w_Sm_tellRay T q0 q0_problem q0_point q0_table q0_right q0_cost q0_basic q0_point_x q0_point_s q0_point_y Rq0_table vq0_rows vq0_variables vq0_columns vq0_stepsDone st.1 vq0_table vq0_basic) → va_S A s.heap H locs → lv_has ls 3 [(0, .ref q0), (1, .int x1), (2, .int st.2)] → W p l e (rmk 0 0) s m args below meth c H locs 0 0 Q (F0 m 12 ls [])) (Wx := fun (e1 : (Nat → UInt64)) => ∀ (H : Heap) (locs : List Loc) (ls : Array Slot), va_P D CL (w_Sm_tellRay T q0 q0_problem q0_point q0_table q0_right q0_cost q0_basic q0_point_x q0_point_s q0_point_y Rq0_table vq0_rows vq0_variables vq0_columns vq0_stepsDone e1 vq0_table vq0_basic) H → va_D A (w_Sm_tellRay T q0 q0_problem q0_point q0_table q0_right q0_cost q0_basic q0_point_x q0_point_s q0_point_y Rq0_table vq0_rows vq0_variables vq0_columns vq0_stepsDone e1 vq0_table vq0_basic) → va_S A s.heap H locs → lv_has ls 3 [] → W p l e (rmk 0 0) s m args below meth c H locs 0 0 Q (F0 m 62 ls [])) ?_ 2000 _ ul12 hul12 ?_ H locs ls hP hD hS hl
    · intro st rb12 h kc12 kx12 H locs ls hP hD hS hl
      obtain ⟨vq0_point_x, x2⟩ := st
      have h : s_Sm_tellRay_B12 vq0_rows vq0_variables vq0_columns vq0_stepsDone vq0_table vq0_basic x1 vq0_point_x x2 = some rb12 := h
      have J56 : ∀ (vq0_point_x : Nat → UInt64) (x2 : Int32), ∀ (H : Heap) (locs : List Loc) (ls : Array Slot), va_P D CL (w_Sm_tellRay T q0 q0_problem q0_point q0_table q0_right q0_cost q0_basic q0_point_x q0_point_s q0_point_y Rq0_table vq0_rows vq0_variables vq0_columns vq0_stepsDone vq0_point_x vq0_table vq0_basic) H → va_D A (w_Sm_tellRay T q0 q0_problem q0_point q0_table q0_right q0_cost q0_basic q0_point_x q0_point_s q0_point_y Rq0_table vq0_rows vq0_variables vq0_columns vq0_stepsDone vq0_point_x vq0_table vq0_basic) → va_S A s.heap H locs → lv_has ls 3 [(0, .ref q0), (1, .int x1), (2, .int x2)] → s_Sm_tellRay_J56 vq0_rows vq0_variables vq0_columns vq0_stepsDone vq0_point_x vq0_table vq0_basic x1 x2 = some rb12 → W p l e (rmk 0 0) s m args below meth c H locs 0 0 Q (F0 m 56 ls []) := by
        intro vq0_point_x x2 H locs ls hP hD hS hl h
        unfold s_Sm_tellRay_J56 at h
        refine lv_iinc (v := x2 + 1) (lv' := [(2, .int (x2 + 1)), (0, .ref q0), (1, .int x1)]) hx hb d_Sm_tellRay_56 hl (k := 2) rfl rfl (by decide) rfl (fun ls hl => ?_)
        refine lv_goto (tgt := 12) hx hb d_Sm_tellRay_59 (by decide) ?_
        exact kc12 _ (Option.some.inj h).symm H locs ls hP hD hS (lv_sub hl [1, 2, 0] rfl)
      unfold s_Sm_tellRay_B12 at h
      refine lv_iload_n hx hb d_Sm_tellRay_12 rfl (lv_at hl 2 rfl) ?_
      refine lv_aload_n hx hb d_Sm_tellRay_13 rfl (lv_at hl 0 rfl) ?_
      refine va_get (D := D) (ci := 6) (v := .int vq0_rows) (C := "ConeForge$SimplexMethod") (T := FSm) (N := 10) hx hb hts iSm hown hK hP 0 rfl rfl 6 (by decide) (hts _ (bgc bw246)) (fun _ h9 => h9) rfl d_Sm_tellRay_14 ?_
      refine lv_icmp_ge (tgt := 62) hx hb d_Sm_tellRay_17 (by decide) (fun c1 => ?_) (fun c1 => ?_)
      · have h := it_t c1 h
        exact kx12 _ (Option.some.inj h).symm H locs ls hP hD hS (lv_sub hl [] rfl)
      · have h := it_f c1 h
        refine lv_aload_n hx hb d_Sm_tellRay_20 rfl (lv_at hl 0 rfl) ?_
        refine va_get (D := D) (ci := 6) (v := .ref q0_basic) (C := "ConeForge$SimplexMethod") (T := FSm) (N := 10) hx hb hts iSm hown hK hP 0 rfl rfl 5 (by decide) (hts _ (bgc bw245)) (fun _ h9 => h9) rfl d_Sm_tellRay_21 ?_
        refine lv_iload_n hx hb d_Sm_tellRay_24 rfl (lv_at hl 2 rfl) ?_
        obtain ⟨g2, h⟩ := gd_some h
        refine va_iald hx hb hK hP 9 1 rfl rfl (inb_in g2) d_Sm_tellRay_25 ?_
        refine lv_aload_n hx hb d_Sm_tellRay_26 rfl (lv_at hl 0 rfl) ?_
        refine va_get (D := D) (ci := 6) (v := .int vq0_variables) (C := "ConeForge$SimplexMethod") (T := FSm) (N := 10) hx hb hts iSm hown hK hP 0 rfl rfl 7 (by decide) (hts _ (bgc bw247)) (fun _ h9 => h9) rfl d_Sm_tellRay_27 ?_
        refine lv_icmp_ge (tgt := 56) hx hb d_Sm_tellRay_30 (by decide) (fun c3 => ?_) (fun c3 => ?_)
        · have h := it_t c3 h
          exact J56 vq0_point_x x2 H locs ls hP hD hS (lv_sub hl [0, 1, 2] rfl) h
        · have h := it_f c3 h
          refine lv_aload_n hx hb d_Sm_tellRay_33 rfl (lv_at hl 0 rfl) ?_
          refine va_get (D := D) (ci := 6) (v := .ref q0_point) (C := "ConeForge$SimplexMethod") (T := FSm) (N := 10) hx hb hts iSm hown hK hP 0 rfl rfl 1 (by decide) (hts _ (bgc bw241)) (fun _ h9 => h9) rfl d_Sm_tellRay_34 ?_
          refine va_getN (D := D) (ci := 1) (v := .ref q0_point_x) (C := "ConeForge$Point") (T := FPt) (N := 3) hx hb hts iPt hown hK hP 1 rfl rfl 0 (by decide) (hNW.use nw35) (fun _ h9 => h9) rfl d_Sm_tellRay_37 ?_
          refine lv_aload_n hx hb d_Sm_tellRay_40 rfl (lv_at hl 0 rfl) ?_
          refine va_get (D := D) (ci := 6) (v := .ref q0_basic) (C := "ConeForge$SimplexMethod") (T := FSm) (N := 10) hx hb hts iSm hown hK hP 0 rfl rfl 5 (by decide) (hts _ (bgc bw245)) (fun _ h9 => h9) rfl d_Sm_tellRay_41 ?_
          refine lv_iload_n hx hb d_Sm_tellRay_44 rfl (lv_at hl 2 rfl) ?_
          obtain ⟨g4, h⟩ := gd_some h
          refine va_iald hx hb hK hP 9 1 rfl rfl (inb_in g4) d_Sm_tellRay_45 ?_
          refine lv_aload_n hx hb d_Sm_tellRay_46 rfl (lv_at hl 0 rfl) ?_
          refine va_get (D := D) (ci := 6) (v := .ref q0_table) (C := "ConeForge$SimplexMethod") (T := FSm) (N := 10) hx hb hts iSm hown hK hP 0 rfl rfl 2 (by decide) (hts _ (bgc bw242)) (fun _ h9 => h9) rfl d_Sm_tellRay_47 ?_
          refine lv_iload_n hx hb d_Sm_tellRay_50 rfl (lv_at hl 2 rfl) ?_
          obtain ⟨g5, h⟩ := gd_some h
          refine va_aldg (f := Rq0_table) hx hb hK hP 3 3 rfl rfl (inb_in g5) d_Sm_tellRay_51 ?_
          refine lv_iload_n hx hb d_Sm_tellRay_52 rfl (lv_at hl 1 rfl) ?_
          obtain ⟨g6, h⟩ := gd_some h
          refine va_dald hx hb hK hP (4 + x2.toNatClampNeg) 0 (gk5 (P := fun k => (w_Sm_tellRay T q0 q0_problem q0_point q0_table q0_right q0_cost q0_basic q0_point_x q0_point_s q0_point_y Rq0_table vq0_rows vq0_variables vq0_columns vq0_stepsDone vq0_point_x vq0_table vq0_basic)[4 + k]? = some (Rq0_table k, .inl (T 0, 13, .inr (.inr (.inr (.inl (vq0_table k))))))) rfl rfl rfl rfl rfl _ (inb_lt g5)) rfl (inb_in g6) d_Sm_tellRay_53 ?_
          refine lv_dneg hx hb d_Sm_tellRay_54 ?_
          obtain ⟨g7, h⟩ := gd_some h
          refine va_dast hx hb hK hP hD hS 2 0 rfl rfl (inb_in g7) d_Sm_tellRay_55 (fun H locs hP hD hS => ?_)
          have hP : va_P D CL (w_Sm_tellRay T q0 q0_problem q0_point q0_table q0_right q0_cost q0_basic q0_point_x q0_point_s q0_point_y Rq0_table vq0_rows vq0_variables vq0_columns vq0_stepsDone (vf_upd vq0_point_x (vq0_basic x2.toNatClampNeg).toNatClampNeg (FP.dneg (vq0_table x2.toNatClampNeg x1.toNatClampNeg))) vq0_table vq0_basic) H := hP
          have hD : va_D A (w_Sm_tellRay T q0 q0_problem q0_point q0_table q0_right q0_cost q0_basic q0_point_x q0_point_s q0_point_y Rq0_table vq0_rows vq0_variables vq0_columns vq0_stepsDone (vf_upd vq0_point_x (vq0_basic x2.toNatClampNeg).toNatClampNeg (FP.dneg (vq0_table x2.toNatClampNeg x1.toNatClampNeg))) vq0_table vq0_basic) := hD
          exact J56 (vf_upd vq0_point_x (vq0_basic x2.toNatClampNeg).toNatClampNeg (FP.dneg (vq0_table x2.toNatClampNeg x1.toNatClampNeg))) x2 H locs ls hP hD hS (lv_sub hl [0, 1, 2] rfl) h
    · intro H locs ls hP hD hS hl
      exact rtV hx hb hr hlocks hQ (Option.some.inj h) hP hS d_Sm_tellRay_62 rfl
  unfold s_Sm_tellRay at h
  refine lv_aload_n hx hb d_Sm_tellRay_0 rfl (lv_at hl 0 rfl) ?_
  refine va_get (D := D) (ci := 6) (v := .ref q0_point) (C := "ConeForge$SimplexMethod") (T := FSm) (N := 10) hx hb hts iSm hown hK hP 0 rfl rfl 1 (by decide) (hts _ (bgc bw241)) (fun _ h9 => h9) rfl d_Sm_tellRay_1 ?_
  refine va_getN (D := D) (ci := 1) (v := .ref q0_point_x) (C := "ConeForge$Point") (T := FPt) (N := 3) hx hb hts iPt hown hK hP 1 rfl rfl 0 (by decide) (hNW.use nw35) (fun _ h9 => h9) rfl d_Sm_tellRay_4 ?_
  refine lv_iload_n hx hb d_Sm_tellRay_7 rfl (lv_at hl 1 rfl) ?_
  refine lv_dconst1 hx hb d_Sm_tellRay_8 ?_
  obtain ⟨g8, h⟩ := gd_some h
  refine va_dast hx hb hK hP hD hS 2 0 rfl rfl (inb_in g8) d_Sm_tellRay_9 (fun H locs hP hD hS => ?_)
  have hP : va_P D CL (w_Sm_tellRay T q0 q0_problem q0_point q0_table q0_right q0_cost q0_basic q0_point_x q0_point_s q0_point_y Rq0_table vq0_rows vq0_variables vq0_columns vq0_stepsDone (vf_upd vq0_point_x x1.toNatClampNeg FP.dconst1) vq0_table vq0_basic) H := hP
  have hD : va_D A (w_Sm_tellRay T q0 q0_problem q0_point q0_table q0_right q0_cost q0_basic q0_point_x q0_point_s q0_point_y Rq0_table vq0_rows vq0_variables vq0_columns vq0_stepsDone (vf_upd vq0_point_x x1.toNatClampNeg FP.dconst1) vq0_table vq0_basic) := hD
  refine lv_iconst (v := 0) hx hb d_Sm_tellRay_10 (by decide) ?_
  refine lv_istore_n (lv' := [(2, .int 0), (0, .ref q0), (1, .int x1)]) hx hb d_Sm_tellRay_11 rfl hl (by decide) rfl (fun ls hl => ?_)
  exact L12 (vf_upd vq0_point_x x1.toNatClampNeg FP.dconst1) x1 0 H locs ls hP hD hS (lv_sub hl [1, 2, 0] rfl) h
theorem d_Sm_takeAway_0 : decode prog_7_method_12_code 0 = .ok (.iconst 0, 1) := by decide +kernel
theorem d_Sm_takeAway_1 : decode prog_7_method_12_code 1 = .ok (.istore 5, 2) := by decide +kernel
theorem d_Sm_takeAway_3 : decode prog_7_method_12_code 3 = .ok (.iload 5, 2) := by decide +kernel
theorem d_Sm_takeAway_5 : decode prog_7_method_12_code 5 = .ok (.aload_n 0, 1) := by decide +kernel
theorem d_Sm_takeAway_6 : decode prog_7_method_12_code 6 = .ok (.getfield 48, 3) := by decide +kernel
theorem d_Sm_takeAway_9 : decode prog_7_method_12_code 9 = .ok (.if_icmp .ge 39, 3) := by decide +kernel
theorem d_Sm_takeAway_12 : decode prog_7_method_12_code 12 = .ok (.aload_n 0, 1) := by decide +kernel
theorem d_Sm_takeAway_13 : decode prog_7_method_12_code 13 = .ok (.getfield 27, 3) := by decide +kernel
theorem d_Sm_takeAway_16 : decode prog_7_method_12_code 16 = .ok (.iload_n 1, 1) := by decide +kernel
theorem d_Sm_takeAway_17 : decode prog_7_method_12_code 17 = .ok (.aaload, 1) := by decide +kernel
theorem d_Sm_takeAway_18 : decode prog_7_method_12_code 18 = .ok (.iload 5, 2) := by decide +kernel
theorem d_Sm_takeAway_20 : decode prog_7_method_12_code 20 = .ok (.aload_n 0, 1) := by decide +kernel
theorem d_Sm_takeAway_21 : decode prog_7_method_12_code 21 = .ok (.getfield 27, 3) := by decide +kernel
theorem d_Sm_takeAway_24 : decode prog_7_method_12_code 24 = .ok (.iload_n 1, 1) := by decide +kernel
theorem d_Sm_takeAway_25 : decode prog_7_method_12_code 25 = .ok (.aaload, 1) := by decide +kernel
theorem d_Sm_takeAway_26 : decode prog_7_method_12_code 26 = .ok (.iload 5, 2) := by decide +kernel
theorem d_Sm_takeAway_28 : decode prog_7_method_12_code 28 = .ok (.daload, 1) := by decide +kernel
theorem d_Sm_takeAway_29 : decode prog_7_method_12_code 29 = .ok (.dload_n 3, 1) := by decide +kernel
theorem d_Sm_takeAway_30 : decode prog_7_method_12_code 30 = .ok (.aload_n 0, 1) := by decide +kernel
theorem d_Sm_takeAway_31 : decode prog_7_method_12_code 31 = .ok (.getfield 27, 3) := by decide +kernel
theorem d_Sm_takeAway_34 : decode prog_7_method_12_code 34 = .ok (.iload_n 2, 1) := by decide +kernel
theorem d_Sm_takeAway_35 : decode prog_7_method_12_code 35 = .ok (.aaload, 1) := by decide +kernel
theorem d_Sm_takeAway_36 : decode prog_7_method_12_code 36 = .ok (.iload 5, 2) := by decide +kernel
theorem d_Sm_takeAway_38 : decode prog_7_method_12_code 38 = .ok (.daload, 1) := by decide +kernel
theorem d_Sm_takeAway_39 : decode prog_7_method_12_code 39 = .ok (.dmul, 1) := by decide +kernel
theorem d_Sm_takeAway_40 : decode prog_7_method_12_code 40 = .ok (.dsub, 1) := by decide +kernel
theorem d_Sm_takeAway_41 : decode prog_7_method_12_code 41 = .ok (.dastore, 1) := by decide +kernel
theorem d_Sm_takeAway_42 : decode prog_7_method_12_code 42 = .ok (.iinc 5 1, 3) := by decide +kernel
theorem d_Sm_takeAway_45 : decode prog_7_method_12_code 45 = .ok (.goto (-42), 3) := by decide +kernel
theorem d_Sm_takeAway_48 : decode prog_7_method_12_code 48 = .ok (.aload_n 0, 1) := by decide +kernel
theorem d_Sm_takeAway_49 : decode prog_7_method_12_code 49 = .ok (.getfield 30, 3) := by decide +kernel
theorem d_Sm_takeAway_52 : decode prog_7_method_12_code 52 = .ok (.iload_n 1, 1) := by decide +kernel
theorem d_Sm_takeAway_53 : decode prog_7_method_12_code 53 = .ok (.aload_n 0, 1) := by decide +kernel
theorem d_Sm_takeAway_54 : decode prog_7_method_12_code 54 = .ok (.getfield 30, 3) := by decide +kernel
theorem d_Sm_takeAway_57 : decode prog_7_method_12_code 57 = .ok (.iload_n 1, 1) := by decide +kernel
theorem d_Sm_takeAway_58 : decode prog_7_method_12_code 58 = .ok (.daload, 1) := by decide +kernel
theorem d_Sm_takeAway_59 : decode prog_7_method_12_code 59 = .ok (.dload_n 3, 1) := by decide +kernel
theorem d_Sm_takeAway_60 : decode prog_7_method_12_code 60 = .ok (.aload_n 0, 1) := by decide +kernel
theorem d_Sm_takeAway_61 : decode prog_7_method_12_code 61 = .ok (.getfield 30, 3) := by decide +kernel
theorem d_Sm_takeAway_64 : decode prog_7_method_12_code 64 = .ok (.iload_n 2, 1) := by decide +kernel
theorem d_Sm_takeAway_65 : decode prog_7_method_12_code 65 = .ok (.daload, 1) := by decide +kernel
theorem d_Sm_takeAway_66 : decode prog_7_method_12_code 66 = .ok (.dmul, 1) := by decide +kernel
theorem d_Sm_takeAway_67 : decode prog_7_method_12_code 67 = .ok (.dsub, 1) := by decide +kernel
theorem d_Sm_takeAway_68 : decode prog_7_method_12_code 68 = .ok (.dastore, 1) := by decide +kernel
theorem d_Sm_takeAway_69 : decode prog_7_method_12_code 69 = .ok (.return_, 1) := by decide +kernel
abbrev w_Sm_takeAway (T : Nat → ClassId) (q0 : Nat) (q0_problem : Nat) (q0_point : Nat) (q0_table : Nat) (q0_right : Nat) (q0_cost : Nat) (q0_basic : Nat) (Rq0_table : Nat → Nat) (vq0_rows : Int32) (vq0_variables : Int32) (vq0_columns : Int32) (vq0_stepsDone : Int32) (vq0_table : Nat → Nat → UInt64) (vq0_right : Nat → UInt64) : va_W := [(q0, .inr (6, [.ref q0_problem, .ref q0_point, .ref q0_table, .ref q0_right, .ref q0_cost, .ref q0_basic, .int vq0_rows, .int vq0_variables, .int vq0_columns, .int vq0_stepsDone])), (q0_table, .inl (T 3, 5, .inr (.inr (.inr (.inr (fun i => some (Rq0_table i))))))), (Rq0_table 0, .inl (T 0, 13, .inr (.inr (.inr (.inl (vq0_table 0)))))), (Rq0_table 1, .inl (T 0, 13, .inr (.inr (.inr (.inl (vq0_table 1)))))), (Rq0_table 2, .inl (T 0, 13, .inr (.inr (.inr (.inl (vq0_table 2)))))), (Rq0_table 3, .inl (T 0, 13, .inr (.inr (.inr (.inl (vq0_table 3)))))), (Rq0_table 4, .inl (T 0, 13, .inr (.inr (.inr (.inl (vq0_table 4)))))), (q0_right, .inl (T 0, 5, .inr (.inr (.inr (.inl vq0_right)))))]
def s_Sm_takeAway_B3 (vq0_rows : Int32) (vq0_variables : Int32) (vq0_columns : Int32) (vq0_stepsDone : Int32) (vq0_right : Nat → UInt64) (x1 : Int32) (x2 : Int32) (x3 : UInt64) (vq0_table : Nat → Nat → UInt64) (x5 : Int32) : Option (((Nat → Nat → UInt64) × Int32) ⊕ ((Nat → Nat → UInt64))) :=
  if vq0_columns ≤ x5 then (some (.inr vq0_table)) else (gd (inb x1 5) <| gd (inb x1 5) <| gd (inb x5 13) <| gd (inb x2 5) <| gd (inb x5 13) <| gd (isn (FP.dmul x3 (vq0_table x2.toNatClampNeg x5.toNatClampNeg))) <| gd (isn (FP.dsub (vq0_table x1.toNatClampNeg x5.toNatClampNeg) (FP.dmul x3 (vq0_table x2.toNatClampNeg x5.toNatClampNeg)))) <| gd (inb x5 13) <| some (.inl (gset vq0_table x1.toNatClampNeg (vf_upd (vq0_table x1.toNatClampNeg) x5.toNatClampNeg (FP.dsub (vq0_table x1.toNatClampNeg x5.toNatClampNeg) (FP.dmul x3 (vq0_table x2.toNatClampNeg x5.toNatClampNeg)))), x5 + 1)))
def s_Sm_takeAway_L3 (vq0_rows : Int32) (vq0_variables : Int32) (vq0_columns : Int32) (vq0_stepsDone : Int32) (vq0_table : Nat → Nat → UInt64) (vq0_right : Nat → UInt64) (x1 : Int32) (x2 : Int32) (x3 : UInt64) (x5 : Int32) : Option ((Nat → Nat → UInt64) × (Nat → UInt64)) :=
  (loopO (fun (st : (Nat → Nat → UInt64) × Int32) => s_Sm_takeAway_B3 vq0_rows vq0_variables vq0_columns vq0_stepsDone vq0_right x1 x2 x3 st.1 st.2) 2000 (vq0_table, x5)).bind fun ul3 => gd (inb x1 5) <| gd (inb x2 5) <| gd (isn (FP.dmul x3 (vq0_right x2.toNatClampNeg))) <| gd (isn (FP.dsub (vq0_right x1.toNatClampNeg) (FP.dmul x3 (vq0_right x2.toNatClampNeg)))) <| gd (inb x1 5) <| some (ul3, vf_upd vq0_right x1.toNatClampNeg (FP.dsub (vq0_right x1.toNatClampNeg) (FP.dmul x3 (vq0_right x2.toNatClampNeg))))
def s_Sm_takeAway (vq0_rows : Int32) (vq0_variables : Int32) (vq0_columns : Int32) (vq0_stepsDone : Int32) (vq0_table : Nat → Nat → UInt64) (vq0_right : Nat → UInt64) (x1 : Int32) (x2 : Int32) (x3 : UInt64) : Option ((Nat → Nat → UInt64) × (Nat → UInt64)) :=
  s_Sm_takeAway_L3 vq0_rows vq0_variables vq0_columns vq0_stepsDone vq0_table vq0_right x1 x2 x3 0
set_option maxHeartbeats 40000000 in
set_option maxRecDepth 100000 in
theorem c_Sm_takeAway (l : Launch) (D : va_G) (T : Nat → ClassId) (q0 : Nat) (q0_problem : Nat) (q0_point : Nat) (q0_table : Nat) (q0_right : Nat) (q0_cost : Nat) (q0_basic : Nat) (Rq0_table : Nat → Nat) (vq0_rows : Int32) (vq0_variables : Int32) (vq0_columns : Int32) (vq0_stepsDone : Int32) (vq0_table : Nat → Nat → UInt64) (vq0_right : Nat → UInt64) (x1 : Int32) (x2 : Int32) (x3 : UInt64) (rm : (Nat → Nat → UInt64) × (Nat → UInt64)) (h : s_Sm_takeAway vq0_rows vq0_variables vq0_columns vq0_stepsDone vq0_table vq0_right x1 x2 x3 = some rm) : CtV l y_Sm_takeAway (Cond.code y_Sm_takeAway prog_7_method_12_code 6 none :: BIG) 0 0 D T [.ref q0, .int x1, .int x2, .double x3] (w_Sm_takeAway T q0 q0_problem q0_point q0_table q0_right q0_cost q0_basic Rq0_table vq0_rows vq0_variables vq0_columns vq0_stepsDone vq0_table vq0_right) (fun r => (w_Sm_takeAway T q0 q0_problem q0_point q0_table q0_right q0_cost q0_basic Rq0_table vq0_rows vq0_variables vq0_columns vq0_stepsDone r.1 r.2)) rm := by
  refine cf_entry (y := y_Sm_takeAway) (cc := prog_7_method_12_code) (nL := 6) (ret := none) (fr := 0) (lo := 0) (T := T) (av := [.ref q0, .int x1, .int x2, .double x3]) (w := (w_Sm_takeAway T q0 q0_problem q0_point q0_table q0_right q0_cost q0_basic Rq0_table vq0_rows vq0_variables vq0_columns vq0_stepsDone vq0_table vq0_right)) (Qc := cfQv D (fun r => (w_Sm_takeAway T q0 q0_problem q0_point q0_table q0_right q0_cost q0_basic Rq0_table vq0_rows vq0_variables vq0_columns vq0_stepsDone r.1 r.2)) rm) (by decide) rfl (Nat.le_of_ble_eq_true rfl) ?_
  intro p e s m args below meth c A Q H locs ls hx hb hr hlocks hml hown hts hNW hK hA hQ hP hD hS hl
  have hown : s.vm.findClass "ConeForge$SimplexMethod" = some m.cls := hown
  have hl : lv_has ls 6 [(0, .ref q0), (1, .int x1), (2, .int x2), (3, .double x3)] := hl
  have L3 : ∀ (vq0_table : Nat → Nat → UInt64) (vq0_right : Nat → UInt64) (x1 : Int32) (x2 : Int32) (x3 : UInt64) (x5 : Int32), ∀ (H : Heap) (locs : List Loc) (ls : Array Slot), va_P D CL (w_Sm_takeAway T q0 q0_problem q0_point q0_table q0_right q0_cost q0_basic Rq0_table vq0_rows vq0_variables vq0_columns vq0_stepsDone vq0_table vq0_right) H → va_D A (w_Sm_takeAway T q0 q0_problem q0_point q0_table q0_right q0_cost q0_basic Rq0_table vq0_rows vq0_variables vq0_columns vq0_stepsDone vq0_table vq0_right) → va_S A s.heap H locs → lv_has ls 6 [(0, .ref q0), (1, .int x1), (2, .int x2), (3, .double x3), (5, .int x5)] → s_Sm_takeAway_L3 vq0_rows vq0_variables vq0_columns vq0_stepsDone vq0_table vq0_right x1 x2 x3 x5 = some rm → W p l e (rmk 0 0) s m args below meth c H locs 0 0 Q (F0 m 3 ls []) := by
    intro vq0_table vq0_right x1 x2 x3 x5 H locs ls hP hD hS hl h
    unfold s_Sm_takeAway_L3 at h
    obtain ⟨ul3, hul3, h⟩ := bi_some h
    refine loopO_W (Wh := fun (st : (Nat → Nat → UInt64) × Int32) => ∀ (H : Heap) (locs : List Loc) (ls : Array Slot), va_P D CL (w_Sm_takeAway T q0 q0_problem q0_point q0_table q0_right q0_cost q0_basic Rq0_table vq0_rows vq0_variables vq0_columns vq0_stepsDone st.1 vq0_right) H → va_D A (w_Sm_takeAway T q0 q0_problem q0_point q0_table q0_right q0_cost q0_basic Rq0_table vq0_rows vq0_variables vq0_columns vq0_stepsDone st.1 vq0_right) → va_S A s.heap H locs → lv_has ls 6 [(0, .ref q0), (1, .int x1), (2, .int x2), (3, .double x3), (5, .int st.2)] → W p l e (rmk 0 0) s m args below meth c H locs 0 0 Q (F0 m 3 ls [])) (Wx := fun (e1 : (Nat → Nat → UInt64)) => ∀ (H : Heap) (locs : List Loc) (ls : Array Slot), va_P D CL (w_Sm_takeAway T q0 q0_problem q0_point q0_table q0_right q0_cost q0_basic Rq0_table vq0_rows vq0_variables vq0_columns vq0_stepsDone e1 vq0_right) H → va_D A (w_Sm_takeAway T q0 q0_problem q0_point q0_table q0_right q0_cost q0_basic Rq0_table vq0_rows vq0_variables vq0_columns vq0_stepsDone e1 vq0_right) → va_S A s.heap H locs → lv_has ls 6 [(0, .ref q0), (1, .int x1), (2, .int x2), (3, .double x3)] → W p l e (rmk 0 0) s m args below meth c H locs 0 0 Q (F0 m 48 ls [])) ?_ 2000 _ ul3 hul3 ?_ H locs ls hP hD hS hl
    · intro st rb3 h kc3 kx3 H locs ls hP hD hS hl
      obtain ⟨vq0_table, x5⟩ := st
      have h : s_Sm_takeAway_B3 vq0_rows vq0_variables vq0_columns vq0_stepsDone vq0_right x1 x2 x3 vq0_table x5 = some rb3 := h
      unfold s_Sm_takeAway_B3 at h
      refine lv_iload hx hb d_Sm_takeAway_3 (lv_at hl 4 rfl) ?_
      refine lv_aload_n hx hb d_Sm_takeAway_5 rfl (lv_at hl 0 rfl) ?_
      refine va_get (D := D) (ci := 6) (v := .int vq0_columns) (C := "ConeForge$SimplexMethod") (T := FSm) (N := 10) hx hb hts iSm hown hK hP 0 rfl rfl 8 (by decide) (hts _ (bgc bw248)) (fun _ h9 => h9) rfl d_Sm_takeAway_6 ?_
      refine lv_icmp_ge (tgt := 48) hx hb d_Sm_takeAway_9 (by decide) (fun c1 => ?_) (fun c1 => ?_)
      · have h := it_t c1 h
        exact kx3 _ (Option.some.inj h).symm H locs ls hP hD hS (lv_sub hl [0, 1, 2, 3] rfl)
      · have h := it_f c1 h
        refine lv_aload_n hx hb d_Sm_takeAway_12 rfl (lv_at hl 0 rfl) ?_
        refine va_get (D := D) (ci := 6) (v := .ref q0_table) (C := "ConeForge$SimplexMethod") (T := FSm) (N := 10) hx hb hts iSm hown hK hP 0 rfl rfl 2 (by decide) (hts _ (bgc bw242)) (fun _ h9 => h9) rfl d_Sm_takeAway_13 ?_
        refine lv_iload_n hx hb d_Sm_takeAway_16 rfl (lv_at hl 1 rfl) ?_
        obtain ⟨g2, h⟩ := gd_some h
        refine va_aldg (f := Rq0_table) hx hb hK hP 1 3 rfl rfl (inb_in g2) d_Sm_takeAway_17 ?_
        refine lv_iload hx hb d_Sm_takeAway_18 (lv_at hl 4 rfl) ?_
        refine lv_aload_n hx hb d_Sm_takeAway_20 rfl (lv_at hl 0 rfl) ?_
        refine va_get (D := D) (ci := 6) (v := .ref q0_table) (C := "ConeForge$SimplexMethod") (T := FSm) (N := 10) hx hb hts iSm hown hK hP 0 rfl rfl 2 (by decide) (hts _ (bgc bw242)) (fun _ h9 => h9) rfl d_Sm_takeAway_21 ?_
        refine lv_iload_n hx hb d_Sm_takeAway_24 rfl (lv_at hl 1 rfl) ?_
        obtain ⟨g3, h⟩ := gd_some h
        refine va_aldg (f := Rq0_table) hx hb hK hP 1 3 rfl rfl (inb_in g3) d_Sm_takeAway_25 ?_
        refine lv_iload hx hb d_Sm_takeAway_26 (lv_at hl 4 rfl) ?_
        obtain ⟨g4, h⟩ := gd_some h
        refine va_dald hx hb hK hP (2 + x1.toNatClampNeg) 0 (gk5 (P := fun k => (w_Sm_takeAway T q0 q0_problem q0_point q0_table q0_right q0_cost q0_basic Rq0_table vq0_rows vq0_variables vq0_columns vq0_stepsDone vq0_table vq0_right)[2 + k]? = some (Rq0_table k, .inl (T 0, 13, .inr (.inr (.inr (.inl (vq0_table k))))))) rfl rfl rfl rfl rfl _ (inb_lt g3)) rfl (inb_in g4) d_Sm_takeAway_28 ?_
        refine lv_dload_n hx hb d_Sm_takeAway_29 rfl (lv_at hl 3 rfl) ?_
        refine lv_aload_n hx hb d_Sm_takeAway_30 rfl (lv_at hl 0 rfl) ?_
        refine va_get (D := D) (ci := 6) (v := .ref q0_table) (C := "ConeForge$SimplexMethod") (T := FSm) (N := 10) hx hb hts iSm hown hK hP 0 rfl rfl 2 (by decide) (hts _ (bgc bw242)) (fun _ h9 => h9) rfl d_Sm_takeAway_31 ?_
        refine lv_iload_n hx hb d_Sm_takeAway_34 rfl (lv_at hl 2 rfl) ?_
        obtain ⟨g5, h⟩ := gd_some h
        refine va_aldg (f := Rq0_table) hx hb hK hP 1 3 rfl rfl (inb_in g5) d_Sm_takeAway_35 ?_
        refine lv_iload hx hb d_Sm_takeAway_36 (lv_at hl 4 rfl) ?_
        obtain ⟨g6, h⟩ := gd_some h
        refine va_dald hx hb hK hP (2 + x2.toNatClampNeg) 0 (gk5 (P := fun k => (w_Sm_takeAway T q0 q0_problem q0_point q0_table q0_right q0_cost q0_basic Rq0_table vq0_rows vq0_variables vq0_columns vq0_stepsDone vq0_table vq0_right)[2 + k]? = some (Rq0_table k, .inl (T 0, 13, .inr (.inr (.inr (.inl (vq0_table k))))))) rfl rfl rfl rfl rfl _ (inb_lt g5)) rfl (inb_in g6) d_Sm_takeAway_38 ?_
        obtain ⟨g7, h⟩ := gd_some h
        refine lv_dmul hx hb d_Sm_takeAway_39 (isn_n g7) ?_
        obtain ⟨g8, h⟩ := gd_some h
        refine lv_dsub hx hb d_Sm_takeAway_40 (isn_n g8) ?_
        obtain ⟨g9, h⟩ := gd_some h
        refine va_dast hx hb hK hP hD hS (2 + x1.toNatClampNeg) 0 (gk5 (P := fun k => (w_Sm_takeAway T q0 q0_problem q0_point q0_table q0_right q0_cost q0_basic Rq0_table vq0_rows vq0_variables vq0_columns vq0_stepsDone vq0_table vq0_right)[2 + k]? = some (Rq0_table k, .inl (T 0, 13, .inr (.inr (.inr (.inl (vq0_table k))))))) rfl rfl rfl rfl rfl _ (inb_lt g3)) rfl (inb_in g9) d_Sm_takeAway_41 (fun H locs hP hD hS => ?_)
        have e10 : ∀ zz : Nat → UInt64, (w_Sm_takeAway T q0 q0_problem q0_point q0_table q0_right q0_cost q0_basic Rq0_table vq0_rows vq0_variables vq0_columns vq0_stepsDone vq0_table vq0_right).set (2 + x1.toNatClampNeg) (Rq0_table x1.toNatClampNeg, .inl (T 0, 13, .inr (.inr (.inr (.inl zz))))) = (w_Sm_takeAway T q0 q0_problem q0_point q0_table q0_right q0_cost q0_basic Rq0_table vq0_rows vq0_variables vq0_columns vq0_stepsDone (gset vq0_table x1.toNatClampNeg zz) vq0_right) := fun zz => gk5 (P := fun k => (w_Sm_takeAway T q0 q0_problem q0_point q0_table q0_right q0_cost q0_basic Rq0_table vq0_rows vq0_variables vq0_columns vq0_stepsDone vq0_table vq0_right).set (2 + k) (Rq0_table k, .inl (T 0, 13, .inr (.inr (.inr (.inl zz))))) = (w_Sm_takeAway T q0 q0_problem q0_point q0_table q0_right q0_cost q0_basic Rq0_table vq0_rows vq0_variables vq0_columns vq0_stepsDone (gset vq0_table k zz) vq0_right)) rfl rfl rfl rfl rfl _ (inb_lt g3)
        have hP : va_P D CL (w_Sm_takeAway T q0 q0_problem q0_point q0_table q0_right q0_cost q0_basic Rq0_table vq0_rows vq0_variables vq0_columns vq0_stepsDone (gset vq0_table x1.toNatClampNeg (vf_upd (vq0_table x1.toNatClampNeg) x5.toNatClampNeg (FP.dsub (vq0_table x1.toNatClampNeg x5.toNatClampNeg) (FP.dmul x3 (vq0_table x2.toNatClampNeg x5.toNatClampNeg))))) vq0_right) H := (e10 _) ▸ hP
        have hD : va_D A (w_Sm_takeAway T q0 q0_problem q0_point q0_table q0_right q0_cost q0_basic Rq0_table vq0_rows vq0_variables vq0_columns vq0_stepsDone (gset vq0_table x1.toNatClampNeg (vf_upd (vq0_table x1.toNatClampNeg) x5.toNatClampNeg (FP.dsub (vq0_table x1.toNatClampNeg x5.toNatClampNeg) (FP.dmul x3 (vq0_table x2.toNatClampNeg x5.toNatClampNeg))))) vq0_right) := (e10 _) ▸ hD
        refine lv_iinc (v := x5 + 1) (lv' := [(5, .int (x5 + 1)), (0, .ref q0), (1, .int x1), (2, .int x2), (3, .double x3)]) hx hb d_Sm_takeAway_42 hl (k := 4) rfl rfl (by decide) rfl (fun ls hl => ?_)
        refine lv_goto (tgt := 3) hx hb d_Sm_takeAway_45 (by decide) ?_
        exact kc3 _ (Option.some.inj h).symm H locs ls hP hD hS (lv_sub hl [1, 2, 3, 4, 0] rfl)
    · intro H locs ls hP hD hS hl
      refine lv_aload_n hx hb d_Sm_takeAway_48 rfl (lv_at hl 0 rfl) ?_
      refine va_get (D := D) (ci := 6) (v := .ref q0_right) (C := "ConeForge$SimplexMethod") (T := FSm) (N := 10) hx hb hts iSm hown hK hP 0 rfl rfl 3 (by decide) (hts _ (bgc bw243)) (fun _ h9 => h9) rfl d_Sm_takeAway_49 ?_
      refine lv_iload_n hx hb d_Sm_takeAway_52 rfl (lv_at hl 1 rfl) ?_
      refine lv_aload_n hx hb d_Sm_takeAway_53 rfl (lv_at hl 0 rfl) ?_
      refine va_get (D := D) (ci := 6) (v := .ref q0_right) (C := "ConeForge$SimplexMethod") (T := FSm) (N := 10) hx hb hts iSm hown hK hP 0 rfl rfl 3 (by decide) (hts _ (bgc bw243)) (fun _ h9 => h9) rfl d_Sm_takeAway_54 ?_
      refine lv_iload_n hx hb d_Sm_takeAway_57 rfl (lv_at hl 1 rfl) ?_
      obtain ⟨g11, h⟩ := gd_some h
      refine va_dald hx hb hK hP 7 0 rfl rfl (inb_in g11) d_Sm_takeAway_58 ?_
      refine lv_dload_n hx hb d_Sm_takeAway_59 rfl (lv_at hl 3 rfl) ?_
      refine lv_aload_n hx hb d_Sm_takeAway_60 rfl (lv_at hl 0 rfl) ?_
      refine va_get (D := D) (ci := 6) (v := .ref q0_right) (C := "ConeForge$SimplexMethod") (T := FSm) (N := 10) hx hb hts iSm hown hK hP 0 rfl rfl 3 (by decide) (hts _ (bgc bw243)) (fun _ h9 => h9) rfl d_Sm_takeAway_61 ?_
      refine lv_iload_n hx hb d_Sm_takeAway_64 rfl (lv_at hl 2 rfl) ?_
      obtain ⟨g12, h⟩ := gd_some h
      refine va_dald hx hb hK hP 7 0 rfl rfl (inb_in g12) d_Sm_takeAway_65 ?_
      obtain ⟨g13, h⟩ := gd_some h
      refine lv_dmul hx hb d_Sm_takeAway_66 (isn_n g13) ?_
      obtain ⟨g14, h⟩ := gd_some h
      refine lv_dsub hx hb d_Sm_takeAway_67 (isn_n g14) ?_
      obtain ⟨g15, h⟩ := gd_some h
      refine va_dast hx hb hK hP hD hS 7 0 rfl rfl (inb_in g15) d_Sm_takeAway_68 (fun H locs hP hD hS => ?_)
      have hP : va_P D CL (w_Sm_takeAway T q0 q0_problem q0_point q0_table q0_right q0_cost q0_basic Rq0_table vq0_rows vq0_variables vq0_columns vq0_stepsDone ul3 (vf_upd vq0_right x1.toNatClampNeg (FP.dsub (vq0_right x1.toNatClampNeg) (FP.dmul x3 (vq0_right x2.toNatClampNeg))))) H := hP
      have hD : va_D A (w_Sm_takeAway T q0 q0_problem q0_point q0_table q0_right q0_cost q0_basic Rq0_table vq0_rows vq0_variables vq0_columns vq0_stepsDone ul3 (vf_upd vq0_right x1.toNatClampNeg (FP.dsub (vq0_right x1.toNatClampNeg) (FP.dmul x3 (vq0_right x2.toNatClampNeg))))) := hD
      exact rtV hx hb hr hlocks hQ (Option.some.inj h) hP hS d_Sm_takeAway_69 rfl
  unfold s_Sm_takeAway at h
  refine lv_iconst (v := 0) hx hb d_Sm_takeAway_0 (by decide) ?_
  refine lv_istore (lv' := [(5, .int 0), (0, .ref q0), (1, .int x1), (2, .int x2), (3, .double x3)]) hx hb d_Sm_takeAway_1 hl (by decide) rfl (fun ls hl => ?_)
  exact L3 vq0_table vq0_right x1 x2 x3 0 H locs ls hP hD hS (lv_sub hl [1, 2, 3, 4, 0] rfl) h
