theorem d_Im_measure_0 : decode prog_3_method_3_code 0 = .ok (.iconst 0, 1) := by decide +kernel
theorem d_Im_measure_1 : decode prog_3_method_3_code 1 = .ok (.istore_n 1, 1) := by decide +kernel
theorem d_Im_measure_2 : decode prog_3_method_3_code 2 = .ok (.iload_n 1, 1) := by decide +kernel
theorem d_Im_measure_3 : decode prog_3_method_3_code 3 = .ok (.aload_n 0, 1) := by decide +kernel
theorem d_Im_measure_4 : decode prog_3_method_3_code 4 = .ok (.getfield 12, 3) := by decide +kernel
theorem d_Im_measure_7 : decode prog_3_method_3_code 7 = .ok (.getfield 85, 3) := by decide +kernel
theorem d_Im_measure_10 : decode prog_3_method_3_code 10 = .ok (.if_icmp .ge 39, 3) := by decide +kernel
theorem d_Im_measure_13 : decode prog_3_method_3_code 13 = .ok (.aload_n 0, 1) := by decide +kernel
theorem d_Im_measure_14 : decode prog_3_method_3_code 14 = .ok (.getfield 32, 3) := by decide +kernel
theorem d_Im_measure_17 : decode prog_3_method_3_code 17 = .ok (.iload_n 1, 1) := by decide +kernel
theorem d_Im_measure_18 : decode prog_3_method_3_code 18 = .ok (.aload_n 0, 1) := by decide +kernel
theorem d_Im_measure_19 : decode prog_3_method_3_code 19 = .ok (.getfield 12, 3) := by decide +kernel
theorem d_Im_measure_22 : decode prog_3_method_3_code 22 = .ok (.aload_n 0, 1) := by decide +kernel
theorem d_Im_measure_23 : decode prog_3_method_3_code 23 = .ok (.getfield 12, 3) := by decide +kernel
theorem d_Im_measure_26 : decode prog_3_method_3_code 26 = .ok (.getfield 88, 3) := by decide +kernel
theorem d_Im_measure_29 : decode prog_3_method_3_code 29 = .ok (.iload_n 1, 1) := by decide +kernel
theorem d_Im_measure_30 : decode prog_3_method_3_code 30 = .ok (.daload, 1) := by decide +kernel
theorem d_Im_measure_31 : decode prog_3_method_3_code 31 = .ok (.iload_n 1, 1) := by decide +kernel
theorem d_Im_measure_32 : decode prog_3_method_3_code 32 = .ok (.aload_n 0, 1) := by decide +kernel
theorem d_Im_measure_33 : decode prog_3_method_3_code 33 = .ok (.getfield 21, 3) := by decide +kernel
theorem d_Im_measure_36 : decode prog_3_method_3_code 36 = .ok (.getfield 91, 3) := by decide +kernel
theorem d_Im_measure_39 : decode prog_3_method_3_code 39 = .ok (.invokevirtual 94, 3) := by decide +kernel
theorem d_Im_measure_42 : decode prog_3_method_3_code 42 = .ok (.dastore, 1) := by decide +kernel
theorem d_Im_measure_43 : decode prog_3_method_3_code 43 = .ok (.iinc 1 1, 3) := by decide +kernel
theorem d_Im_measure_46 : decode prog_3_method_3_code 46 = .ok (.goto (-44), 3) := by decide +kernel
theorem d_Im_measure_49 : decode prog_3_method_3_code 49 = .ok (.iconst 0, 1) := by decide +kernel
theorem d_Im_measure_50 : decode prog_3_method_3_code 50 = .ok (.istore_n 1, 1) := by decide +kernel
theorem d_Im_measure_51 : decode prog_3_method_3_code 51 = .ok (.iload_n 1, 1) := by decide +kernel
theorem d_Im_measure_52 : decode prog_3_method_3_code 52 = .ok (.aload_n 0, 1) := by decide +kernel
theorem d_Im_measure_53 : decode prog_3_method_3_code 53 = .ok (.getfield 12, 3) := by decide +kernel
theorem d_Im_measure_56 : decode prog_3_method_3_code 56 = .ok (.getfield 98, 3) := by decide +kernel
theorem d_Im_measure_59 : decode prog_3_method_3_code 59 = .ok (.if_icmp .ge 49, 3) := by decide +kernel
theorem d_Im_measure_62 : decode prog_3_method_3_code 62 = .ok (.aload_n 0, 1) := by decide +kernel
theorem d_Im_measure_63 : decode prog_3_method_3_code 63 = .ok (.getfield 36, 3) := by decide +kernel
theorem d_Im_measure_66 : decode prog_3_method_3_code 66 = .ok (.iload_n 1, 1) := by decide +kernel
theorem d_Im_measure_67 : decode prog_3_method_3_code 67 = .ok (.aload_n 0, 1) := by decide +kernel
theorem d_Im_measure_68 : decode prog_3_method_3_code 68 = .ok (.getfield 12, 3) := by decide +kernel
theorem d_Im_measure_71 : decode prog_3_method_3_code 71 = .ok (.aload_n 0, 1) := by decide +kernel
theorem d_Im_measure_72 : decode prog_3_method_3_code 72 = .ok (.getfield 12, 3) := by decide +kernel
theorem d_Im_measure_75 : decode prog_3_method_3_code 75 = .ok (.getfield 101, 3) := by decide +kernel
theorem d_Im_measure_78 : decode prog_3_method_3_code 78 = .ok (.iload_n 1, 1) := by decide +kernel
theorem d_Im_measure_79 : decode prog_3_method_3_code 79 = .ok (.daload, 1) := by decide +kernel
theorem d_Im_measure_80 : decode prog_3_method_3_code 80 = .ok (.iload_n 1, 1) := by decide +kernel
theorem d_Im_measure_81 : decode prog_3_method_3_code 81 = .ok (.aload_n 0, 1) := by decide +kernel
theorem d_Im_measure_82 : decode prog_3_method_3_code 82 = .ok (.getfield 21, 3) := by decide +kernel
theorem d_Im_measure_85 : decode prog_3_method_3_code 85 = .ok (.getfield 104, 3) := by decide +kernel
theorem d_Im_measure_88 : decode prog_3_method_3_code 88 = .ok (.invokevirtual 107, 3) := by decide +kernel
theorem d_Im_measure_91 : decode prog_3_method_3_code 91 = .ok (.aload_n 0, 1) := by decide +kernel
theorem d_Im_measure_92 : decode prog_3_method_3_code 92 = .ok (.getfield 21, 3) := by decide +kernel
theorem d_Im_measure_95 : decode prog_3_method_3_code 95 = .ok (.getfield 110, 3) := by decide +kernel
theorem d_Im_measure_98 : decode prog_3_method_3_code 98 = .ok (.iload_n 1, 1) := by decide +kernel
theorem d_Im_measure_99 : decode prog_3_method_3_code 99 = .ok (.daload, 1) := by decide +kernel
theorem d_Im_measure_100 : decode prog_3_method_3_code 100 = .ok (.dsub, 1) := by decide +kernel
theorem d_Im_measure_101 : decode prog_3_method_3_code 101 = .ok (.dastore, 1) := by decide +kernel
theorem d_Im_measure_102 : decode prog_3_method_3_code 102 = .ok (.iinc 1 1, 3) := by decide +kernel
theorem d_Im_measure_105 : decode prog_3_method_3_code 105 = .ok (.goto (-54), 3) := by decide +kernel
theorem d_Im_measure_108 : decode prog_3_method_3_code 108 = .ok (.aload_n 0, 1) := by decide +kernel
theorem d_Im_measure_109 : decode prog_3_method_3_code 109 = .ok (.aload_n 0, 1) := by decide +kernel
theorem d_Im_measure_110 : decode prog_3_method_3_code 110 = .ok (.getfield 21, 3) := by decide +kernel
theorem d_Im_measure_113 : decode prog_3_method_3_code 113 = .ok (.aload_n 0, 1) := by decide +kernel
theorem d_Im_measure_114 : decode prog_3_method_3_code 114 = .ok (.getfield 12, 3) := by decide +kernel
theorem d_Im_measure_117 : decode prog_3_method_3_code 117 = .ok (.getfield 98, 3) := by decide +kernel
theorem d_Im_measure_120 : decode prog_3_method_3_code 120 = .ok (.invokevirtual 113, 3) := by decide +kernel
theorem d_Im_measure_123 : decode prog_3_method_3_code 123 = .ok (.putfield 57, 3) := by decide +kernel
theorem d_Im_measure_126 : decode prog_3_method_3_code 126 = .ok (.return_, 1) := by decide +kernel
abbrev w_Im_measure (T : Nat → ClassId) (q0 : Nat) (q0_problem : Nat) (q0_point : Nat) (q0_matrix : Nat) (q0_p : Nat) (q0_d : Nat) (q0_h : Nat) (q0_f : Nat) (q0_r : Nat) (q0_stepOfX : Nat) (q0_stepOfS : Nat) (q0_stepOfY : Nat) (q0_problem_a : Nat) (q0_problem_b : Nat) (q0_problem_c : Nat) (Rq0_problem_a : Nat → Nat) (q0_point_x : Nat) (q0_point_s : Nat) (q0_point_y : Nat) (vq0_g : UInt64) (vq0_turnsBegun : Int32) (vq0_problem_rows : Int32) (vq0_problem_variables : Int32) (vq0_problem_a : Nat → Nat → UInt64) (vq0_problem_b : Nat → UInt64) (vq0_problem_c : Nat → UInt64) (vq0_point_x : Nat → UInt64) (vq0_point_s : Nat → UInt64) (vq0_point_y : Nat → UInt64) (vq0_p : Nat → UInt64) (vq0_d : Nat → UInt64) : va_W := [(q0, .inr (5, [.ref q0_problem, .ref q0_point, .ref q0_matrix, .ref q0_p, .ref q0_d, .ref q0_h, .ref q0_f, .ref q0_r, .ref q0_stepOfX, .ref q0_stepOfS, .ref q0_stepOfY, .double vq0_g, .int vq0_turnsBegun])), (q0_problem, .inr (0, [.int vq0_problem_rows, .int vq0_problem_variables, .ref q0_problem_a, .ref q0_problem_b, .ref q0_problem_c])), (q0_problem_a, .inl (T 3, 5, .inr (.inr (.inr (.inr (fun i => some (Rq0_problem_a i))))))), (Rq0_problem_a 0, .inl (T 0, 8, .inr (.inr (.inr (.inl (vq0_problem_a 0)))))), (Rq0_problem_a 1, .inl (T 0, 8, .inr (.inr (.inr (.inl (vq0_problem_a 1)))))), (Rq0_problem_a 2, .inl (T 0, 8, .inr (.inr (.inr (.inl (vq0_problem_a 2)))))), (Rq0_problem_a 3, .inl (T 0, 8, .inr (.inr (.inr (.inl (vq0_problem_a 3)))))), (Rq0_problem_a 4, .inl (T 0, 8, .inr (.inr (.inr (.inl (vq0_problem_a 4)))))), (q0_problem_b, .inl (T 0, 5, .inr (.inr (.inr (.inl vq0_problem_b))))), (q0_problem_c, .inl (T 0, 8, .inr (.inr (.inr (.inl vq0_problem_c))))), (q0_point, .inr (1, [.ref q0_point_x, .ref q0_point_s, .ref q0_point_y])), (q0_point_x, .inl (T 0, 8, .inr (.inr (.inr (.inl vq0_point_x))))), (q0_point_s, .inl (T 0, 8, .inr (.inr (.inr (.inl vq0_point_s))))), (q0_point_y, .inl (T 0, 5, .inr (.inr (.inr (.inl vq0_point_y))))), (q0_p, .inl (T 0, 5, .inr (.inr (.inr (.inl vq0_p))))), (q0_d, .inl (T 0, 8, .inr (.inr (.inr (.inl vq0_d)))))]
def s_Im_measure_B51 (vq0_g : UInt64) (vq0_turnsBegun : Int32) (vq0_problem_rows : Int32) (vq0_problem_variables : Int32) (vq0_problem_a : Nat → Nat → UInt64) (vq0_problem_b : Nat → UInt64) (vq0_problem_c : Nat → UInt64) (vq0_point_x : Nat → UInt64) (vq0_point_s : Nat → UInt64) (vq0_point_y : Nat → UInt64) (vq0_p : Nat → UInt64) (vq0_d : Nat → UInt64) (x1 : Int32) : Option (((Nat → UInt64) × Int32) ⊕ ((Nat → UInt64))) :=
  if vq0_problem_variables ≤ x1 then (some (.inr vq0_d)) else (gd (inb x1 8) <| (s_Pb_lessColumn 5 vq0_problem_rows vq0_problem_variables vq0_problem_a vq0_point_y (vq0_problem_c x1.toNatClampNeg) x1).bind fun u3 => gd (inb x1 8) <| gd (isn (FP.dsub u3 (vq0_point_s x1.toNatClampNeg))) <| gd (inb x1 8) <| some (.inl (vf_upd vq0_d x1.toNatClampNeg (FP.dsub u3 (vq0_point_s x1.toNatClampNeg)), x1 + 1)))
def s_Im_measure_L51 (vq0_g : UInt64) (vq0_turnsBegun : Int32) (vq0_problem_rows : Int32) (vq0_problem_variables : Int32) (vq0_problem_a : Nat → Nat → UInt64) (vq0_problem_b : Nat → UInt64) (vq0_problem_c : Nat → UInt64) (vq0_point_x : Nat → UInt64) (vq0_point_s : Nat → UInt64) (vq0_point_y : Nat → UInt64) (vq0_p : Nat → UInt64) (vq0_d : Nat → UInt64) (x1 : Int32) : Option (UInt64 × (Nat → UInt64) × (Nat → UInt64)) :=
  (loopO (fun (st : (Nat → UInt64) × Int32) => s_Im_measure_B51 vq0_g vq0_turnsBegun vq0_problem_rows vq0_problem_variables vq0_problem_a vq0_problem_b vq0_problem_c vq0_point_x vq0_point_s vq0_point_y vq0_p st.1 st.2) 2000 (vq0_d, x1)).bind fun u51 => (s_Pt_complementarity vq0_point_x vq0_point_s vq0_problem_variables).bind fun u7 => some (u7, vq0_p, u51)
def s_Im_measure_B2 (vq0_g : UInt64) (vq0_turnsBegun : Int32) (vq0_problem_rows : Int32) (vq0_problem_variables : Int32) (vq0_problem_a : Nat → Nat → UInt64) (vq0_problem_b : Nat → UInt64) (vq0_problem_c : Nat → UInt64) (vq0_point_x : Nat → UInt64) (vq0_point_s : Nat → UInt64) (vq0_point_y : Nat → UInt64) (vq0_d : Nat → UInt64) (vq0_p : Nat → UInt64) (x1 : Int32) : Option (((Nat → UInt64) × Int32) ⊕ ((Nat → UInt64))) :=
  if vq0_problem_rows ≤ x1 then (some (.inr vq0_p)) else (gd (inb x1 5) <| (s_Pb_lessRow 8 vq0_problem_rows vq0_problem_variables vq0_problem_a vq0_point_x (vq0_problem_b x1.toNatClampNeg) x1).bind fun u10 => gd (inb x1 5) <| some (.inl (vf_upd vq0_p x1.toNatClampNeg u10, x1 + 1)))
def s_Im_measure_L2 (vq0_g : UInt64) (vq0_turnsBegun : Int32) (vq0_problem_rows : Int32) (vq0_problem_variables : Int32) (vq0_problem_a : Nat → Nat → UInt64) (vq0_problem_b : Nat → UInt64) (vq0_problem_c : Nat → UInt64) (vq0_point_x : Nat → UInt64) (vq0_point_s : Nat → UInt64) (vq0_point_y : Nat → UInt64) (vq0_p : Nat → UInt64) (vq0_d : Nat → UInt64) (x1 : Int32) : Option (UInt64 × (Nat → UInt64) × (Nat → UInt64)) :=
  (loopO (fun (st : (Nat → UInt64) × Int32) => s_Im_measure_B2 vq0_g vq0_turnsBegun vq0_problem_rows vq0_problem_variables vq0_problem_a vq0_problem_b vq0_problem_c vq0_point_x vq0_point_s vq0_point_y vq0_d st.1 st.2) 2000 (vq0_p, x1)).bind fun u2 => s_Im_measure_L51 vq0_g vq0_turnsBegun vq0_problem_rows vq0_problem_variables vq0_problem_a vq0_problem_b vq0_problem_c vq0_point_x vq0_point_s vq0_point_y u2 vq0_d 0
def s_Im_measure (vq0_g : UInt64) (vq0_turnsBegun : Int32) (vq0_problem_rows : Int32) (vq0_problem_variables : Int32) (vq0_problem_a : Nat → Nat → UInt64) (vq0_problem_b : Nat → UInt64) (vq0_problem_c : Nat → UInt64) (vq0_point_x : Nat → UInt64) (vq0_point_s : Nat → UInt64) (vq0_point_y : Nat → UInt64) (vq0_p : Nat → UInt64) (vq0_d : Nat → UInt64) : Option (UInt64 × (Nat → UInt64) × (Nat → UInt64)) :=
  s_Im_measure_L2 vq0_g vq0_turnsBegun vq0_problem_rows vq0_problem_variables vq0_problem_a vq0_problem_b vq0_problem_c vq0_point_x vq0_point_s vq0_point_y vq0_p vq0_d 0
set_option maxHeartbeats 4000000 in
set_option maxRecDepth 100000 in
theorem c_Im_measure (l : Launch) (D : va_G) (T : Nat → ClassId) (q0 : Nat) (q0_problem : Nat) (q0_point : Nat) (q0_matrix : Nat) (q0_p : Nat) (q0_d : Nat) (q0_h : Nat) (q0_f : Nat) (q0_r : Nat) (q0_stepOfX : Nat) (q0_stepOfS : Nat) (q0_stepOfY : Nat) (q0_problem_a : Nat) (q0_problem_b : Nat) (q0_problem_c : Nat) (Rq0_problem_a : Nat → Nat) (q0_point_x : Nat) (q0_point_s : Nat) (q0_point_y : Nat) (vq0_g : UInt64) (vq0_turnsBegun : Int32) (vq0_problem_rows : Int32) (vq0_problem_variables : Int32) (vq0_problem_a : Nat → Nat → UInt64) (vq0_problem_b : Nat → UInt64) (vq0_problem_c : Nat → UInt64) (vq0_point_x : Nat → UInt64) (vq0_point_s : Nat → UInt64) (vq0_point_y : Nat → UInt64) (vq0_p : Nat → UInt64) (vq0_d : Nat → UInt64) (rm : UInt64 × (Nat → UInt64) × (Nat → UInt64)) (h : s_Im_measure vq0_g vq0_turnsBegun vq0_problem_rows vq0_problem_variables vq0_problem_a vq0_problem_b vq0_problem_c vq0_point_x vq0_point_s vq0_point_y vq0_p vq0_d = some rm) : CtV l y_Im_measure (Cond.code y_Im_measure prog_3_method_3_code 2 none :: BIG) 2 46 D T [.ref q0] (w_Im_measure T q0 q0_problem q0_point q0_matrix q0_p q0_d q0_h q0_f q0_r q0_stepOfX q0_stepOfS q0_stepOfY q0_problem_a q0_problem_b q0_problem_c Rq0_problem_a q0_point_x q0_point_s q0_point_y vq0_g vq0_turnsBegun vq0_problem_rows vq0_problem_variables vq0_problem_a vq0_problem_b vq0_problem_c vq0_point_x vq0_point_s vq0_point_y vq0_p vq0_d) (fun r => (w_Im_measure T q0 q0_problem q0_point q0_matrix q0_p q0_d q0_h q0_f q0_r q0_stepOfX q0_stepOfS q0_stepOfY q0_problem_a q0_problem_b q0_problem_c Rq0_problem_a q0_point_x q0_point_s q0_point_y r.1 vq0_turnsBegun vq0_problem_rows vq0_problem_variables vq0_problem_a vq0_problem_b vq0_problem_c vq0_point_x vq0_point_s vq0_point_y r.2.1 r.2.2)) rm := by
  refine cf_entry (y := y_Im_measure) (cc := prog_3_method_3_code) (nL := 2) (ret := none) (fr := 2) (lo := 46) (T := T) (av := [.ref q0]) (w := (w_Im_measure T q0 q0_problem q0_point q0_matrix q0_p q0_d q0_h q0_f q0_r q0_stepOfX q0_stepOfS q0_stepOfY q0_problem_a q0_problem_b q0_problem_c Rq0_problem_a q0_point_x q0_point_s q0_point_y vq0_g vq0_turnsBegun vq0_problem_rows vq0_problem_variables vq0_problem_a vq0_problem_b vq0_problem_c vq0_point_x vq0_point_s vq0_point_y vq0_p vq0_d)) (Qc := cfQv D (fun r => (w_Im_measure T q0 q0_problem q0_point q0_matrix q0_p q0_d q0_h q0_f q0_r q0_stepOfX q0_stepOfS q0_stepOfY q0_problem_a q0_problem_b q0_problem_c Rq0_problem_a q0_point_x q0_point_s q0_point_y r.1 vq0_turnsBegun vq0_problem_rows vq0_problem_variables vq0_problem_a vq0_problem_b vq0_problem_c vq0_point_x vq0_point_s vq0_point_y r.2.1 r.2.2)) rm) (by decide) rfl (Nat.le_of_ble_eq_true rfl) ?_
  intro p e s m args below meth c A Q H locs ls hx hb hr hlocks hml hown hts hNW hK hA hQ hP hD hS hl
  have hown : s.vm.findClass "ConeForge$InteriorMethod" = some m.cls := hown
  have hl : lv_has ls 2 [(0, .ref q0)] := hl
  have L51 : ∀ (vq0_g : UInt64) (vq0_p : Nat → UInt64) (vq0_d : Nat → UInt64) (x1 : Int32), ∀ (H : Heap) (locs : List Loc) (ls : Array Slot), va_P D CL (w_Im_measure T q0 q0_problem q0_point q0_matrix q0_p q0_d q0_h q0_f q0_r q0_stepOfX q0_stepOfS q0_stepOfY q0_problem_a q0_problem_b q0_problem_c Rq0_problem_a q0_point_x q0_point_s q0_point_y vq0_g vq0_turnsBegun vq0_problem_rows vq0_problem_variables vq0_problem_a vq0_problem_b vq0_problem_c vq0_point_x vq0_point_s vq0_point_y vq0_p vq0_d) H → va_D A (w_Im_measure T q0 q0_problem q0_point q0_matrix q0_p q0_d q0_h q0_f q0_r q0_stepOfX q0_stepOfS q0_stepOfY q0_problem_a q0_problem_b q0_problem_c Rq0_problem_a q0_point_x q0_point_s q0_point_y vq0_g vq0_turnsBegun vq0_problem_rows vq0_problem_variables vq0_problem_a vq0_problem_b vq0_problem_c vq0_point_x vq0_point_s vq0_point_y vq0_p vq0_d) → va_S A s.heap H locs → lv_has ls 2 [(0, .ref q0), (1, .int x1)] → s_Im_measure_L51 vq0_g vq0_turnsBegun vq0_problem_rows vq0_problem_variables vq0_problem_a vq0_problem_b vq0_problem_c vq0_point_x vq0_point_s vq0_point_y vq0_p vq0_d x1 = some rm → W p l e (rmk 2 46) s m args below meth c H locs 0 0 Q (F0 m 51 ls []) := by
    intro vq0_g vq0_p vq0_d x1 H locs ls hP hD hS hl h
    unfold s_Im_measure_L51 at h
    obtain ⟨u51, hu51, h⟩ := bi_some h
    refine loopO_W (Wh := fun (st : (Nat → UInt64) × Int32) => ∀ (H : Heap) (locs : List Loc) (ls : Array Slot), va_P D CL (w_Im_measure T q0 q0_problem q0_point q0_matrix q0_p q0_d q0_h q0_f q0_r q0_stepOfX q0_stepOfS q0_stepOfY q0_problem_a q0_problem_b q0_problem_c Rq0_problem_a q0_point_x q0_point_s q0_point_y vq0_g vq0_turnsBegun vq0_problem_rows vq0_problem_variables vq0_problem_a vq0_problem_b vq0_problem_c vq0_point_x vq0_point_s vq0_point_y vq0_p st.1) H → va_D A (w_Im_measure T q0 q0_problem q0_point q0_matrix q0_p q0_d q0_h q0_f q0_r q0_stepOfX q0_stepOfS q0_stepOfY q0_problem_a q0_problem_b q0_problem_c Rq0_problem_a q0_point_x q0_point_s q0_point_y vq0_g vq0_turnsBegun vq0_problem_rows vq0_problem_variables vq0_problem_a vq0_problem_b vq0_problem_c vq0_point_x vq0_point_s vq0_point_y vq0_p st.1) → va_S A s.heap H locs → lv_has ls 2 [(0, .ref q0), (1, .int st.2)] → W p l e (rmk 2 46) s m args below meth c H locs 0 0 Q (F0 m 51 ls [])) (Wx := fun (e1 : (Nat → UInt64)) => ∀ (H : Heap) (locs : List Loc) (ls : Array Slot), va_P D CL (w_Im_measure T q0 q0_problem q0_point q0_matrix q0_p q0_d q0_h q0_f q0_r q0_stepOfX q0_stepOfS q0_stepOfY q0_problem_a q0_problem_b q0_problem_c Rq0_problem_a q0_point_x q0_point_s q0_point_y vq0_g vq0_turnsBegun vq0_problem_rows vq0_problem_variables vq0_problem_a vq0_problem_b vq0_problem_c vq0_point_x vq0_point_s vq0_point_y vq0_p e1) H → va_D A (w_Im_measure T q0 q0_problem q0_point q0_matrix q0_p q0_d q0_h q0_f q0_r q0_stepOfX q0_stepOfS q0_stepOfY q0_problem_a q0_problem_b q0_problem_c Rq0_problem_a q0_point_x q0_point_s q0_point_y vq0_g vq0_turnsBegun vq0_problem_rows vq0_problem_variables vq0_problem_a vq0_problem_b vq0_problem_c vq0_point_x vq0_point_s vq0_point_y vq0_p e1) → va_S A s.heap H locs → lv_has ls 2 [(0, .ref q0)] → W p l e (rmk 2 46) s m args below meth c H locs 0 0 Q (F0 m 108 ls [])) ?_ 2000 _ u51 hu51 ?_ H locs ls hP hD hS hl
    · intro st rb51 h kc51 kx51 H locs ls hP hD hS hl
      obtain ⟨vq0_d, x1⟩ := st
      have h : s_Im_measure_B51 vq0_g vq0_turnsBegun vq0_problem_rows vq0_problem_variables vq0_problem_a vq0_problem_b vq0_problem_c vq0_point_x vq0_point_s vq0_point_y vq0_p vq0_d x1 = some rb51 := h
      unfold s_Im_measure_B51 at h
      refine lv_iload_n hx hb d_Im_measure_51 rfl (lv_at hl 1 rfl) ?_
      refine lv_aload_n hx hb d_Im_measure_52 rfl (lv_at hl 0 rfl) ?_
      refine va_get (D := D) (ci := 5) (v := .ref q0_problem) (C := "ConeForge$InteriorMethod") (T := FIm) (N := 13) hx hb hts iIm hown hK hP 0 rfl rfl 0 (by decide) (hts _ (bgc bw206)) (fun _ h9 => h9) rfl d_Im_measure_53 ?_
      refine va_getN (D := D) (ci := 0) (v := .int vq0_problem_variables) (C := "ConeForge$Problem") (T := FPb) (N := 5) hx hb hts iPb hown hK hP 1 rfl rfl 1 (by decide) (hNW.use nw10) (fun _ h9 => h9) rfl d_Im_measure_56 ?_
      refine lv_icmp_ge (tgt := 108) hx hb d_Im_measure_59 (by decide) (fun c1 => ?_) (fun c1 => ?_)
      · have h := it_t c1 h
        exact kx51 _ (Option.some.inj h).symm H locs ls hP hD hS (lv_sub hl [0] rfl)
      · have h := it_f c1 h
        refine lv_aload_n hx hb d_Im_measure_62 rfl (lv_at hl 0 rfl) ?_
        refine va_get (D := D) (ci := 5) (v := .ref q0_d) (C := "ConeForge$InteriorMethod") (T := FIm) (N := 13) hx hb hts iIm hown hK hP 0 rfl rfl 4 (by decide) (hts _ (bgc bw210)) (fun _ h9 => h9) rfl d_Im_measure_63 ?_
        refine lv_iload_n hx hb d_Im_measure_66 rfl (lv_at hl 1 rfl) ?_
        refine lv_aload_n hx hb d_Im_measure_67 rfl (lv_at hl 0 rfl) ?_
        refine va_get (D := D) (ci := 5) (v := .ref q0_problem) (C := "ConeForge$InteriorMethod") (T := FIm) (N := 13) hx hb hts iIm hown hK hP 0 rfl rfl 0 (by decide) (hts _ (bgc bw206)) (fun _ h9 => h9) rfl d_Im_measure_68 ?_
        refine lv_aload_n hx hb d_Im_measure_71 rfl (lv_at hl 0 rfl) ?_
        refine va_get (D := D) (ci := 5) (v := .ref q0_problem) (C := "ConeForge$InteriorMethod") (T := FIm) (N := 13) hx hb hts iIm hown hK hP 0 rfl rfl 0 (by decide) (hts _ (bgc bw206)) (fun _ h9 => h9) rfl d_Im_measure_72 ?_
        refine va_getN (D := D) (ci := 0) (v := .ref q0_problem_c) (C := "ConeForge$Problem") (T := FPb) (N := 5) hx hb hts iPb hown hK hP 1 rfl rfl 4 (by decide) (hNW.use nw23) (fun _ h9 => h9) rfl d_Im_measure_75 ?_
        refine lv_iload_n hx hb d_Im_measure_78 rfl (lv_at hl 1 rfl) ?_
        obtain ⟨g2, h⟩ := gd_some h
        refine va_dald hx hb hK hP 9 0 rfl rfl (inb_in g2) d_Im_measure_79 ?_
        refine lv_iload_n hx hb d_Im_measure_80 rfl (lv_at hl 1 rfl) ?_
        refine lv_aload_n hx hb d_Im_measure_81 rfl (lv_at hl 0 rfl) ?_
        refine va_get (D := D) (ci := 5) (v := .ref q0_point) (C := "ConeForge$InteriorMethod") (T := FIm) (N := 13) hx hb hts iIm hown hK hP 0 rfl rfl 1 (by decide) (hts _ (bgc bw207)) (fun _ h9 => h9) rfl d_Im_measure_82 ?_
        refine va_getN (D := D) (ci := 1) (v := .ref q0_point_y) (C := "ConeForge$Point") (T := FPt) (N := 3) hx hb hts iPt hown hK hP 10 rfl rfl 2 (by decide) (hNW.use nw40) (fun _ h9 => h9) rfl d_Im_measure_85 ?_
        obtain ⟨u3, hu3, h⟩ := bi_some h
        refine kD (v := u3) (wc := (w_Pb_lessColumn T q0_problem q0_problem_a q0_problem_b q0_problem_c Rq0_problem_a q0_point_y 5 vq0_problem_rows vq0_problem_variables vq0_problem_a vq0_point_y)) (wc' := (w_Pb_lessColumn T q0_problem q0_problem_a q0_problem_b q0_problem_c Rq0_problem_a q0_point_y 5 vq0_problem_rows vq0_problem_variables vq0_problem_a vq0_point_y)) (runNV (As := [.double (vq0_problem_c x1.toNatClampNeg), .int x1, .ref q0_point_y]) (rest := [.int x1, .ref q0_d]) ((c_Pb_lessColumn l D T q0_problem q0_problem_a q0_problem_b q0_problem_c Rq0_problem_a q0_point_y 5 vq0_problem_rows vq0_problem_variables vq0_problem_a vq0_point_y (vq0_problem_c x1.toNatClampNeg) x1 u3 hu3) H.size) ⟨hx, hb, hml, hown, hts⟩ (cwNV nw85 bw376 bw22 bw98 bw377 dd_Pb_lessColumn hts hNW ⟨Nat.le_of_ble_eq_true rfl, Nat.le_of_ble_eq_true rfl⟩) (va_recv hK hP (ci := 0) (q0 := 1) rfl rfl) hNW hK hP hD [1, 2, 3, 4, 5, 6, 7, 13] rfl (by decide) rfl hl.1 rfl (lv_room (Nat.le_of_ble_eq_true rfl)) d_Im_measure_88 ⟨Nat.le_of_ble_eq_true rfl, Nat.le_of_ble_eq_true rfl⟩) hP hD hS hA [1, 2, 3, 4, 5, 6, 7, 13] rfl rfl (fun H locs hP hD hS => ?_)
        have hP : va_P D CL (w_Im_measure T q0 q0_problem q0_point q0_matrix q0_p q0_d q0_h q0_f q0_r q0_stepOfX q0_stepOfS q0_stepOfY q0_problem_a q0_problem_b q0_problem_c Rq0_problem_a q0_point_x q0_point_s q0_point_y vq0_g vq0_turnsBegun vq0_problem_rows vq0_problem_variables vq0_problem_a vq0_problem_b vq0_problem_c vq0_point_x vq0_point_s vq0_point_y vq0_p vq0_d) H := hP
        have hD : va_D A (w_Im_measure T q0 q0_problem q0_point q0_matrix q0_p q0_d q0_h q0_f q0_r q0_stepOfX q0_stepOfS q0_stepOfY q0_problem_a q0_problem_b q0_problem_c Rq0_problem_a q0_point_x q0_point_s q0_point_y vq0_g vq0_turnsBegun vq0_problem_rows vq0_problem_variables vq0_problem_a vq0_problem_b vq0_problem_c vq0_point_x vq0_point_s vq0_point_y vq0_p vq0_d) := hD
        refine lv_aload_n hx hb d_Im_measure_91 rfl (lv_at hl 0 rfl) ?_
        refine va_get (D := D) (ci := 5) (v := .ref q0_point) (C := "ConeForge$InteriorMethod") (T := FIm) (N := 13) hx hb hts iIm hown hK hP 0 rfl rfl 1 (by decide) (hts _ (bgc bw207)) (fun _ h9 => h9) rfl d_Im_measure_92 ?_
        refine va_getN (D := D) (ci := 1) (v := .ref q0_point_s) (C := "ConeForge$Point") (T := FPt) (N := 3) hx hb hts iPt hown hK hP 10 rfl rfl 1 (by decide) (hNW.use nw36) (fun _ h9 => h9) rfl d_Im_measure_95 ?_
        refine lv_iload_n hx hb d_Im_measure_98 rfl (lv_at hl 1 rfl) ?_
        obtain ⟨g4, h⟩ := gd_some h
        refine va_dald hx hb hK hP 12 0 rfl rfl (inb_in g4) d_Im_measure_99 ?_
        obtain ⟨g5, h⟩ := gd_some h
        refine lv_dsub hx hb d_Im_measure_100 (isn_n g5) ?_
        obtain ⟨g6, h⟩ := gd_some h
        refine va_dast hx hb hK hP hD hS 15 0 rfl rfl (inb_in g6) d_Im_measure_101 (fun H locs hP hD hS => ?_)
        have hP : va_P D CL (w_Im_measure T q0 q0_problem q0_point q0_matrix q0_p q0_d q0_h q0_f q0_r q0_stepOfX q0_stepOfS q0_stepOfY q0_problem_a q0_problem_b q0_problem_c Rq0_problem_a q0_point_x q0_point_s q0_point_y vq0_g vq0_turnsBegun vq0_problem_rows vq0_problem_variables vq0_problem_a vq0_problem_b vq0_problem_c vq0_point_x vq0_point_s vq0_point_y vq0_p (vf_upd vq0_d x1.toNatClampNeg (FP.dsub u3 (vq0_point_s x1.toNatClampNeg)))) H := hP
        have hD : va_D A (w_Im_measure T q0 q0_problem q0_point q0_matrix q0_p q0_d q0_h q0_f q0_r q0_stepOfX q0_stepOfS q0_stepOfY q0_problem_a q0_problem_b q0_problem_c Rq0_problem_a q0_point_x q0_point_s q0_point_y vq0_g vq0_turnsBegun vq0_problem_rows vq0_problem_variables vq0_problem_a vq0_problem_b vq0_problem_c vq0_point_x vq0_point_s vq0_point_y vq0_p (vf_upd vq0_d x1.toNatClampNeg (FP.dsub u3 (vq0_point_s x1.toNatClampNeg)))) := hD
        refine lv_iinc (v := x1 + 1) (lv' := [(1, .int (x1 + 1)), (0, .ref q0)]) hx hb d_Im_measure_102 hl (k := 1) rfl rfl (by decide) rfl (fun ls hl => ?_)
        refine lv_goto (tgt := 51) hx hb d_Im_measure_105 (by decide) ?_
        exact kc51 _ (Option.some.inj h).symm H locs ls hP hD hS (lv_sub hl [1, 0] rfl)
    · intro H locs ls hP hD hS hl
      refine lv_aload_n hx hb d_Im_measure_108 rfl (lv_at hl 0 rfl) ?_
      refine lv_aload_n hx hb d_Im_measure_109 rfl (lv_at hl 0 rfl) ?_
      refine va_get (D := D) (ci := 5) (v := .ref q0_point) (C := "ConeForge$InteriorMethod") (T := FIm) (N := 13) hx hb hts iIm hown hK hP 0 rfl rfl 1 (by decide) (hts _ (bgc bw207)) (fun _ h9 => h9) rfl d_Im_measure_110 ?_
      refine lv_aload_n hx hb d_Im_measure_113 rfl (lv_at hl 0 rfl) ?_
      refine va_get (D := D) (ci := 5) (v := .ref q0_problem) (C := "ConeForge$InteriorMethod") (T := FIm) (N := 13) hx hb hts iIm hown hK hP 0 rfl rfl 0 (by decide) (hts _ (bgc bw206)) (fun _ h9 => h9) rfl d_Im_measure_114 ?_
      refine va_getN (D := D) (ci := 0) (v := .int vq0_problem_variables) (C := "ConeForge$Problem") (T := FPb) (N := 5) hx hb hts iPb hown hK hP 1 rfl rfl 1 (by decide) (hNW.use nw10) (fun _ h9 => h9) rfl d_Im_measure_117 ?_
      obtain ⟨u7, hu7, h⟩ := bi_some h
      refine kD (v := u7) (wc := (w_Pt_complementarity T q0_point q0_point_x q0_point_s q0_point_y vq0_point_x vq0_point_s)) (wc' := (w_Pt_complementarity T q0_point q0_point_x q0_point_s q0_point_y vq0_point_x vq0_point_s)) (runNV (As := [.int vq0_problem_variables]) (rest := [.ref q0]) ((c_Pt_complementarity l D T q0_point q0_point_x q0_point_s q0_point_y vq0_point_x vq0_point_s vq0_problem_variables u7 hu7) H.size) ⟨hx, hb, hml, hown, hts⟩ (cwNV nw86 bw564 bw42 bw100 bw565 dd_Pt_complementarity hts hNW ⟨Nat.le_of_ble_eq_true rfl, Nat.le_of_ble_eq_true rfl⟩) (va_recv hK hP (ci := 1) (q0 := 10) rfl rfl) hNW hK hP hD [10, 11, 12] rfl (by decide) rfl hl.1 rfl (lv_room (Nat.le_of_ble_eq_true rfl)) d_Im_measure_120 ⟨Nat.le_of_ble_eq_true rfl, Nat.le_of_ble_eq_true rfl⟩) hP hD hS hA [10, 11, 12] rfl rfl (fun H locs hP hD hS => ?_)
      have hP : va_P D CL (w_Im_measure T q0 q0_problem q0_point q0_matrix q0_p q0_d q0_h q0_f q0_r q0_stepOfX q0_stepOfS q0_stepOfY q0_problem_a q0_problem_b q0_problem_c Rq0_problem_a q0_point_x q0_point_s q0_point_y vq0_g vq0_turnsBegun vq0_problem_rows vq0_problem_variables vq0_problem_a vq0_problem_b vq0_problem_c vq0_point_x vq0_point_s vq0_point_y vq0_p u51) H := hP
      have hD : va_D A (w_Im_measure T q0 q0_problem q0_point q0_matrix q0_p q0_d q0_h q0_f q0_r q0_stepOfX q0_stepOfS q0_stepOfY q0_problem_a q0_problem_b q0_problem_c Rq0_problem_a q0_point_x q0_point_s q0_point_y vq0_g vq0_turnsBegun vq0_problem_rows vq0_problem_variables vq0_problem_a vq0_problem_b vq0_problem_c vq0_point_x vq0_point_s vq0_point_y vq0_p u51) := hD
      refine va_put (D := D) (ci := 5) (v := .double u7) (ty := .double) (C := "ConeForge$InteriorMethod") (T := FIm) (N := 13) hx hb hts iIm tIm tIm_ok nmIm hown hK hP hD hS 0 rfl rfl 11 (by decide) (hts _ (bgc bw217)) (fun _ h9 => h9) rfl (by decide +kernel) rfl rfl (Nat.le_of_ble_eq_true rfl) d_Im_measure_123 (fun H locs hP hD hS => ?_)
      have hP : va_P D CL (w_Im_measure T q0 q0_problem q0_point q0_matrix q0_p q0_d q0_h q0_f q0_r q0_stepOfX q0_stepOfS q0_stepOfY q0_problem_a q0_problem_b q0_problem_c Rq0_problem_a q0_point_x q0_point_s q0_point_y u7 vq0_turnsBegun vq0_problem_rows vq0_problem_variables vq0_problem_a vq0_problem_b vq0_problem_c vq0_point_x vq0_point_s vq0_point_y vq0_p u51) H := hP
      have hD : va_D A (w_Im_measure T q0 q0_problem q0_point q0_matrix q0_p q0_d q0_h q0_f q0_r q0_stepOfX q0_stepOfS q0_stepOfY q0_problem_a q0_problem_b q0_problem_c Rq0_problem_a q0_point_x q0_point_s q0_point_y u7 vq0_turnsBegun vq0_problem_rows vq0_problem_variables vq0_problem_a vq0_problem_b vq0_problem_c vq0_point_x vq0_point_s vq0_point_y vq0_p u51) := hD
      exact rtV hx hb hr hlocks hQ (Option.some.inj h) hP hS d_Im_measure_126 rfl
  have L2 : ∀ (vq0_g : UInt64) (vq0_p : Nat → UInt64) (vq0_d : Nat → UInt64) (x1 : Int32), ∀ (H : Heap) (locs : List Loc) (ls : Array Slot), va_P D CL (w_Im_measure T q0 q0_problem q0_point q0_matrix q0_p q0_d q0_h q0_f q0_r q0_stepOfX q0_stepOfS q0_stepOfY q0_problem_a q0_problem_b q0_problem_c Rq0_problem_a q0_point_x q0_point_s q0_point_y vq0_g vq0_turnsBegun vq0_problem_rows vq0_problem_variables vq0_problem_a vq0_problem_b vq0_problem_c vq0_point_x vq0_point_s vq0_point_y vq0_p vq0_d) H → va_D A (w_Im_measure T q0 q0_problem q0_point q0_matrix q0_p q0_d q0_h q0_f q0_r q0_stepOfX q0_stepOfS q0_stepOfY q0_problem_a q0_problem_b q0_problem_c Rq0_problem_a q0_point_x q0_point_s q0_point_y vq0_g vq0_turnsBegun vq0_problem_rows vq0_problem_variables vq0_problem_a vq0_problem_b vq0_problem_c vq0_point_x vq0_point_s vq0_point_y vq0_p vq0_d) → va_S A s.heap H locs → lv_has ls 2 [(0, .ref q0), (1, .int x1)] → s_Im_measure_L2 vq0_g vq0_turnsBegun vq0_problem_rows vq0_problem_variables vq0_problem_a vq0_problem_b vq0_problem_c vq0_point_x vq0_point_s vq0_point_y vq0_p vq0_d x1 = some rm → W p l e (rmk 2 46) s m args below meth c H locs 0 0 Q (F0 m 2 ls []) := by
    intro vq0_g vq0_p vq0_d x1 H locs ls hP hD hS hl h
    unfold s_Im_measure_L2 at h
    obtain ⟨u2, hu2, h⟩ := bi_some h
    refine loopO_W (Wh := fun (st : (Nat → UInt64) × Int32) => ∀ (H : Heap) (locs : List Loc) (ls : Array Slot), va_P D CL (w_Im_measure T q0 q0_problem q0_point q0_matrix q0_p q0_d q0_h q0_f q0_r q0_stepOfX q0_stepOfS q0_stepOfY q0_problem_a q0_problem_b q0_problem_c Rq0_problem_a q0_point_x q0_point_s q0_point_y vq0_g vq0_turnsBegun vq0_problem_rows vq0_problem_variables vq0_problem_a vq0_problem_b vq0_problem_c vq0_point_x vq0_point_s vq0_point_y st.1 vq0_d) H → va_D A (w_Im_measure T q0 q0_problem q0_point q0_matrix q0_p q0_d q0_h q0_f q0_r q0_stepOfX q0_stepOfS q0_stepOfY q0_problem_a q0_problem_b q0_problem_c Rq0_problem_a q0_point_x q0_point_s q0_point_y vq0_g vq0_turnsBegun vq0_problem_rows vq0_problem_variables vq0_problem_a vq0_problem_b vq0_problem_c vq0_point_x vq0_point_s vq0_point_y st.1 vq0_d) → va_S A s.heap H locs → lv_has ls 2 [(0, .ref q0), (1, .int st.2)] → W p l e (rmk 2 46) s m args below meth c H locs 0 0 Q (F0 m 2 ls [])) (Wx := fun (e1 : (Nat → UInt64)) => ∀ (H : Heap) (locs : List Loc) (ls : Array Slot), va_P D CL (w_Im_measure T q0 q0_problem q0_point q0_matrix q0_p q0_d q0_h q0_f q0_r q0_stepOfX q0_stepOfS q0_stepOfY q0_problem_a q0_problem_b q0_problem_c Rq0_problem_a q0_point_x q0_point_s q0_point_y vq0_g vq0_turnsBegun vq0_problem_rows vq0_problem_variables vq0_problem_a vq0_problem_b vq0_problem_c vq0_point_x vq0_point_s vq0_point_y e1 vq0_d) H → va_D A (w_Im_measure T q0 q0_problem q0_point q0_matrix q0_p q0_d q0_h q0_f q0_r q0_stepOfX q0_stepOfS q0_stepOfY q0_problem_a q0_problem_b q0_problem_c Rq0_problem_a q0_point_x q0_point_s q0_point_y vq0_g vq0_turnsBegun vq0_problem_rows vq0_problem_variables vq0_problem_a vq0_problem_b vq0_problem_c vq0_point_x vq0_point_s vq0_point_y e1 vq0_d) → va_S A s.heap H locs → lv_has ls 2 [(0, .ref q0)] → W p l e (rmk 2 46) s m args below meth c H locs 0 0 Q (F0 m 49 ls [])) ?_ 2000 _ u2 hu2 ?_ H locs ls hP hD hS hl
    · intro st rb2 h kc2 kx2 H locs ls hP hD hS hl
      obtain ⟨vq0_p, x1⟩ := st
      have h : s_Im_measure_B2 vq0_g vq0_turnsBegun vq0_problem_rows vq0_problem_variables vq0_problem_a vq0_problem_b vq0_problem_c vq0_point_x vq0_point_s vq0_point_y vq0_d vq0_p x1 = some rb2 := h
      unfold s_Im_measure_B2 at h
      refine lv_iload_n hx hb d_Im_measure_2 rfl (lv_at hl 1 rfl) ?_
      refine lv_aload_n hx hb d_Im_measure_3 rfl (lv_at hl 0 rfl) ?_
      refine va_get (D := D) (ci := 5) (v := .ref q0_problem) (C := "ConeForge$InteriorMethod") (T := FIm) (N := 13) hx hb hts iIm hown hK hP 0 rfl rfl 0 (by decide) (hts _ (bgc bw206)) (fun _ h9 => h9) rfl d_Im_measure_4 ?_
      refine va_getN (D := D) (ci := 0) (v := .int vq0_problem_rows) (C := "ConeForge$Problem") (T := FPb) (N := 5) hx hb hts iPb hown hK hP 1 rfl rfl 0 (by decide) (hNW.use nw4) (fun _ h9 => h9) rfl d_Im_measure_7 ?_
      refine lv_icmp_ge (tgt := 49) hx hb d_Im_measure_10 (by decide) (fun c8 => ?_) (fun c8 => ?_)
      · have h := it_t c8 h
        exact kx2 _ (Option.some.inj h).symm H locs ls hP hD hS (lv_sub hl [0] rfl)
      · have h := it_f c8 h
        refine lv_aload_n hx hb d_Im_measure_13 rfl (lv_at hl 0 rfl) ?_
        refine va_get (D := D) (ci := 5) (v := .ref q0_p) (C := "ConeForge$InteriorMethod") (T := FIm) (N := 13) hx hb hts iIm hown hK hP 0 rfl rfl 3 (by decide) (hts _ (bgc bw209)) (fun _ h9 => h9) rfl d_Im_measure_14 ?_
        refine lv_iload_n hx hb d_Im_measure_17 rfl (lv_at hl 1 rfl) ?_
        refine lv_aload_n hx hb d_Im_measure_18 rfl (lv_at hl 0 rfl) ?_
        refine va_get (D := D) (ci := 5) (v := .ref q0_problem) (C := "ConeForge$InteriorMethod") (T := FIm) (N := 13) hx hb hts iIm hown hK hP 0 rfl rfl 0 (by decide) (hts _ (bgc bw206)) (fun _ h9 => h9) rfl d_Im_measure_19 ?_
        refine lv_aload_n hx hb d_Im_measure_22 rfl (lv_at hl 0 rfl) ?_
        refine va_get (D := D) (ci := 5) (v := .ref q0_problem) (C := "ConeForge$InteriorMethod") (T := FIm) (N := 13) hx hb hts iIm hown hK hP 0 rfl rfl 0 (by decide) (hts _ (bgc bw206)) (fun _ h9 => h9) rfl d_Im_measure_23 ?_
        refine va_getN (D := D) (ci := 0) (v := .ref q0_problem_b) (C := "ConeForge$Problem") (T := FPb) (N := 5) hx hb hts iPb hown hK hP 1 rfl rfl 3 (by decide) (hNW.use nw18) (fun _ h9 => h9) rfl d_Im_measure_26 ?_
        refine lv_iload_n hx hb d_Im_measure_29 rfl (lv_at hl 1 rfl) ?_
        obtain ⟨g9, h⟩ := gd_some h
        refine va_dald hx hb hK hP 8 0 rfl rfl (inb_in g9) d_Im_measure_30 ?_
        refine lv_iload_n hx hb d_Im_measure_31 rfl (lv_at hl 1 rfl) ?_
        refine lv_aload_n hx hb d_Im_measure_32 rfl (lv_at hl 0 rfl) ?_
        refine va_get (D := D) (ci := 5) (v := .ref q0_point) (C := "ConeForge$InteriorMethod") (T := FIm) (N := 13) hx hb hts iIm hown hK hP 0 rfl rfl 1 (by decide) (hts _ (bgc bw207)) (fun _ h9 => h9) rfl d_Im_measure_33 ?_
        refine va_getN (D := D) (ci := 1) (v := .ref q0_point_x) (C := "ConeForge$Point") (T := FPt) (N := 3) hx hb hts iPt hown hK hP 10 rfl rfl 0 (by decide) (hNW.use nw32) (fun _ h9 => h9) rfl d_Im_measure_36 ?_
        obtain ⟨u10, hu10, h⟩ := bi_some h
        refine kD (v := u10) (wc := (w_Pb_lessRow T q0_problem q0_problem_a q0_problem_b q0_problem_c Rq0_problem_a q0_point_x 8 vq0_problem_rows vq0_problem_variables vq0_problem_a vq0_point_x)) (wc' := (w_Pb_lessRow T q0_problem q0_problem_a q0_problem_b q0_problem_c Rq0_problem_a q0_point_x 8 vq0_problem_rows vq0_problem_variables vq0_problem_a vq0_point_x)) (runNV (As := [.double (vq0_problem_b x1.toNatClampNeg), .int x1, .ref q0_point_x]) (rest := [.int x1, .ref q0_p]) ((c_Pb_lessRow l D T q0_problem q0_problem_a q0_problem_b q0_problem_c Rq0_problem_a q0_point_x 8 vq0_problem_rows vq0_problem_variables vq0_problem_a vq0_point_x (vq0_problem_b x1.toNatClampNeg) x1 u10 hu10) H.size) ⟨hx, hb, hml, hown, hts⟩ (cwNV nw84 bw562 bw41 bw98 bw563 dd_Pb_lessRow hts hNW ⟨Nat.le_of_ble_eq_true rfl, Nat.le_of_ble_eq_true rfl⟩) (va_recv hK hP (ci := 0) (q0 := 1) rfl rfl) hNW hK hP hD [1, 2, 3, 4, 5, 6, 7, 11] rfl (by decide) rfl hl.1 rfl (lv_room (Nat.le_of_ble_eq_true rfl)) d_Im_measure_39 ⟨Nat.le_of_ble_eq_true rfl, Nat.le_of_ble_eq_true rfl⟩) hP hD hS hA [1, 2, 3, 4, 5, 6, 7, 11] rfl rfl (fun H locs hP hD hS => ?_)
        have hP : va_P D CL (w_Im_measure T q0 q0_problem q0_point q0_matrix q0_p q0_d q0_h q0_f q0_r q0_stepOfX q0_stepOfS q0_stepOfY q0_problem_a q0_problem_b q0_problem_c Rq0_problem_a q0_point_x q0_point_s q0_point_y vq0_g vq0_turnsBegun vq0_problem_rows vq0_problem_variables vq0_problem_a vq0_problem_b vq0_problem_c vq0_point_x vq0_point_s vq0_point_y vq0_p vq0_d) H := hP
        have hD : va_D A (w_Im_measure T q0 q0_problem q0_point q0_matrix q0_p q0_d q0_h q0_f q0_r q0_stepOfX q0_stepOfS q0_stepOfY q0_problem_a q0_problem_b q0_problem_c Rq0_problem_a q0_point_x q0_point_s q0_point_y vq0_g vq0_turnsBegun vq0_problem_rows vq0_problem_variables vq0_problem_a vq0_problem_b vq0_problem_c vq0_point_x vq0_point_s vq0_point_y vq0_p vq0_d) := hD
        obtain ⟨g11, h⟩ := gd_some h
        refine va_dast hx hb hK hP hD hS 14 0 rfl rfl (inb_in g11) d_Im_measure_42 (fun H locs hP hD hS => ?_)
        have hP : va_P D CL (w_Im_measure T q0 q0_problem q0_point q0_matrix q0_p q0_d q0_h q0_f q0_r q0_stepOfX q0_stepOfS q0_stepOfY q0_problem_a q0_problem_b q0_problem_c Rq0_problem_a q0_point_x q0_point_s q0_point_y vq0_g vq0_turnsBegun vq0_problem_rows vq0_problem_variables vq0_problem_a vq0_problem_b vq0_problem_c vq0_point_x vq0_point_s vq0_point_y (vf_upd vq0_p x1.toNatClampNeg u10) vq0_d) H := hP
        have hD : va_D A (w_Im_measure T q0 q0_problem q0_point q0_matrix q0_p q0_d q0_h q0_f q0_r q0_stepOfX q0_stepOfS q0_stepOfY q0_problem_a q0_problem_b q0_problem_c Rq0_problem_a q0_point_x q0_point_s q0_point_y vq0_g vq0_turnsBegun vq0_problem_rows vq0_problem_variables vq0_problem_a vq0_problem_b vq0_problem_c vq0_point_x vq0_point_s vq0_point_y (vf_upd vq0_p x1.toNatClampNeg u10) vq0_d) := hD
        refine lv_iinc (v := x1 + 1) (lv' := [(1, .int (x1 + 1)), (0, .ref q0)]) hx hb d_Im_measure_43 hl (k := 1) rfl rfl (by decide) rfl (fun ls hl => ?_)
        refine lv_goto (tgt := 2) hx hb d_Im_measure_46 (by decide) ?_
        exact kc2 _ (Option.some.inj h).symm H locs ls hP hD hS (lv_sub hl [1, 0] rfl)
    · intro H locs ls hP hD hS hl
      refine lv_iconst (v := 0) hx hb d_Im_measure_49 (by decide) ?_
      refine lv_istore_n (lv' := [(1, .int 0), (0, .ref q0)]) hx hb d_Im_measure_50 rfl hl (by decide) rfl (fun ls hl => ?_)
      exact L51 vq0_g u2 vq0_d 0 H locs ls hP hD hS (lv_sub hl [1, 0] rfl) h
  unfold s_Im_measure at h
  refine lv_iconst (v := 0) hx hb d_Im_measure_0 (by decide) ?_
  refine lv_istore_n (lv' := [(1, .int 0), (0, .ref q0)]) hx hb d_Im_measure_1 rfl hl (by decide) rfl (fun ls hl => ?_)
  exact L2 vq0_g vq0_p vq0_d 0 H locs ls hP hD hS (lv_sub hl [1, 0] rfl) h
theorem d_Im_isSolved_0 : decode prog_3_method_4_code 0 = .ok (.aload_n 0, 1) := by decide +kernel
theorem d_Im_isSolved_1 : decode prog_3_method_4_code 1 = .ok (.getfield 12, 3) := by decide +kernel
theorem d_Im_isSolved_4 : decode prog_3_method_4_code 4 = .ok (.getfield 85, 3) := by decide +kernel
theorem d_Im_isSolved_7 : decode prog_3_method_4_code 7 = .ok (.istore_n 1, 1) := by decide +kernel
theorem d_Im_isSolved_8 : decode prog_3_method_4_code 8 = .ok (.aload_n 0, 1) := by decide +kernel
theorem d_Im_isSolved_9 : decode prog_3_method_4_code 9 = .ok (.getfield 12, 3) := by decide +kernel
theorem d_Im_isSolved_12 : decode prog_3_method_4_code 12 = .ok (.getfield 98, 3) := by decide +kernel
theorem d_Im_isSolved_15 : decode prog_3_method_4_code 15 = .ok (.istore_n 2, 1) := by decide +kernel
theorem d_Im_isSolved_16 : decode prog_3_method_4_code 16 = .ok (.aload_n 0, 1) := by decide +kernel
theorem d_Im_isSolved_17 : decode prog_3_method_4_code 17 = .ok (.getfield 12, 3) := by decide +kernel
theorem d_Im_isSolved_20 : decode prog_3_method_4_code 20 = .ok (.aload_n 0, 1) := by decide +kernel
theorem d_Im_isSolved_21 : decode prog_3_method_4_code 21 = .ok (.getfield 21, 3) := by decide +kernel
theorem d_Im_isSolved_24 : decode prog_3_method_4_code 24 = .ok (.getfield 91, 3) := by decide +kernel
theorem d_Im_isSolved_27 : decode prog_3_method_4_code 27 = .ok (.invokevirtual 117, 3) := by decide +kernel
theorem d_Im_isSolved_30 : decode prog_3_method_4_code 30 = .ok (.invokestatic 121, 3) := by decide +kernel
theorem d_Im_isSolved_33 : decode prog_3_method_4_code 33 = .ok (.dstore_n 3, 1) := by decide +kernel
theorem d_Im_isSolved_34 : decode prog_3_method_4_code 34 = .ok (.aload_n 0, 1) := by decide +kernel
theorem d_Im_isSolved_35 : decode prog_3_method_4_code 35 = .ok (.getfield 32, 3) := by decide +kernel
theorem d_Im_isSolved_38 : decode prog_3_method_4_code 38 = .ok (.iload_n 1, 1) := by decide +kernel
theorem d_Im_isSolved_39 : decode prog_3_method_4_code 39 = .ok (.invokestatic 125, 3) := by decide +kernel
theorem d_Im_isSolved_42 : decode prog_3_method_4_code 42 = .ok (.ldc2_w 129, 3) := by decide +kernel
theorem d_Im_isSolved_45 : decode prog_3_method_4_code 45 = .ok (.dconst 1, 1) := by decide +kernel
theorem d_Im_isSolved_46 : decode prog_3_method_4_code 46 = .ok (.aload_n 0, 1) := by decide +kernel
theorem d_Im_isSolved_47 : decode prog_3_method_4_code 47 = .ok (.getfield 12, 3) := by decide +kernel
theorem d_Im_isSolved_50 : decode prog_3_method_4_code 50 = .ok (.getfield 88, 3) := by decide +kernel
theorem d_Im_isSolved_53 : decode prog_3_method_4_code 53 = .ok (.iload_n 1, 1) := by decide +kernel
theorem d_Im_isSolved_54 : decode prog_3_method_4_code 54 = .ok (.invokestatic 125, 3) := by decide +kernel
theorem d_Im_isSolved_57 : decode prog_3_method_4_code 57 = .ok (.dadd, 1) := by decide +kernel
theorem d_Im_isSolved_58 : decode prog_3_method_4_code 58 = .ok (.dmul, 1) := by decide +kernel
theorem d_Im_isSolved_59 : decode prog_3_method_4_code 59 = .ok (.dcmp .g, 1) := by decide +kernel
theorem d_Im_isSolved_60 : decode prog_3_method_4_code 60 = .ok (.ifCond .gt 51, 3) := by decide +kernel
theorem d_Im_isSolved_63 : decode prog_3_method_4_code 63 = .ok (.aload_n 0, 1) := by decide +kernel
theorem d_Im_isSolved_64 : decode prog_3_method_4_code 64 = .ok (.getfield 36, 3) := by decide +kernel
theorem d_Im_isSolved_67 : decode prog_3_method_4_code 67 = .ok (.iload_n 2, 1) := by decide +kernel
theorem d_Im_isSolved_68 : decode prog_3_method_4_code 68 = .ok (.invokestatic 125, 3) := by decide +kernel
theorem d_Im_isSolved_71 : decode prog_3_method_4_code 71 = .ok (.ldc2_w 129, 3) := by decide +kernel
theorem d_Im_isSolved_74 : decode prog_3_method_4_code 74 = .ok (.dconst 1, 1) := by decide +kernel
theorem d_Im_isSolved_75 : decode prog_3_method_4_code 75 = .ok (.aload_n 0, 1) := by decide +kernel
theorem d_Im_isSolved_76 : decode prog_3_method_4_code 76 = .ok (.getfield 12, 3) := by decide +kernel
theorem d_Im_isSolved_79 : decode prog_3_method_4_code 79 = .ok (.getfield 101, 3) := by decide +kernel
theorem d_Im_isSolved_82 : decode prog_3_method_4_code 82 = .ok (.iload_n 2, 1) := by decide +kernel
theorem d_Im_isSolved_83 : decode prog_3_method_4_code 83 = .ok (.invokestatic 125, 3) := by decide +kernel
theorem d_Im_isSolved_86 : decode prog_3_method_4_code 86 = .ok (.dadd, 1) := by decide +kernel
theorem d_Im_isSolved_87 : decode prog_3_method_4_code 87 = .ok (.dmul, 1) := by decide +kernel
theorem d_Im_isSolved_88 : decode prog_3_method_4_code 88 = .ok (.dcmp .g, 1) := by decide +kernel
theorem d_Im_isSolved_89 : decode prog_3_method_4_code 89 = .ok (.ifCond .gt 22, 3) := by decide +kernel
theorem d_Im_isSolved_92 : decode prog_3_method_4_code 92 = .ok (.aload_n 0, 1) := by decide +kernel
theorem d_Im_isSolved_93 : decode prog_3_method_4_code 93 = .ok (.getfield 57, 3) := by decide +kernel
theorem d_Im_isSolved_96 : decode prog_3_method_4_code 96 = .ok (.ldc2_w 129, 3) := by decide +kernel
theorem d_Im_isSolved_99 : decode prog_3_method_4_code 99 = .ok (.dconst 1, 1) := by decide +kernel
theorem d_Im_isSolved_100 : decode prog_3_method_4_code 100 = .ok (.dload_n 3, 1) := by decide +kernel
theorem d_Im_isSolved_101 : decode prog_3_method_4_code 101 = .ok (.dadd, 1) := by decide +kernel
theorem d_Im_isSolved_102 : decode prog_3_method_4_code 102 = .ok (.dmul, 1) := by decide +kernel
theorem d_Im_isSolved_103 : decode prog_3_method_4_code 103 = .ok (.dcmp .g, 1) := by decide +kernel
theorem d_Im_isSolved_104 : decode prog_3_method_4_code 104 = .ok (.ifCond .gt 7, 3) := by decide +kernel
theorem d_Im_isSolved_107 : decode prog_3_method_4_code 107 = .ok (.iconst 1, 1) := by decide +kernel
theorem d_Im_isSolved_108 : decode prog_3_method_4_code 108 = .ok (.goto 4, 3) := by decide +kernel
theorem d_Im_isSolved_111 : decode prog_3_method_4_code 111 = .ok (.iconst 0, 1) := by decide +kernel
theorem d_Im_isSolved_112 : decode prog_3_method_4_code 112 = .ok (.ireturn, 1) := by decide +kernel
abbrev w_Im_isSolved (T : Nat → ClassId) (q0 : Nat) (q0_problem : Nat) (q0_point : Nat) (q0_matrix : Nat) (q0_p : Nat) (q0_d : Nat) (q0_h : Nat) (q0_f : Nat) (q0_r : Nat) (q0_stepOfX : Nat) (q0_stepOfS : Nat) (q0_stepOfY : Nat) (q0_problem_a : Nat) (q0_problem_b : Nat) (q0_problem_c : Nat) (q0_point_x : Nat) (q0_point_s : Nat) (q0_point_y : Nat) (vq0_g : UInt64) (vq0_turnsBegun : Int32) (vq0_problem_rows : Int32) (vq0_problem_variables : Int32) (vq0_problem_b : Nat → UInt64) (vq0_problem_c : Nat → UInt64) (vq0_point_x : Nat → UInt64) (vq0_p : Nat → UInt64) (vq0_d : Nat → UInt64) : va_W := [(q0, .inr (5, [.ref q0_problem, .ref q0_point, .ref q0_matrix, .ref q0_p, .ref q0_d, .ref q0_h, .ref q0_f, .ref q0_r, .ref q0_stepOfX, .ref q0_stepOfS, .ref q0_stepOfY, .double vq0_g, .int vq0_turnsBegun])), (q0_problem, .inr (0, [.int vq0_problem_rows, .int vq0_problem_variables, .ref q0_problem_a, .ref q0_problem_b, .ref q0_problem_c])), (q0_problem_b, .inl (T 0, 5, .inr (.inr (.inr (.inl vq0_problem_b))))), (q0_problem_c, .inl (T 0, 8, .inr (.inr (.inr (.inl vq0_problem_c))))), (q0_point, .inr (1, [.ref q0_point_x, .ref q0_point_s, .ref q0_point_y])), (q0_point_x, .inl (T 0, 8, .inr (.inr (.inr (.inl vq0_point_x))))), (q0_p, .inl (T 0, 5, .inr (.inr (.inr (.inl vq0_p))))), (q0_d, .inl (T 0, 8, .inr (.inr (.inr (.inl vq0_d)))))]
def s_Im_isSolved_J111 (vq0_g : UInt64) (vq0_turnsBegun : Int32) (vq0_problem_rows : Int32) (vq0_problem_variables : Int32) (vq0_problem_b : Nat → UInt64) (vq0_problem_c : Nat → UInt64) (vq0_point_x : Nat → UInt64) (vq0_p : Nat → UInt64) (vq0_d : Nat → UInt64) : Option (Int32) :=
  gd (isb 0) <| some 0
def s_Im_isSolved (vq0_g : UInt64) (vq0_turnsBegun : Int32) (vq0_problem_rows : Int32) (vq0_problem_variables : Int32) (vq0_problem_b : Nat → UInt64) (vq0_problem_c : Nat → UInt64) (vq0_point_x : Nat → UInt64) (vq0_p : Nat → UInt64) (vq0_d : Nat → UInt64) : Option (Int32) :=
  (s_Pb_costOf 8 vq0_problem_rows vq0_problem_variables vq0_problem_c vq0_point_x).bind fun u2 => (s_C_absolute u2).bind fun u3 => (s_C_greatestOf 5 vq0_p vq0_problem_rows).bind fun u4 => (s_C_greatestOf 5 vq0_problem_b vq0_problem_rows).bind fun u5 => gd (isn (FP.dadd FP.dconst1 u5)) <| gd (isn (FP.dmul 4487126258331716666 (FP.dadd FP.dconst1 u5))) <| if 0 < (Op.cmpValue (FP.dcmp u4 (FP.dmul 4487126258331716666 (FP.dadd FP.dconst1 u5))) .g) then (s_Im_isSolved_J111 vq0_g vq0_turnsBegun vq0_problem_rows vq0_problem_variables vq0_problem_b vq0_problem_c vq0_point_x vq0_p vq0_d) else ((s_C_greatestOf 8 vq0_d vq0_problem_variables).bind fun u9 => (s_C_greatestOf 8 vq0_problem_c vq0_problem_variables).bind fun u10 => gd (isn (FP.dadd FP.dconst1 u10)) <| gd (isn (FP.dmul 4487126258331716666 (FP.dadd FP.dconst1 u10))) <| if 0 < (Op.cmpValue (FP.dcmp u9 (FP.dmul 4487126258331716666 (FP.dadd FP.dconst1 u10))) .g) then (s_Im_isSolved_J111 vq0_g vq0_turnsBegun vq0_problem_rows vq0_problem_variables vq0_problem_b vq0_problem_c vq0_point_x vq0_p vq0_d) else (gd (isn (FP.dadd FP.dconst1 u3)) <| gd (isn (FP.dmul 4487126258331716666 (FP.dadd FP.dconst1 u3))) <| if 0 < (Op.cmpValue (FP.dcmp vq0_g (FP.dmul 4487126258331716666 (FP.dadd FP.dconst1 u3))) .g) then (s_Im_isSolved_J111 vq0_g vq0_turnsBegun vq0_problem_rows vq0_problem_variables vq0_problem_b vq0_problem_c vq0_point_x vq0_p vq0_d) else (gd (isb 1) <| some 1)))
set_option maxHeartbeats 4000000 in
set_option maxRecDepth 100000 in
theorem c_Im_isSolved (l : Launch) (D : va_G) (T : Nat → ClassId) (q0 : Nat) (q0_problem : Nat) (q0_point : Nat) (q0_matrix : Nat) (q0_p : Nat) (q0_d : Nat) (q0_h : Nat) (q0_f : Nat) (q0_r : Nat) (q0_stepOfX : Nat) (q0_stepOfS : Nat) (q0_stepOfY : Nat) (q0_problem_a : Nat) (q0_problem_b : Nat) (q0_problem_c : Nat) (q0_point_x : Nat) (q0_point_s : Nat) (q0_point_y : Nat) (vq0_g : UInt64) (vq0_turnsBegun : Int32) (vq0_problem_rows : Int32) (vq0_problem_variables : Int32) (vq0_problem_b : Nat → UInt64) (vq0_problem_c : Nat → UInt64) (vq0_point_x : Nat → UInt64) (vq0_p : Nat → UInt64) (vq0_d : Nat → UInt64) (rm : Int32) (h : s_Im_isSolved vq0_g vq0_turnsBegun vq0_problem_rows vq0_problem_variables vq0_problem_b vq0_problem_c vq0_point_x vq0_p vq0_d = some rm) : CtI l y_Im_isSolved (Cond.code y_Im_isSolved prog_3_method_4_code 5 (some .boolean) :: BIG) 2 47 D T [.ref q0] (w_Im_isSolved T q0 q0_problem q0_point q0_matrix q0_p q0_d q0_h q0_f q0_r q0_stepOfX q0_stepOfS q0_stepOfY q0_problem_a q0_problem_b q0_problem_c q0_point_x q0_point_s q0_point_y vq0_g vq0_turnsBegun vq0_problem_rows vq0_problem_variables vq0_problem_b vq0_problem_c vq0_point_x vq0_p vq0_d) (fun r => r) (fun r => (w_Im_isSolved T q0 q0_problem q0_point q0_matrix q0_p q0_d q0_h q0_f q0_r q0_stepOfX q0_stepOfS q0_stepOfY q0_problem_a q0_problem_b q0_problem_c q0_point_x q0_point_s q0_point_y vq0_g vq0_turnsBegun vq0_problem_rows vq0_problem_variables vq0_problem_b vq0_problem_c vq0_point_x vq0_p vq0_d)) rm := by
  refine cf_entry (y := y_Im_isSolved) (cc := prog_3_method_4_code) (nL := 5) (ret := (some .boolean)) (fr := 2) (lo := 47) (T := T) (av := [.ref q0]) (w := (w_Im_isSolved T q0 q0_problem q0_point q0_matrix q0_p q0_d q0_h q0_f q0_r q0_stepOfX q0_stepOfS q0_stepOfY q0_problem_a q0_problem_b q0_problem_c q0_point_x q0_point_s q0_point_y vq0_g vq0_turnsBegun vq0_problem_rows vq0_problem_variables vq0_problem_b vq0_problem_c vq0_point_x vq0_p vq0_d)) (Qc := cfQi D (fun r => r) (fun r => (w_Im_isSolved T q0 q0_problem q0_point q0_matrix q0_p q0_d q0_h q0_f q0_r q0_stepOfX q0_stepOfS q0_stepOfY q0_problem_a q0_problem_b q0_problem_c q0_point_x q0_point_s q0_point_y vq0_g vq0_turnsBegun vq0_problem_rows vq0_problem_variables vq0_problem_b vq0_problem_c vq0_point_x vq0_p vq0_d)) rm) (by decide) rfl (Nat.le_of_ble_eq_true rfl) ?_
  intro p e s m args below meth c A Q H locs ls hx hb hr hlocks hml hown hts hNW hK hA hQ hP hD hS hl
  have hown : s.vm.findClass "ConeForge$InteriorMethod" = some m.cls := hown
  have hl : lv_has ls 5 [(0, .ref q0)] := hl
  have J111 : ∀ (H : Heap) (locs : List Loc) (ls : Array Slot), va_P D CL (w_Im_isSolved T q0 q0_problem q0_point q0_matrix q0_p q0_d q0_h q0_f q0_r q0_stepOfX q0_stepOfS q0_stepOfY q0_problem_a q0_problem_b q0_problem_c q0_point_x q0_point_s q0_point_y vq0_g vq0_turnsBegun vq0_problem_rows vq0_problem_variables vq0_problem_b vq0_problem_c vq0_point_x vq0_p vq0_d) H → va_D A (w_Im_isSolved T q0 q0_problem q0_point q0_matrix q0_p q0_d q0_h q0_f q0_r q0_stepOfX q0_stepOfS q0_stepOfY q0_problem_a q0_problem_b q0_problem_c q0_point_x q0_point_s q0_point_y vq0_g vq0_turnsBegun vq0_problem_rows vq0_problem_variables vq0_problem_b vq0_problem_c vq0_point_x vq0_p vq0_d) → va_S A s.heap H locs → lv_has ls 5 [] → s_Im_isSolved_J111 vq0_g vq0_turnsBegun vq0_problem_rows vq0_problem_variables vq0_problem_b vq0_problem_c vq0_point_x vq0_p vq0_d = some rm → W p l e (rmk 2 47) s m args below meth c H locs 0 0 Q (F0 m 111 ls []) := by
    intro  H locs ls hP hD hS hl h
    unfold s_Im_isSolved_J111 at h
    refine lv_iconst (v := 0) hx hb d_Im_isSolved_111 (by decide) ?_
    obtain ⟨g1, h⟩ := gd_some h
    exact rtZ hx hb hr hlocks g1 hQ (Option.some.inj h) hP hS d_Im_isSolved_112 rfl rfl
  unfold s_Im_isSolved at h
  refine lv_aload_n hx hb d_Im_isSolved_0 rfl (lv_at hl 0 rfl) ?_
  refine va_get (D := D) (ci := 5) (v := .ref q0_problem) (C := "ConeForge$InteriorMethod") (T := FIm) (N := 13) hx hb hts iIm hown hK hP 0 rfl rfl 0 (by decide) (hts _ (bgc bw206)) (fun _ h9 => h9) rfl d_Im_isSolved_1 ?_
  refine va_getN (D := D) (ci := 0) (v := .int vq0_problem_rows) (C := "ConeForge$Problem") (T := FPb) (N := 5) hx hb hts iPb hown hK hP 1 rfl rfl 0 (by decide) (hNW.use nw4) (fun _ h9 => h9) rfl d_Im_isSolved_4 ?_
  refine lv_istore_n (lv' := [(1, .int vq0_problem_rows), (0, .ref q0)]) hx hb d_Im_isSolved_7 rfl hl (by decide) rfl (fun ls hl => ?_)
  refine lv_aload_n hx hb d_Im_isSolved_8 rfl (lv_at hl 1 rfl) ?_
  refine va_get (D := D) (ci := 5) (v := .ref q0_problem) (C := "ConeForge$InteriorMethod") (T := FIm) (N := 13) hx hb hts iIm hown hK hP 0 rfl rfl 0 (by decide) (hts _ (bgc bw206)) (fun _ h9 => h9) rfl d_Im_isSolved_9 ?_
  refine va_getN (D := D) (ci := 0) (v := .int vq0_problem_variables) (C := "ConeForge$Problem") (T := FPb) (N := 5) hx hb hts iPb hown hK hP 1 rfl rfl 1 (by decide) (hNW.use nw10) (fun _ h9 => h9) rfl d_Im_isSolved_12 ?_
  refine lv_istore_n (lv' := [(2, .int vq0_problem_variables), (1, .int vq0_problem_rows), (0, .ref q0)]) hx hb d_Im_isSolved_15 rfl hl (by decide) rfl (fun ls hl => ?_)
  refine lv_aload_n hx hb d_Im_isSolved_16 rfl (lv_at hl 2 rfl) ?_
  refine va_get (D := D) (ci := 5) (v := .ref q0_problem) (C := "ConeForge$InteriorMethod") (T := FIm) (N := 13) hx hb hts iIm hown hK hP 0 rfl rfl 0 (by decide) (hts _ (bgc bw206)) (fun _ h9 => h9) rfl d_Im_isSolved_17 ?_
  refine lv_aload_n hx hb d_Im_isSolved_20 rfl (lv_at hl 2 rfl) ?_
  refine va_get (D := D) (ci := 5) (v := .ref q0_point) (C := "ConeForge$InteriorMethod") (T := FIm) (N := 13) hx hb hts iIm hown hK hP 0 rfl rfl 1 (by decide) (hts _ (bgc bw207)) (fun _ h9 => h9) rfl d_Im_isSolved_21 ?_
  refine va_getN (D := D) (ci := 1) (v := .ref q0_point_x) (C := "ConeForge$Point") (T := FPt) (N := 3) hx hb hts iPt hown hK hP 4 rfl rfl 0 (by decide) (hNW.use nw32) (fun _ h9 => h9) rfl d_Im_isSolved_24 ?_
  obtain ⟨u2, hu2, h⟩ := bi_some h
  refine kD (v := u2) (wc := (w_Pb_costOf T q0_problem q0_problem_a q0_problem_b q0_problem_c q0_point_x 8 vq0_problem_rows vq0_problem_variables vq0_problem_c vq0_point_x)) (wc' := (w_Pb_costOf T q0_problem q0_problem_a q0_problem_b q0_problem_c q0_point_x 8 vq0_problem_rows vq0_problem_variables vq0_problem_c vq0_point_x)) (runNV (As := [.ref q0_point_x]) (rest := []) ((c_Pb_costOf l D T q0_problem q0_problem_a q0_problem_b q0_problem_c q0_point_x 8 vq0_problem_rows vq0_problem_variables vq0_problem_c vq0_point_x  u2 hu2) H.size) ⟨hx, hb, hml, hown, hts⟩ (cwNV nw88 bw571 bw44 bw98 bw572 dd_Pb_costOf hts hNW ⟨Nat.le_of_ble_eq_true rfl, Nat.le_of_ble_eq_true rfl⟩) (va_recv hK hP (ci := 0) (q0 := 1) rfl rfl) hNW hK hP hD [1, 3, 5] rfl (by decide) rfl hl.1 rfl (lv_room (Nat.le_of_ble_eq_true rfl)) d_Im_isSolved_27 ⟨Nat.le_of_ble_eq_true rfl, Nat.le_of_ble_eq_true rfl⟩) hP hD hS hA [1, 3, 5] rfl rfl (fun H locs hP hD hS => ?_)
  have hP : va_P D CL (w_Im_isSolved T q0 q0_problem q0_point q0_matrix q0_p q0_d q0_h q0_f q0_r q0_stepOfX q0_stepOfS q0_stepOfY q0_problem_a q0_problem_b q0_problem_c q0_point_x q0_point_s q0_point_y vq0_g vq0_turnsBegun vq0_problem_rows vq0_problem_variables vq0_problem_b vq0_problem_c vq0_point_x vq0_p vq0_d) H := hP
  have hD : va_D A (w_Im_isSolved T q0 q0_problem q0_point q0_matrix q0_p q0_d q0_h q0_f q0_r q0_stepOfX q0_stepOfS q0_stepOfY q0_problem_a q0_problem_b q0_problem_c q0_point_x q0_point_s q0_point_y vq0_g vq0_turnsBegun vq0_problem_rows vq0_problem_variables vq0_problem_b vq0_problem_c vq0_point_x vq0_p vq0_d) := hD
  obtain ⟨u3, hu3, h⟩ := bi_some h
  refine kD (v := u3) (wc := (w_C_absolute T  )) (wc' := (w_C_absolute T  )) (runNS (As := [.double u2]) (rest := []) ((c_C_absolute l D T   u2 u3 hu3) H.size) ⟨hx, hb, hml, hown, hts⟩ (cwNS nw89 bw304 bw97 bw305 dd_C_absolute hts hNW ⟨Nat.le_of_ble_eq_true rfl, Nat.le_of_ble_eq_true rfl⟩)  hNW hK hP hD [] rfl (by decide) rfl hl.1 rfl (lv_room (Nat.le_of_ble_eq_true rfl)) d_Im_isSolved_30 ⟨Nat.le_of_ble_eq_true rfl, Nat.le_of_ble_eq_true rfl⟩) hP hD hS hA [] rfl rfl (fun H locs hP hD hS => ?_)
  have hP : va_P D CL (w_Im_isSolved T q0 q0_problem q0_point q0_matrix q0_p q0_d q0_h q0_f q0_r q0_stepOfX q0_stepOfS q0_stepOfY q0_problem_a q0_problem_b q0_problem_c q0_point_x q0_point_s q0_point_y vq0_g vq0_turnsBegun vq0_problem_rows vq0_problem_variables vq0_problem_b vq0_problem_c vq0_point_x vq0_p vq0_d) H := hP
  have hD : va_D A (w_Im_isSolved T q0 q0_problem q0_point q0_matrix q0_p q0_d q0_h q0_f q0_r q0_stepOfX q0_stepOfS q0_stepOfY q0_problem_a q0_problem_b q0_problem_c q0_point_x q0_point_s q0_point_y vq0_g vq0_turnsBegun vq0_problem_rows vq0_problem_variables vq0_problem_b vq0_problem_c vq0_point_x vq0_p vq0_d) := hD
  refine lv_dstore_n (lv' := [(3, .double u3), (2, .int vq0_problem_variables), (1, .int vq0_problem_rows), (0, .ref q0)]) hx hb d_Im_isSolved_33 rfl hl (by decide) rfl (fun ls hl => ?_)
  refine lv_aload_n hx hb d_Im_isSolved_34 rfl (lv_at hl 3 rfl) ?_
  refine va_get (D := D) (ci := 5) (v := .ref q0_p) (C := "ConeForge$InteriorMethod") (T := FIm) (N := 13) hx hb hts iIm hown hK hP 0 rfl rfl 3 (by decide) (hts _ (bgc bw209)) (fun _ h9 => h9) rfl d_Im_isSolved_35 ?_
  refine lv_iload_n hx hb d_Im_isSolved_38 rfl (lv_at hl 2 rfl) ?_
  obtain ⟨u4, hu4, h⟩ := bi_some h
  refine kD (v := u4) (wc := (w_C_greatestOf T q0_p 5 vq0_p)) (wc' := (w_C_greatestOf T q0_p 5 vq0_p)) (runNS (As := [.ref q0_p, .int vq0_problem_rows]) (rest := []) ((c_C_greatestOf l D T q0_p 5 vq0_p vq0_problem_rows u4 hu4) H.size) ⟨hx, hb, hml, hown, hts⟩ (cwNS nw90 bw301 bw97 bw302 dd_C_greatestOf hts hNW ⟨Nat.le_of_ble_eq_true rfl, Nat.le_of_ble_eq_true rfl⟩)  hNW hK hP hD [6] rfl (by decide) rfl hl.1 rfl (lv_room (Nat.le_of_ble_eq_true rfl)) d_Im_isSolved_39 ⟨Nat.le_of_ble_eq_true rfl, Nat.le_of_ble_eq_true rfl⟩) hP hD hS hA [6] rfl rfl (fun H locs hP hD hS => ?_)
  have hP : va_P D CL (w_Im_isSolved T q0 q0_problem q0_point q0_matrix q0_p q0_d q0_h q0_f q0_r q0_stepOfX q0_stepOfS q0_stepOfY q0_problem_a q0_problem_b q0_problem_c q0_point_x q0_point_s q0_point_y vq0_g vq0_turnsBegun vq0_problem_rows vq0_problem_variables vq0_problem_b vq0_problem_c vq0_point_x vq0_p vq0_d) H := hP
  have hD : va_D A (w_Im_isSolved T q0 q0_problem q0_point q0_matrix q0_p q0_d q0_h q0_f q0_r q0_stepOfX q0_stepOfS q0_stepOfY q0_problem_a q0_problem_b q0_problem_c q0_point_x q0_point_s q0_point_y vq0_g vq0_turnsBegun vq0_problem_rows vq0_problem_variables vq0_problem_b vq0_problem_c vq0_point_x vq0_p vq0_d) := hD
  refine lv_ldc2d (v := 4487126258331716666) hx hb hown (hts _ (bgc bw574)) d_Im_isSolved_42 ?_
  refine lv_dconst1 hx hb d_Im_isSolved_45 ?_
  refine lv_aload_n hx hb d_Im_isSolved_46 rfl (lv_at hl 3 rfl) ?_
  refine va_get (D := D) (ci := 5) (v := .ref q0_problem) (C := "ConeForge$InteriorMethod") (T := FIm) (N := 13) hx hb hts iIm hown hK hP 0 rfl rfl 0 (by decide) (hts _ (bgc bw206)) (fun _ h9 => h9) rfl d_Im_isSolved_47 ?_
  refine va_getN (D := D) (ci := 0) (v := .ref q0_problem_b) (C := "ConeForge$Problem") (T := FPb) (N := 5) hx hb hts iPb hown hK hP 1 rfl rfl 3 (by decide) (hNW.use nw18) (fun _ h9 => h9) rfl d_Im_isSolved_50 ?_
  refine lv_iload_n hx hb d_Im_isSolved_53 rfl (lv_at hl 2 rfl) ?_
  obtain ⟨u5, hu5, h⟩ := bi_some h
  refine kD (v := u5) (wc := (w_C_greatestOf T q0_problem_b 5 vq0_problem_b)) (wc' := (w_C_greatestOf T q0_problem_b 5 vq0_problem_b)) (runNS (As := [.ref q0_problem_b, .int vq0_problem_rows]) (rest := [.double FP.dconst1, .double 4487126258331716666, .double u4]) ((c_C_greatestOf l D T q0_problem_b 5 vq0_problem_b vq0_problem_rows u5 hu5) H.size) ⟨hx, hb, hml, hown, hts⟩ (cwNS nw90 bw301 bw97 bw302 dd_C_greatestOf hts hNW ⟨Nat.le_of_ble_eq_true rfl, Nat.le_of_ble_eq_true rfl⟩)  hNW hK hP hD [2] rfl (by decide) rfl hl.1 rfl (lv_room (Nat.le_of_ble_eq_true rfl)) d_Im_isSolved_54 ⟨Nat.le_of_ble_eq_true rfl, Nat.le_of_ble_eq_true rfl⟩) hP hD hS hA [2] rfl rfl (fun H locs hP hD hS => ?_)
  have hP : va_P D CL (w_Im_isSolved T q0 q0_problem q0_point q0_matrix q0_p q0_d q0_h q0_f q0_r q0_stepOfX q0_stepOfS q0_stepOfY q0_problem_a q0_problem_b q0_problem_c q0_point_x q0_point_s q0_point_y vq0_g vq0_turnsBegun vq0_problem_rows vq0_problem_variables vq0_problem_b vq0_problem_c vq0_point_x vq0_p vq0_d) H := hP
  have hD : va_D A (w_Im_isSolved T q0 q0_problem q0_point q0_matrix q0_p q0_d q0_h q0_f q0_r q0_stepOfX q0_stepOfS q0_stepOfY q0_problem_a q0_problem_b q0_problem_c q0_point_x q0_point_s q0_point_y vq0_g vq0_turnsBegun vq0_problem_rows vq0_problem_variables vq0_problem_b vq0_problem_c vq0_point_x vq0_p vq0_d) := hD
  obtain ⟨g6, h⟩ := gd_some h
  refine lv_dadd hx hb d_Im_isSolved_57 (isn_n g6) ?_
  obtain ⟨g7, h⟩ := gd_some h
  refine lv_dmul hx hb d_Im_isSolved_58 (isn_n g7) ?_
  refine lv_dcmp hx hb d_Im_isSolved_59 ?_
  refine lv_if_gt (tgt := 111) hx hb d_Im_isSolved_60 (by decide) (fun c8 => ?_) (fun c8 => ?_)
  · have h := it_t c8 h
    exact J111  H locs ls hP hD hS (lv_sub hl [] rfl) h
  · have h := it_f c8 h
    refine lv_aload_n hx hb d_Im_isSolved_63 rfl (lv_at hl 3 rfl) ?_
    refine va_get (D := D) (ci := 5) (v := .ref q0_d) (C := "ConeForge$InteriorMethod") (T := FIm) (N := 13) hx hb hts iIm hown hK hP 0 rfl rfl 4 (by decide) (hts _ (bgc bw210)) (fun _ h9 => h9) rfl d_Im_isSolved_64 ?_
    refine lv_iload_n hx hb d_Im_isSolved_67 rfl (lv_at hl 1 rfl) ?_
    obtain ⟨u9, hu9, h⟩ := bi_some h
    refine kD (v := u9) (wc := (w_C_greatestOf T q0_d 8 vq0_d)) (wc' := (w_C_greatestOf T q0_d 8 vq0_d)) (runNS (As := [.ref q0_d, .int vq0_problem_variables]) (rest := []) ((c_C_greatestOf l D T q0_d 8 vq0_d vq0_problem_variables u9 hu9) H.size) ⟨hx, hb, hml, hown, hts⟩ (cwNS nw90 bw301 bw97 bw302 dd_C_greatestOf hts hNW ⟨Nat.le_of_ble_eq_true rfl, Nat.le_of_ble_eq_true rfl⟩)  hNW hK hP hD [7] rfl (by decide) rfl hl.1 rfl (lv_room (Nat.le_of_ble_eq_true rfl)) d_Im_isSolved_68 ⟨Nat.le_of_ble_eq_true rfl, Nat.le_of_ble_eq_true rfl⟩) hP hD hS hA [7] rfl rfl (fun H locs hP hD hS => ?_)
    have hP : va_P D CL (w_Im_isSolved T q0 q0_problem q0_point q0_matrix q0_p q0_d q0_h q0_f q0_r q0_stepOfX q0_stepOfS q0_stepOfY q0_problem_a q0_problem_b q0_problem_c q0_point_x q0_point_s q0_point_y vq0_g vq0_turnsBegun vq0_problem_rows vq0_problem_variables vq0_problem_b vq0_problem_c vq0_point_x vq0_p vq0_d) H := hP
    have hD : va_D A (w_Im_isSolved T q0 q0_problem q0_point q0_matrix q0_p q0_d q0_h q0_f q0_r q0_stepOfX q0_stepOfS q0_stepOfY q0_problem_a q0_problem_b q0_problem_c q0_point_x q0_point_s q0_point_y vq0_g vq0_turnsBegun vq0_problem_rows vq0_problem_variables vq0_problem_b vq0_problem_c vq0_point_x vq0_p vq0_d) := hD
    refine lv_ldc2d (v := 4487126258331716666) hx hb hown (hts _ (bgc bw574)) d_Im_isSolved_71 ?_
    refine lv_dconst1 hx hb d_Im_isSolved_74 ?_
    refine lv_aload_n hx hb d_Im_isSolved_75 rfl (lv_at hl 3 rfl) ?_
    refine va_get (D := D) (ci := 5) (v := .ref q0_problem) (C := "ConeForge$InteriorMethod") (T := FIm) (N := 13) hx hb hts iIm hown hK hP 0 rfl rfl 0 (by decide) (hts _ (bgc bw206)) (fun _ h9 => h9) rfl d_Im_isSolved_76 ?_
    refine va_getN (D := D) (ci := 0) (v := .ref q0_problem_c) (C := "ConeForge$Problem") (T := FPb) (N := 5) hx hb hts iPb hown hK hP 1 rfl rfl 4 (by decide) (hNW.use nw23) (fun _ h9 => h9) rfl d_Im_isSolved_79 ?_
    refine lv_iload_n hx hb d_Im_isSolved_82 rfl (lv_at hl 1 rfl) ?_
    obtain ⟨u10, hu10, h⟩ := bi_some h
    refine kD (v := u10) (wc := (w_C_greatestOf T q0_problem_c 8 vq0_problem_c)) (wc' := (w_C_greatestOf T q0_problem_c 8 vq0_problem_c)) (runNS (As := [.ref q0_problem_c, .int vq0_problem_variables]) (rest := [.double FP.dconst1, .double 4487126258331716666, .double u9]) ((c_C_greatestOf l D T q0_problem_c 8 vq0_problem_c vq0_problem_variables u10 hu10) H.size) ⟨hx, hb, hml, hown, hts⟩ (cwNS nw90 bw301 bw97 bw302 dd_C_greatestOf hts hNW ⟨Nat.le_of_ble_eq_true rfl, Nat.le_of_ble_eq_true rfl⟩)  hNW hK hP hD [3] rfl (by decide) rfl hl.1 rfl (lv_room (Nat.le_of_ble_eq_true rfl)) d_Im_isSolved_83 ⟨Nat.le_of_ble_eq_true rfl, Nat.le_of_ble_eq_true rfl⟩) hP hD hS hA [3] rfl rfl (fun H locs hP hD hS => ?_)
    have hP : va_P D CL (w_Im_isSolved T q0 q0_problem q0_point q0_matrix q0_p q0_d q0_h q0_f q0_r q0_stepOfX q0_stepOfS q0_stepOfY q0_problem_a q0_problem_b q0_problem_c q0_point_x q0_point_s q0_point_y vq0_g vq0_turnsBegun vq0_problem_rows vq0_problem_variables vq0_problem_b vq0_problem_c vq0_point_x vq0_p vq0_d) H := hP
    have hD : va_D A (w_Im_isSolved T q0 q0_problem q0_point q0_matrix q0_p q0_d q0_h q0_f q0_r q0_stepOfX q0_stepOfS q0_stepOfY q0_problem_a q0_problem_b q0_problem_c q0_point_x q0_point_s q0_point_y vq0_g vq0_turnsBegun vq0_problem_rows vq0_problem_variables vq0_problem_b vq0_problem_c vq0_point_x vq0_p vq0_d) := hD
    obtain ⟨g11, h⟩ := gd_some h
    refine lv_dadd hx hb d_Im_isSolved_86 (isn_n g11) ?_
    obtain ⟨g12, h⟩ := gd_some h
    refine lv_dmul hx hb d_Im_isSolved_87 (isn_n g12) ?_
    refine lv_dcmp hx hb d_Im_isSolved_88 ?_
    refine lv_if_gt (tgt := 111) hx hb d_Im_isSolved_89 (by decide) (fun c13 => ?_) (fun c13 => ?_)
    · have h := it_t c13 h
      exact J111  H locs ls hP hD hS (lv_sub hl [] rfl) h
    · have h := it_f c13 h
      refine lv_aload_n hx hb d_Im_isSolved_92 rfl (lv_at hl 3 rfl) ?_
      refine va_get (D := D) (ci := 5) (v := .double vq0_g) (C := "ConeForge$InteriorMethod") (T := FIm) (N := 13) hx hb hts iIm hown hK hP 0 rfl rfl 11 (by decide) (hts _ (bgc bw217)) (fun _ h9 => h9) rfl d_Im_isSolved_93 ?_
      refine lv_ldc2d (v := 4487126258331716666) hx hb hown (hts _ (bgc bw574)) d_Im_isSolved_96 ?_
      refine lv_dconst1 hx hb d_Im_isSolved_99 ?_
      refine lv_dload_n hx hb d_Im_isSolved_100 rfl (lv_at hl 0 rfl) ?_
      obtain ⟨g14, h⟩ := gd_some h
      refine lv_dadd hx hb d_Im_isSolved_101 (isn_n g14) ?_
      obtain ⟨g15, h⟩ := gd_some h
      refine lv_dmul hx hb d_Im_isSolved_102 (isn_n g15) ?_
      refine lv_dcmp hx hb d_Im_isSolved_103 ?_
      refine lv_if_gt (tgt := 111) hx hb d_Im_isSolved_104 (by decide) (fun c16 => ?_) (fun c16 => ?_)
      · have h := it_t c16 h
        exact J111  H locs ls hP hD hS (lv_sub hl [] rfl) h
      · have h := it_f c16 h
        refine lv_iconst (v := 1) hx hb d_Im_isSolved_107 (by decide) ?_
        refine lv_goto (tgt := 112) hx hb d_Im_isSolved_108 (by decide) ?_
        obtain ⟨g17, h⟩ := gd_some h
        exact rtZ hx hb hr hlocks g17 hQ (Option.some.inj h) hP hS d_Im_isSolved_112 rfl rfl
theorem d_Im_isOutside_0 : decode prog_3_method_6_code 0 = .ok (.dload_n 0, 1) := by decide +kernel
theorem d_Im_isOutside_1 : decode prog_3_method_6_code 1 = .ok (.ldc2_w 135, 3) := by decide +kernel
theorem d_Im_isOutside_4 : decode prog_3_method_6_code 4 = .ok (.dcmp .l, 1) := by decide +kernel
theorem d_Im_isOutside_5 : decode prog_3_method_6_code 5 = .ok (.ifCond .gt 11, 3) := by decide +kernel
theorem d_Im_isOutside_8 : decode prog_3_method_6_code 8 = .ok (.dload_n 0, 1) := by decide +kernel
theorem d_Im_isOutside_9 : decode prog_3_method_6_code 9 = .ok (.ldc2_w 137, 3) := by decide +kernel
theorem d_Im_isOutside_12 : decode prog_3_method_6_code 12 = .ok (.dcmp .g, 1) := by decide +kernel
theorem d_Im_isOutside_13 : decode prog_3_method_6_code 13 = .ok (.ifCond .ge 7, 3) := by decide +kernel
theorem d_Im_isOutside_16 : decode prog_3_method_6_code 16 = .ok (.iconst 1, 1) := by decide +kernel
theorem d_Im_isOutside_17 : decode prog_3_method_6_code 17 = .ok (.goto 4, 3) := by decide +kernel
theorem d_Im_isOutside_20 : decode prog_3_method_6_code 20 = .ok (.iconst 0, 1) := by decide +kernel
theorem d_Im_isOutside_21 : decode prog_3_method_6_code 21 = .ok (.ireturn, 1) := by decide +kernel
abbrev w_Im_isOutside (T : Nat → ClassId)   : va_W := []
def s_Im_isOutside_J16  : Option (Int32) :=
  gd (isb 1) <| some 1
def s_Im_isOutside (x0 : UInt64) : Option (Int32) :=
  if 0 < (Op.cmpValue (FP.dcmp x0 4741671816366391296) .l) then (s_Im_isOutside_J16 ) else (if 0 ≤ (Op.cmpValue (FP.dcmp x0 4427486594234968593) .g) then (gd (isb 0) <| some 0) else (s_Im_isOutside_J16 ))
set_option maxHeartbeats 4000000 in
set_option maxRecDepth 100000 in
theorem c_Im_isOutside (l : Launch) (D : va_G) (T : Nat → ClassId) (x0 : UInt64) (rm : Int32) (h : s_Im_isOutside x0 = some rm) : CtI l y_Im_isOutside (Cond.code y_Im_isOutside prog_3_method_6_code 2 (some .boolean) :: BIG) 0 0 D T [.double x0] (w_Im_isOutside T  ) (fun r => r) (fun r => (w_Im_isOutside T  )) rm := by
  refine cf_entry (y := y_Im_isOutside) (cc := prog_3_method_6_code) (nL := 2) (ret := (some .boolean)) (fr := 0) (lo := 0) (T := T) (av := [.double x0]) (w := (w_Im_isOutside T  )) (Qc := cfQi D (fun r => r) (fun r => (w_Im_isOutside T  )) rm) (by decide) rfl (Nat.le_of_ble_eq_true rfl) ?_
  intro p e s m args below meth c A Q H locs ls hx hb hr hlocks hml hown hts hNW hK hA hQ hP hD hS hl
  have hown : s.vm.findClass "ConeForge$InteriorMethod" = some m.cls := hown
  have hl : lv_has ls 2 [(0, .double x0)] := hl
  have J16 : ∀ (H : Heap) (locs : List Loc) (ls : Array Slot), va_P D CL (w_Im_isOutside T  ) H → va_D A (w_Im_isOutside T  ) → va_S A s.heap H locs → lv_has ls 2 [] → s_Im_isOutside_J16  = some rm → W p l e (rmk 0 0) s m args below meth c H locs 0 0 Q (F0 m 16 ls []) := by
    intro  H locs ls hP hD hS hl h
    unfold s_Im_isOutside_J16 at h
    refine lv_iconst (v := 1) hx hb d_Im_isOutside_16 (by decide) ?_
    refine lv_goto (tgt := 21) hx hb d_Im_isOutside_17 (by decide) ?_
    obtain ⟨g1, h⟩ := gd_some h
    exact rtZ hx hb hr hlocks g1 hQ (Option.some.inj h) hP hS d_Im_isOutside_21 rfl rfl
  unfold s_Im_isOutside at h
  refine lv_dload_n hx hb d_Im_isOutside_0 rfl (lv_at hl 0 rfl) ?_
  refine lv_ldc2d (v := 4741671816366391296) hx hb hown (hts _ (bgc bw581)) d_Im_isOutside_1 ?_
  refine lv_dcmp hx hb d_Im_isOutside_4 ?_
  refine lv_if_gt (tgt := 16) hx hb d_Im_isOutside_5 (by decide) (fun c2 => ?_) (fun c2 => ?_)
  · have h := it_t c2 h
    exact J16  H locs ls hP hD hS (lv_sub hl [] rfl) h
  · have h := it_f c2 h
    refine lv_dload_n hx hb d_Im_isOutside_8 rfl (lv_at hl 0 rfl) ?_
    refine lv_ldc2d (v := 4427486594234968593) hx hb hown (hts _ (bgc bw582)) d_Im_isOutside_9 ?_
    refine lv_dcmp hx hb d_Im_isOutside_12 ?_
    refine lv_if_ge (tgt := 20) hx hb d_Im_isOutside_13 (by decide) (fun c3 => ?_) (fun c3 => ?_)
    · have h := it_t c3 h
      refine lv_iconst (v := 0) hx hb d_Im_isOutside_20 (by decide) ?_
      obtain ⟨g4, h⟩ := gd_some h
      exact rtZ hx hb hr hlocks g4 hQ (Option.some.inj h) hP hS d_Im_isOutside_21 rfl rfl
    · have h := it_f c3 h
      exact J16  H locs ls hP hD hS (lv_sub hl [] rfl) h
theorem d_Im_isLost_0 : decode prog_3_method_5_code 0 = .ok (.iconst 0, 1) := by decide +kernel
theorem d_Im_isLost_1 : decode prog_3_method_5_code 1 = .ok (.istore_n 1, 1) := by decide +kernel
theorem d_Im_isLost_2 : decode prog_3_method_5_code 2 = .ok (.iload_n 1, 1) := by decide +kernel
theorem d_Im_isLost_3 : decode prog_3_method_5_code 3 = .ok (.aload_n 0, 1) := by decide +kernel
theorem d_Im_isLost_4 : decode prog_3_method_5_code 4 = .ok (.getfield 12, 3) := by decide +kernel
theorem d_Im_isLost_7 : decode prog_3_method_5_code 7 = .ok (.getfield 98, 3) := by decide +kernel
theorem d_Im_isLost_10 : decode prog_3_method_5_code 10 = .ok (.if_icmp .ge 41, 3) := by decide +kernel
theorem d_Im_isLost_13 : decode prog_3_method_5_code 13 = .ok (.aload_n 0, 1) := by decide +kernel
theorem d_Im_isLost_14 : decode prog_3_method_5_code 14 = .ok (.getfield 21, 3) := by decide +kernel
theorem d_Im_isLost_17 : decode prog_3_method_5_code 17 = .ok (.getfield 91, 3) := by decide +kernel
theorem d_Im_isLost_20 : decode prog_3_method_5_code 20 = .ok (.iload_n 1, 1) := by decide +kernel
theorem d_Im_isLost_21 : decode prog_3_method_5_code 21 = .ok (.daload, 1) := by decide +kernel
theorem d_Im_isLost_22 : decode prog_3_method_5_code 22 = .ok (.invokestatic 131, 3) := by decide +kernel
theorem d_Im_isLost_25 : decode prog_3_method_5_code 25 = .ok (.ifCond .ne 18, 3) := by decide +kernel
theorem d_Im_isLost_28 : decode prog_3_method_5_code 28 = .ok (.aload_n 0, 1) := by decide +kernel
theorem d_Im_isLost_29 : decode prog_3_method_5_code 29 = .ok (.getfield 21, 3) := by decide +kernel
theorem d_Im_isLost_32 : decode prog_3_method_5_code 32 = .ok (.getfield 110, 3) := by decide +kernel
theorem d_Im_isLost_35 : decode prog_3_method_5_code 35 = .ok (.iload_n 1, 1) := by decide +kernel
theorem d_Im_isLost_36 : decode prog_3_method_5_code 36 = .ok (.daload, 1) := by decide +kernel
theorem d_Im_isLost_37 : decode prog_3_method_5_code 37 = .ok (.invokestatic 131, 3) := by decide +kernel
theorem d_Im_isLost_40 : decode prog_3_method_5_code 40 = .ok (.ifCond .eq 5, 3) := by decide +kernel
theorem d_Im_isLost_43 : decode prog_3_method_5_code 43 = .ok (.iconst 1, 1) := by decide +kernel
theorem d_Im_isLost_44 : decode prog_3_method_5_code 44 = .ok (.ireturn, 1) := by decide +kernel
theorem d_Im_isLost_45 : decode prog_3_method_5_code 45 = .ok (.iinc 1 1, 3) := by decide +kernel
theorem d_Im_isLost_48 : decode prog_3_method_5_code 48 = .ok (.goto (-46), 3) := by decide +kernel
theorem d_Im_isLost_51 : decode prog_3_method_5_code 51 = .ok (.aload_n 0, 1) := by decide +kernel
theorem d_Im_isLost_52 : decode prog_3_method_5_code 52 = .ok (.getfield 21, 3) := by decide +kernel
theorem d_Im_isLost_55 : decode prog_3_method_5_code 55 = .ok (.getfield 104, 3) := by decide +kernel
theorem d_Im_isLost_58 : decode prog_3_method_5_code 58 = .ok (.aload_n 0, 1) := by decide +kernel
theorem d_Im_isLost_59 : decode prog_3_method_5_code 59 = .ok (.getfield 12, 3) := by decide +kernel
theorem d_Im_isLost_62 : decode prog_3_method_5_code 62 = .ok (.getfield 85, 3) := by decide +kernel
theorem d_Im_isLost_65 : decode prog_3_method_5_code 65 = .ok (.invokestatic 125, 3) := by decide +kernel
theorem d_Im_isLost_68 : decode prog_3_method_5_code 68 = .ok (.ldc2_w 135, 3) := by decide +kernel
theorem d_Im_isLost_71 : decode prog_3_method_5_code 71 = .ok (.dcmp .l, 1) := by decide +kernel
theorem d_Im_isLost_72 : decode prog_3_method_5_code 72 = .ok (.ifCond .le 7, 3) := by decide +kernel
theorem d_Im_isLost_75 : decode prog_3_method_5_code 75 = .ok (.iconst 1, 1) := by decide +kernel
theorem d_Im_isLost_76 : decode prog_3_method_5_code 76 = .ok (.goto 4, 3) := by decide +kernel
theorem d_Im_isLost_79 : decode prog_3_method_5_code 79 = .ok (.iconst 0, 1) := by decide +kernel
theorem d_Im_isLost_80 : decode prog_3_method_5_code 80 = .ok (.ireturn, 1) := by decide +kernel
abbrev w_Im_isLost (T : Nat → ClassId) (q0 : Nat) (q0_problem : Nat) (q0_point : Nat) (q0_matrix : Nat) (q0_p : Nat) (q0_d : Nat) (q0_h : Nat) (q0_f : Nat) (q0_r : Nat) (q0_stepOfX : Nat) (q0_stepOfS : Nat) (q0_stepOfY : Nat) (q0_problem_a : Nat) (q0_problem_b : Nat) (q0_problem_c : Nat) (q0_point_x : Nat) (q0_point_s : Nat) (q0_point_y : Nat) (vq0_g : UInt64) (vq0_turnsBegun : Int32) (vq0_problem_rows : Int32) (vq0_problem_variables : Int32) (vq0_point_x : Nat → UInt64) (vq0_point_s : Nat → UInt64) (vq0_point_y : Nat → UInt64) : va_W := [(q0, .inr (5, [.ref q0_problem, .ref q0_point, .ref q0_matrix, .ref q0_p, .ref q0_d, .ref q0_h, .ref q0_f, .ref q0_r, .ref q0_stepOfX, .ref q0_stepOfS, .ref q0_stepOfY, .double vq0_g, .int vq0_turnsBegun])), (q0_problem, .inr (0, [.int vq0_problem_rows, .int vq0_problem_variables, .ref q0_problem_a, .ref q0_problem_b, .ref q0_problem_c])), (q0_point, .inr (1, [.ref q0_point_x, .ref q0_point_s, .ref q0_point_y])), (q0_point_x, .inl (T 0, 8, .inr (.inr (.inr (.inl vq0_point_x))))), (q0_point_s, .inl (T 0, 8, .inr (.inr (.inr (.inl vq0_point_s))))), (q0_point_y, .inl (T 0, 5, .inr (.inr (.inr (.inl vq0_point_y)))))]
def s_Im_isLost_B2 (vq0_g : UInt64) (vq0_turnsBegun : Int32) (vq0_problem_rows : Int32) (vq0_problem_variables : Int32) (vq0_point_x : Nat → UInt64) (vq0_point_s : Nat → UInt64) (vq0_point_y : Nat → UInt64) (x1 : Int32) : Option ((Int32) ⊕ ((Unit) ⊕ (Int32))) :=
  if vq0_problem_variables ≤ x1 then (some (.inr (.inl ()))) else (gd (inb x1 8) <| (s_Im_isOutside (vq0_point_x x1.toNatClampNeg)).bind fun u3 => if u3 = 0 then (gd (inb x1 8) <| (s_Im_isOutside (vq0_point_s x1.toNatClampNeg)).bind fun u7 => if u7 = 0 then (some (.inl (x1 + 1))) else (gd (isb 1) <| some (.inr (.inr 1)))) else (gd (isb 1) <| some (.inr (.inr 1))))
def s_Im_isLost_L2 (vq0_g : UInt64) (vq0_turnsBegun : Int32) (vq0_problem_rows : Int32) (vq0_problem_variables : Int32) (vq0_point_x : Nat → UInt64) (vq0_point_s : Nat → UInt64) (vq0_point_y : Nat → UInt64) (x1 : Int32) : Option (Int32) :=
  (loopO (fun (st : Int32) => s_Im_isLost_B2 vq0_g vq0_turnsBegun vq0_problem_rows vq0_problem_variables vq0_point_x vq0_point_s vq0_point_y st) 2000 x1).bind fun u2 => Sum.elim (fun w2 => (s_C_greatestOf 5 vq0_point_y vq0_problem_rows).bind fun u10 => if (Op.cmpValue (FP.dcmp u10 4741671816366391296) .l) ≤ 0 then (gd (isb 0) <| some 0) else (gd (isb 1) <| some 1)) (fun w2 => some w2) u2
def s_Im_isLost (vq0_g : UInt64) (vq0_turnsBegun : Int32) (vq0_problem_rows : Int32) (vq0_problem_variables : Int32) (vq0_point_x : Nat → UInt64) (vq0_point_s : Nat → UInt64) (vq0_point_y : Nat → UInt64) : Option (Int32) :=
  s_Im_isLost_L2 vq0_g vq0_turnsBegun vq0_problem_rows vq0_problem_variables vq0_point_x vq0_point_s vq0_point_y 0
set_option maxHeartbeats 4000000 in
set_option maxRecDepth 100000 in
theorem c_Im_isLost (l : Launch) (D : va_G) (T : Nat → ClassId) (q0 : Nat) (q0_problem : Nat) (q0_point : Nat) (q0_matrix : Nat) (q0_p : Nat) (q0_d : Nat) (q0_h : Nat) (q0_f : Nat) (q0_r : Nat) (q0_stepOfX : Nat) (q0_stepOfS : Nat) (q0_stepOfY : Nat) (q0_problem_a : Nat) (q0_problem_b : Nat) (q0_problem_c : Nat) (q0_point_x : Nat) (q0_point_s : Nat) (q0_point_y : Nat) (vq0_g : UInt64) (vq0_turnsBegun : Int32) (vq0_problem_rows : Int32) (vq0_problem_variables : Int32) (vq0_point_x : Nat → UInt64) (vq0_point_s : Nat → UInt64) (vq0_point_y : Nat → UInt64) (rm : Int32) (h : s_Im_isLost vq0_g vq0_turnsBegun vq0_problem_rows vq0_problem_variables vq0_point_x vq0_point_s vq0_point_y = some rm) : CtI l y_Im_isLost (Cond.code y_Im_isLost prog_3_method_5_code 2 (some .boolean) :: BIG) 2 47 D T [.ref q0] (w_Im_isLost T q0 q0_problem q0_point q0_matrix q0_p q0_d q0_h q0_f q0_r q0_stepOfX q0_stepOfS q0_stepOfY q0_problem_a q0_problem_b q0_problem_c q0_point_x q0_point_s q0_point_y vq0_g vq0_turnsBegun vq0_problem_rows vq0_problem_variables vq0_point_x vq0_point_s vq0_point_y) (fun r => r) (fun r => (w_Im_isLost T q0 q0_problem q0_point q0_matrix q0_p q0_d q0_h q0_f q0_r q0_stepOfX q0_stepOfS q0_stepOfY q0_problem_a q0_problem_b q0_problem_c q0_point_x q0_point_s q0_point_y vq0_g vq0_turnsBegun vq0_problem_rows vq0_problem_variables vq0_point_x vq0_point_s vq0_point_y)) rm := by
  refine cf_entry (y := y_Im_isLost) (cc := prog_3_method_5_code) (nL := 2) (ret := (some .boolean)) (fr := 2) (lo := 47) (T := T) (av := [.ref q0]) (w := (w_Im_isLost T q0 q0_problem q0_point q0_matrix q0_p q0_d q0_h q0_f q0_r q0_stepOfX q0_stepOfS q0_stepOfY q0_problem_a q0_problem_b q0_problem_c q0_point_x q0_point_s q0_point_y vq0_g vq0_turnsBegun vq0_problem_rows vq0_problem_variables vq0_point_x vq0_point_s vq0_point_y)) (Qc := cfQi D (fun r => r) (fun r => (w_Im_isLost T q0 q0_problem q0_point q0_matrix q0_p q0_d q0_h q0_f q0_r q0_stepOfX q0_stepOfS q0_stepOfY q0_problem_a q0_problem_b q0_problem_c q0_point_x q0_point_s q0_point_y vq0_g vq0_turnsBegun vq0_problem_rows vq0_problem_variables vq0_point_x vq0_point_s vq0_point_y)) rm) (by decide) rfl (Nat.le_of_ble_eq_true rfl) ?_
  intro p e s m args below meth c A Q H locs ls hx hb hr hlocks hml hown hts hNW hK hA hQ hP hD hS hl
  have hown : s.vm.findClass "ConeForge$InteriorMethod" = some m.cls := hown
  have hl : lv_has ls 2 [(0, .ref q0)] := hl
  have L2 : ∀ (x1 : Int32), ∀ (H : Heap) (locs : List Loc) (ls : Array Slot), va_P D CL (w_Im_isLost T q0 q0_problem q0_point q0_matrix q0_p q0_d q0_h q0_f q0_r q0_stepOfX q0_stepOfS q0_stepOfY q0_problem_a q0_problem_b q0_problem_c q0_point_x q0_point_s q0_point_y vq0_g vq0_turnsBegun vq0_problem_rows vq0_problem_variables vq0_point_x vq0_point_s vq0_point_y) H → va_D A (w_Im_isLost T q0 q0_problem q0_point q0_matrix q0_p q0_d q0_h q0_f q0_r q0_stepOfX q0_stepOfS q0_stepOfY q0_problem_a q0_problem_b q0_problem_c q0_point_x q0_point_s q0_point_y vq0_g vq0_turnsBegun vq0_problem_rows vq0_problem_variables vq0_point_x vq0_point_s vq0_point_y) → va_S A s.heap H locs → lv_has ls 2 [(0, .ref q0), (1, .int x1)] → s_Im_isLost_L2 vq0_g vq0_turnsBegun vq0_problem_rows vq0_problem_variables vq0_point_x vq0_point_s vq0_point_y x1 = some rm → W p l e (rmk 2 47) s m args below meth c H locs 0 0 Q (F0 m 2 ls []) := by
    intro x1 H locs ls hP hD hS hl h
    unfold s_Im_isLost_L2 at h
    obtain ⟨u2, hu2, h⟩ := bi_some h
    refine loopO_W (Wh := fun (st : Int32) => ∀ (H : Heap) (locs : List Loc) (ls : Array Slot), va_P D CL (w_Im_isLost T q0 q0_problem q0_point q0_matrix q0_p q0_d q0_h q0_f q0_r q0_stepOfX q0_stepOfS q0_stepOfY q0_problem_a q0_problem_b q0_problem_c q0_point_x q0_point_s q0_point_y vq0_g vq0_turnsBegun vq0_problem_rows vq0_problem_variables vq0_point_x vq0_point_s vq0_point_y) H → va_D A (w_Im_isLost T q0 q0_problem q0_point q0_matrix q0_p q0_d q0_h q0_f q0_r q0_stepOfX q0_stepOfS q0_stepOfY q0_problem_a q0_problem_b q0_problem_c q0_point_x q0_point_s q0_point_y vq0_g vq0_turnsBegun vq0_problem_rows vq0_problem_variables vq0_point_x vq0_point_s vq0_point_y) → va_S A s.heap H locs → lv_has ls 2 [(0, .ref q0), (1, .int st)] → W p l e (rmk 2 47) s m args below meth c H locs 0 0 Q (F0 m 2 ls [])) (Wx := fun (e0 : (Unit) ⊕ (Int32)) => Sum.elim (fun (e1 : Unit) => ∀ (H : Heap) (locs : List Loc) (ls : Array Slot), va_P D CL (w_Im_isLost T q0 q0_problem q0_point q0_matrix q0_p q0_d q0_h q0_f q0_r q0_stepOfX q0_stepOfS q0_stepOfY q0_problem_a q0_problem_b q0_problem_c q0_point_x q0_point_s q0_point_y vq0_g vq0_turnsBegun vq0_problem_rows vq0_problem_variables vq0_point_x vq0_point_s vq0_point_y) H → va_D A (w_Im_isLost T q0 q0_problem q0_point q0_matrix q0_p q0_d q0_h q0_f q0_r q0_stepOfX q0_stepOfS q0_stepOfY q0_problem_a q0_problem_b q0_problem_c q0_point_x q0_point_s q0_point_y vq0_g vq0_turnsBegun vq0_problem_rows vq0_problem_variables vq0_point_x vq0_point_s vq0_point_y) → va_S A s.heap H locs → lv_has ls 2 [(0, .ref q0)] → W p l e (rmk 2 47) s m args below meth c H locs 0 0 Q (F0 m 51 ls [])) (fun e2 => e2 = rm) e0) ?_ 2000 _ u2 hu2 ?_ H locs ls hP hD hS hl
    · intro st rb2 h kc2 kx2 H locs ls hP hD hS hl
      obtain ⟨x1, rfl⟩ : ∃ z, z = st := ⟨_, rfl⟩
      have h : s_Im_isLost_B2 vq0_g vq0_turnsBegun vq0_problem_rows vq0_problem_variables vq0_point_x vq0_point_s vq0_point_y x1 = some rb2 := h
      unfold s_Im_isLost_B2 at h
      refine lv_iload_n hx hb d_Im_isLost_2 rfl (lv_at hl 1 rfl) ?_
      refine lv_aload_n hx hb d_Im_isLost_3 rfl (lv_at hl 0 rfl) ?_
      refine va_get (D := D) (ci := 5) (v := .ref q0_problem) (C := "ConeForge$InteriorMethod") (T := FIm) (N := 13) hx hb hts iIm hown hK hP 0 rfl rfl 0 (by decide) (hts _ (bgc bw206)) (fun _ h9 => h9) rfl d_Im_isLost_4 ?_
      refine va_getN (D := D) (ci := 0) (v := .int vq0_problem_variables) (C := "ConeForge$Problem") (T := FPb) (N := 5) hx hb hts iPb hown hK hP 1 rfl rfl 1 (by decide) (hNW.use nw10) (fun _ h9 => h9) rfl d_Im_isLost_7 ?_
      refine lv_icmp_ge (tgt := 51) hx hb d_Im_isLost_10 (by decide) (fun c1 => ?_) (fun c1 => ?_)
      · have h := it_t c1 h
        exact kx2 _ (Option.some.inj h).symm H locs ls hP hD hS (lv_sub hl [0] rfl)
      · have h := it_f c1 h
        refine lv_aload_n hx hb d_Im_isLost_13 rfl (lv_at hl 0 rfl) ?_
        refine va_get (D := D) (ci := 5) (v := .ref q0_point) (C := "ConeForge$InteriorMethod") (T := FIm) (N := 13) hx hb hts iIm hown hK hP 0 rfl rfl 1 (by decide) (hts _ (bgc bw207)) (fun _ h9 => h9) rfl d_Im_isLost_14 ?_
        refine va_getN (D := D) (ci := 1) (v := .ref q0_point_x) (C := "ConeForge$Point") (T := FPt) (N := 3) hx hb hts iPt hown hK hP 2 rfl rfl 0 (by decide) (hNW.use nw32) (fun _ h9 => h9) rfl d_Im_isLost_17 ?_
        refine lv_iload_n hx hb d_Im_isLost_20 rfl (lv_at hl 1 rfl) ?_
        obtain ⟨g2, h⟩ := gd_some h
        refine va_dald hx hb hK hP 3 0 rfl rfl (inb_in g2) d_Im_isLost_21 ?_
        obtain ⟨u3, hu3, h⟩ := bi_some h
        refine kI (v := u3) (wc := (w_Im_isOutside T  )) (wc' := (w_Im_isOutside T  )) (runOS (As := [.double (vq0_point_x x1.toNatClampNeg)]) (rest := []) ((c_Im_isOutside l D T   (vq0_point_x x1.toNatClampNeg) u3 hu3) H.size) ⟨hx, hb, hml, hown, hts⟩ (cwOS bw578 bw579 bw102 bw580 dd_Im_isOutside hts ⟨Nat.le_of_ble_eq_true rfl, Nat.le_of_ble_eq_true rfl⟩)  hNW hK hP hD [] rfl (by decide) rfl hl.1 rfl (lv_room (Nat.le_of_ble_eq_true rfl)) d_Im_isLost_22 ⟨Nat.le_of_ble_eq_true rfl, Nat.le_of_ble_eq_true rfl⟩) hP hD hS hA [] rfl rfl (fun H locs hP hD hS => ?_)
        have hP : va_P D CL (w_Im_isLost T q0 q0_problem q0_point q0_matrix q0_p q0_d q0_h q0_f q0_r q0_stepOfX q0_stepOfS q0_stepOfY q0_problem_a q0_problem_b q0_problem_c q0_point_x q0_point_s q0_point_y vq0_g vq0_turnsBegun vq0_problem_rows vq0_problem_variables vq0_point_x vq0_point_s vq0_point_y) H := hP
        have hD : va_D A (w_Im_isLost T q0 q0_problem q0_point q0_matrix q0_p q0_d q0_h q0_f q0_r q0_stepOfX q0_stepOfS q0_stepOfY q0_problem_a q0_problem_b q0_problem_c q0_point_x q0_point_s q0_point_y vq0_g vq0_turnsBegun vq0_problem_rows vq0_problem_variables vq0_point_x vq0_point_s vq0_point_y) := hD
        refine lv_if_ne (tgt := 43) hx hb d_Im_isLost_25 (by decide) (fun c4 => ?_) (fun c4 => ?_)
        · have h := it_f c4 h
          refine lv_iconst (v := 1) hx hb d_Im_isLost_43 (by decide) ?_
          obtain ⟨g5, h⟩ := gd_some h
          exact rtZ hx hb hr hlocks g5 hQ (kx2 _ (Option.some.inj h).symm) hP hS d_Im_isLost_44 rfl rfl
        · have h := it_t c4 h
          refine lv_aload_n hx hb d_Im_isLost_28 rfl (lv_at hl 0 rfl) ?_
          refine va_get (D := D) (ci := 5) (v := .ref q0_point) (C := "ConeForge$InteriorMethod") (T := FIm) (N := 13) hx hb hts iIm hown hK hP 0 rfl rfl 1 (by decide) (hts _ (bgc bw207)) (fun _ h9 => h9) rfl d_Im_isLost_29 ?_
          refine va_getN (D := D) (ci := 1) (v := .ref q0_point_s) (C := "ConeForge$Point") (T := FPt) (N := 3) hx hb hts iPt hown hK hP 2 rfl rfl 1 (by decide) (hNW.use nw36) (fun _ h9 => h9) rfl d_Im_isLost_32 ?_
          refine lv_iload_n hx hb d_Im_isLost_35 rfl (lv_at hl 1 rfl) ?_
          obtain ⟨g6, h⟩ := gd_some h
          refine va_dald hx hb hK hP 4 0 rfl rfl (inb_in g6) d_Im_isLost_36 ?_
          obtain ⟨u7, hu7, h⟩ := bi_some h
          refine kI (v := u7) (wc := (w_Im_isOutside T  )) (wc' := (w_Im_isOutside T  )) (runOS (As := [.double (vq0_point_s x1.toNatClampNeg)]) (rest := []) ((c_Im_isOutside l D T   (vq0_point_s x1.toNatClampNeg) u7 hu7) H.size) ⟨hx, hb, hml, hown, hts⟩ (cwOS bw578 bw579 bw102 bw580 dd_Im_isOutside hts ⟨Nat.le_of_ble_eq_true rfl, Nat.le_of_ble_eq_true rfl⟩)  hNW hK hP hD [] rfl (by decide) rfl hl.1 rfl (lv_room (Nat.le_of_ble_eq_true rfl)) d_Im_isLost_37 ⟨Nat.le_of_ble_eq_true rfl, Nat.le_of_ble_eq_true rfl⟩) hP hD hS hA [] rfl rfl (fun H locs hP hD hS => ?_)
          have hP : va_P D CL (w_Im_isLost T q0 q0_problem q0_point q0_matrix q0_p q0_d q0_h q0_f q0_r q0_stepOfX q0_stepOfS q0_stepOfY q0_problem_a q0_problem_b q0_problem_c q0_point_x q0_point_s q0_point_y vq0_g vq0_turnsBegun vq0_problem_rows vq0_problem_variables vq0_point_x vq0_point_s vq0_point_y) H := hP
          have hD : va_D A (w_Im_isLost T q0 q0_problem q0_point q0_matrix q0_p q0_d q0_h q0_f q0_r q0_stepOfX q0_stepOfS q0_stepOfY q0_problem_a q0_problem_b q0_problem_c q0_point_x q0_point_s q0_point_y vq0_g vq0_turnsBegun vq0_problem_rows vq0_problem_variables vq0_point_x vq0_point_s vq0_point_y) := hD
          refine lv_if_eq (tgt := 45) hx hb d_Im_isLost_40 (by decide) (fun c8 => ?_) (fun c8 => ?_)
          · have h := it_t c8 h
            refine lv_iinc (v := x1 + 1) (lv' := [(1, .int (x1 + 1)), (0, .ref q0)]) hx hb d_Im_isLost_45 hl (k := 1) rfl rfl (by decide) rfl (fun ls hl => ?_)
            refine lv_goto (tgt := 2) hx hb d_Im_isLost_48 (by decide) ?_
            exact kc2 _ (Option.some.inj h).symm H locs ls hP hD hS (lv_sub hl [1, 0] rfl)
          · have h := it_f c8 h
            refine lv_iconst (v := 1) hx hb d_Im_isLost_43 (by decide) ?_
            obtain ⟨g9, h⟩ := gd_some h
            exact rtZ hx hb hr hlocks g9 hQ (kx2 _ (Option.some.inj h).symm) hP hS d_Im_isLost_44 rfl rfl
    · cases u2 with
      | inl w2 =>
        intro H locs ls hP hD hS hl
        refine lv_aload_n hx hb d_Im_isLost_51 rfl (lv_at hl 0 rfl) ?_
        refine va_get (D := D) (ci := 5) (v := .ref q0_point) (C := "ConeForge$InteriorMethod") (T := FIm) (N := 13) hx hb hts iIm hown hK hP 0 rfl rfl 1 (by decide) (hts _ (bgc bw207)) (fun _ h9 => h9) rfl d_Im_isLost_52 ?_
        refine va_getN (D := D) (ci := 1) (v := .ref q0_point_y) (C := "ConeForge$Point") (T := FPt) (N := 3) hx hb hts iPt hown hK hP 2 rfl rfl 2 (by decide) (hNW.use nw40) (fun _ h9 => h9) rfl d_Im_isLost_55 ?_
        refine lv_aload_n hx hb d_Im_isLost_58 rfl (lv_at hl 0 rfl) ?_
        refine va_get (D := D) (ci := 5) (v := .ref q0_problem) (C := "ConeForge$InteriorMethod") (T := FIm) (N := 13) hx hb hts iIm hown hK hP 0 rfl rfl 0 (by decide) (hts _ (bgc bw206)) (fun _ h9 => h9) rfl d_Im_isLost_59 ?_
        refine va_getN (D := D) (ci := 0) (v := .int vq0_problem_rows) (C := "ConeForge$Problem") (T := FPb) (N := 5) hx hb hts iPb hown hK hP 1 rfl rfl 0 (by decide) (hNW.use nw4) (fun _ h9 => h9) rfl d_Im_isLost_62 ?_
        obtain ⟨u10, hu10, h⟩ := bi_some h
        refine kD (v := u10) (wc := (w_C_greatestOf T q0_point_y 5 vq0_point_y)) (wc' := (w_C_greatestOf T q0_point_y 5 vq0_point_y)) (runNS (As := [.ref q0_point_y, .int vq0_problem_rows]) (rest := []) ((c_C_greatestOf l D T q0_point_y 5 vq0_point_y vq0_problem_rows u10 hu10) H.size) ⟨hx, hb, hml, hown, hts⟩ (cwNS nw90 bw301 bw97 bw302 dd_C_greatestOf hts hNW ⟨Nat.le_of_ble_eq_true rfl, Nat.le_of_ble_eq_true rfl⟩)  hNW hK hP hD [5] rfl (by decide) rfl hl.1 rfl (lv_room (Nat.le_of_ble_eq_true rfl)) d_Im_isLost_65 ⟨Nat.le_of_ble_eq_true rfl, Nat.le_of_ble_eq_true rfl⟩) hP hD hS hA [5] rfl rfl (fun H locs hP hD hS => ?_)
        have hP : va_P D CL (w_Im_isLost T q0 q0_problem q0_point q0_matrix q0_p q0_d q0_h q0_f q0_r q0_stepOfX q0_stepOfS q0_stepOfY q0_problem_a q0_problem_b q0_problem_c q0_point_x q0_point_s q0_point_y vq0_g vq0_turnsBegun vq0_problem_rows vq0_problem_variables vq0_point_x vq0_point_s vq0_point_y) H := hP
        have hD : va_D A (w_Im_isLost T q0 q0_problem q0_point q0_matrix q0_p q0_d q0_h q0_f q0_r q0_stepOfX q0_stepOfS q0_stepOfY q0_problem_a q0_problem_b q0_problem_c q0_point_x q0_point_s q0_point_y vq0_g vq0_turnsBegun vq0_problem_rows vq0_problem_variables vq0_point_x vq0_point_s vq0_point_y) := hD
        refine lv_ldc2d (v := 4741671816366391296) hx hb hown (hts _ (bgc bw581)) d_Im_isLost_68 ?_
        refine lv_dcmp hx hb d_Im_isLost_71 ?_
        refine lv_if_le (tgt := 79) hx hb d_Im_isLost_72 (by decide) (fun c11 => ?_) (fun c11 => ?_)
        · have h := it_t c11 h
          refine lv_iconst (v := 0) hx hb d_Im_isLost_79 (by decide) ?_
          obtain ⟨g12, h⟩ := gd_some h
          exact rtZ hx hb hr hlocks g12 hQ (Option.some.inj h) hP hS d_Im_isLost_80 rfl rfl
        · have h := it_f c11 h
          refine lv_iconst (v := 1) hx hb d_Im_isLost_75 (by decide) ?_
          refine lv_goto (tgt := 80) hx hb d_Im_isLost_76 (by decide) ?_
          obtain ⟨g13, h⟩ := gd_some h
          exact rtZ hx hb hr hlocks g13 hQ (Option.some.inj h) hP hS d_Im_isLost_80 rfl rfl
      | inr w2 => exact Option.some.inj h
  unfold s_Im_isLost at h
  refine lv_iconst (v := 0) hx hb d_Im_isLost_0 (by decide) ?_
  refine lv_istore_n (lv' := [(1, .int 0), (0, .ref q0)]) hx hb d_Im_isLost_1 rfl hl (by decide) rfl (fun ls hl => ?_)
  exact L2 0 H locs ls hP hD hS (lv_sub hl [1, 0] rfl) h
theorem d_Im_findStep_0 : decode prog_3_method_7_code 0 = .ok (.ldc2_w 139, 3) := by decide +kernel
theorem d_Im_findStep_3 : decode prog_3_method_7_code 3 = .ok (.aload_n 0, 1) := by decide +kernel
theorem d_Im_findStep_4 : decode prog_3_method_7_code 4 = .ok (.getfield 57, 3) := by decide +kernel
theorem d_Im_findStep_7 : decode prog_3_method_7_code 7 = .ok (.aload_n 0, 1) := by decide +kernel
theorem d_Im_findStep_8 : decode prog_3_method_7_code 8 = .ok (.getfield 12, 3) := by decide +kernel
theorem d_Im_findStep_11 : decode prog_3_method_7_code 11 = .ok (.getfield 98, 3) := by decide +kernel
theorem d_Im_findStep_14 : decode prog_3_method_7_code 14 = .ok (.i2d, 1) := by decide +kernel
theorem d_Im_findStep_15 : decode prog_3_method_7_code 15 = .ok (.ddiv, 1) := by decide +kernel
theorem d_Im_findStep_16 : decode prog_3_method_7_code 16 = .ok (.dmul, 1) := by decide +kernel
theorem d_Im_findStep_17 : decode prog_3_method_7_code 17 = .ok (.dstore_n 1, 1) := by decide +kernel
theorem d_Im_findStep_18 : decode prog_3_method_7_code 18 = .ok (.iconst 0, 1) := by decide +kernel
theorem d_Im_findStep_19 : decode prog_3_method_7_code 19 = .ok (.istore_n 3, 1) := by decide +kernel
theorem d_Im_findStep_20 : decode prog_3_method_7_code 20 = .ok (.iload_n 3, 1) := by decide +kernel
theorem d_Im_findStep_21 : decode prog_3_method_7_code 21 = .ok (.aload_n 0, 1) := by decide +kernel
theorem d_Im_findStep_22 : decode prog_3_method_7_code 22 = .ok (.getfield 12, 3) := by decide +kernel
theorem d_Im_findStep_25 : decode prog_3_method_7_code 25 = .ok (.getfield 98, 3) := by decide +kernel
theorem d_Im_findStep_28 : decode prog_3_method_7_code 28 = .ok (.if_icmp .ge 75, 3) := by decide +kernel
theorem d_Im_findStep_31 : decode prog_3_method_7_code 31 = .ok (.aload_n 0, 1) := by decide +kernel
theorem d_Im_findStep_32 : decode prog_3_method_7_code 32 = .ok (.getfield 39, 3) := by decide +kernel
theorem d_Im_findStep_35 : decode prog_3_method_7_code 35 = .ok (.iload_n 3, 1) := by decide +kernel
theorem d_Im_findStep_36 : decode prog_3_method_7_code 36 = .ok (.aload_n 0, 1) := by decide +kernel
theorem d_Im_findStep_37 : decode prog_3_method_7_code 37 = .ok (.getfield 21, 3) := by decide +kernel
theorem d_Im_findStep_40 : decode prog_3_method_7_code 40 = .ok (.getfield 91, 3) := by decide +kernel
theorem d_Im_findStep_43 : decode prog_3_method_7_code 43 = .ok (.iload_n 3, 1) := by decide +kernel
theorem d_Im_findStep_44 : decode prog_3_method_7_code 44 = .ok (.daload, 1) := by decide +kernel
theorem d_Im_findStep_45 : decode prog_3_method_7_code 45 = .ok (.aload_n 0, 1) := by decide +kernel
theorem d_Im_findStep_46 : decode prog_3_method_7_code 46 = .ok (.getfield 21, 3) := by decide +kernel
theorem d_Im_findStep_49 : decode prog_3_method_7_code 49 = .ok (.getfield 110, 3) := by decide +kernel
theorem d_Im_findStep_52 : decode prog_3_method_7_code 52 = .ok (.iload_n 3, 1) := by decide +kernel
theorem d_Im_findStep_53 : decode prog_3_method_7_code 53 = .ok (.daload, 1) := by decide +kernel
theorem d_Im_findStep_54 : decode prog_3_method_7_code 54 = .ok (.ddiv, 1) := by decide +kernel
theorem d_Im_findStep_55 : decode prog_3_method_7_code 55 = .ok (.dastore, 1) := by decide +kernel
theorem d_Im_findStep_56 : decode prog_3_method_7_code 56 = .ok (.aload_n 0, 1) := by decide +kernel
theorem d_Im_findStep_57 : decode prog_3_method_7_code 57 = .ok (.getfield 42, 3) := by decide +kernel
theorem d_Im_findStep_60 : decode prog_3_method_7_code 60 = .ok (.iload_n 3, 1) := by decide +kernel
theorem d_Im_findStep_61 : decode prog_3_method_7_code 61 = .ok (.aload_n 0, 1) := by decide +kernel
theorem d_Im_findStep_62 : decode prog_3_method_7_code 62 = .ok (.getfield 21, 3) := by decide +kernel
theorem d_Im_findStep_65 : decode prog_3_method_7_code 65 = .ok (.getfield 91, 3) := by decide +kernel
theorem d_Im_findStep_68 : decode prog_3_method_7_code 68 = .ok (.iload_n 3, 1) := by decide +kernel
theorem d_Im_findStep_69 : decode prog_3_method_7_code 69 = .ok (.daload, 1) := by decide +kernel
theorem d_Im_findStep_70 : decode prog_3_method_7_code 70 = .ok (.dload_n 1, 1) := by decide +kernel
theorem d_Im_findStep_71 : decode prog_3_method_7_code 71 = .ok (.aload_n 0, 1) := by decide +kernel
theorem d_Im_findStep_72 : decode prog_3_method_7_code 72 = .ok (.getfield 21, 3) := by decide +kernel
theorem d_Im_findStep_75 : decode prog_3_method_7_code 75 = .ok (.getfield 110, 3) := by decide +kernel
theorem d_Im_findStep_78 : decode prog_3_method_7_code 78 = .ok (.iload_n 3, 1) := by decide +kernel
theorem d_Im_findStep_79 : decode prog_3_method_7_code 79 = .ok (.daload, 1) := by decide +kernel
theorem d_Im_findStep_80 : decode prog_3_method_7_code 80 = .ok (.ddiv, 1) := by decide +kernel
theorem d_Im_findStep_81 : decode prog_3_method_7_code 81 = .ok (.dsub, 1) := by decide +kernel
theorem d_Im_findStep_82 : decode prog_3_method_7_code 82 = .ok (.aload_n 0, 1) := by decide +kernel
theorem d_Im_findStep_83 : decode prog_3_method_7_code 83 = .ok (.getfield 39, 3) := by decide +kernel
theorem d_Im_findStep_86 : decode prog_3_method_7_code 86 = .ok (.iload_n 3, 1) := by decide +kernel
theorem d_Im_findStep_87 : decode prog_3_method_7_code 87 = .ok (.daload, 1) := by decide +kernel
theorem d_Im_findStep_88 : decode prog_3_method_7_code 88 = .ok (.aload_n 0, 1) := by decide +kernel
theorem d_Im_findStep_89 : decode prog_3_method_7_code 89 = .ok (.getfield 36, 3) := by decide +kernel
theorem d_Im_findStep_92 : decode prog_3_method_7_code 92 = .ok (.iload_n 3, 1) := by decide +kernel
theorem d_Im_findStep_93 : decode prog_3_method_7_code 93 = .ok (.daload, 1) := by decide +kernel
theorem d_Im_findStep_94 : decode prog_3_method_7_code 94 = .ok (.dmul, 1) := by decide +kernel
theorem d_Im_findStep_95 : decode prog_3_method_7_code 95 = .ok (.dadd, 1) := by decide +kernel
theorem d_Im_findStep_96 : decode prog_3_method_7_code 96 = .ok (.dastore, 1) := by decide +kernel
theorem d_Im_findStep_97 : decode prog_3_method_7_code 97 = .ok (.iinc 3 1, 3) := by decide +kernel
theorem d_Im_findStep_100 : decode prog_3_method_7_code 100 = .ok (.goto (-80), 3) := by decide +kernel
theorem d_Im_findStep_103 : decode prog_3_method_7_code 103 = .ok (.iconst 0, 1) := by decide +kernel
theorem d_Im_findStep_104 : decode prog_3_method_7_code 104 = .ok (.istore_n 3, 1) := by decide +kernel
theorem d_Im_findStep_105 : decode prog_3_method_7_code 105 = .ok (.iload_n 3, 1) := by decide +kernel
theorem d_Im_findStep_106 : decode prog_3_method_7_code 106 = .ok (.aload_n 0, 1) := by decide +kernel
theorem d_Im_findStep_107 : decode prog_3_method_7_code 107 = .ok (.getfield 12, 3) := by decide +kernel
theorem d_Im_findStep_110 : decode prog_3_method_7_code 110 = .ok (.getfield 85, 3) := by decide +kernel
theorem d_Im_findStep_113 : decode prog_3_method_7_code 113 = .ok (.if_icmp .ge 33, 3) := by decide +kernel
theorem d_Im_findStep_116 : decode prog_3_method_7_code 116 = .ok (.aload_n 0, 1) := by decide +kernel
theorem d_Im_findStep_117 : decode prog_3_method_7_code 117 = .ok (.getfield 45, 3) := by decide +kernel
theorem d_Im_findStep_120 : decode prog_3_method_7_code 120 = .ok (.iload_n 3, 1) := by decide +kernel
theorem d_Im_findStep_121 : decode prog_3_method_7_code 121 = .ok (.aload_n 0, 1) := by decide +kernel
theorem d_Im_findStep_122 : decode prog_3_method_7_code 122 = .ok (.getfield 12, 3) := by decide +kernel
theorem d_Im_findStep_125 : decode prog_3_method_7_code 125 = .ok (.aload_n 0, 1) := by decide +kernel
theorem d_Im_findStep_126 : decode prog_3_method_7_code 126 = .ok (.getfield 32, 3) := by decide +kernel
theorem d_Im_findStep_129 : decode prog_3_method_7_code 129 = .ok (.iload_n 3, 1) := by decide +kernel
theorem d_Im_findStep_130 : decode prog_3_method_7_code 130 = .ok (.daload, 1) := by decide +kernel
theorem d_Im_findStep_131 : decode prog_3_method_7_code 131 = .ok (.iload_n 3, 1) := by decide +kernel
theorem d_Im_findStep_132 : decode prog_3_method_7_code 132 = .ok (.aload_n 0, 1) := by decide +kernel
theorem d_Im_findStep_133 : decode prog_3_method_7_code 133 = .ok (.getfield 42, 3) := by decide +kernel
theorem d_Im_findStep_136 : decode prog_3_method_7_code 136 = .ok (.invokevirtual 141, 3) := by decide +kernel
theorem d_Im_findStep_139 : decode prog_3_method_7_code 139 = .ok (.dastore, 1) := by decide +kernel
theorem d_Im_findStep_140 : decode prog_3_method_7_code 140 = .ok (.iinc 3 1, 3) := by decide +kernel
theorem d_Im_findStep_143 : decode prog_3_method_7_code 143 = .ok (.goto (-38), 3) := by decide +kernel
theorem d_Im_findStep_146 : decode prog_3_method_7_code 146 = .ok (.aload_n 0, 1) := by decide +kernel
theorem d_Im_findStep_147 : decode prog_3_method_7_code 147 = .ok (.getfield 28, 3) := by decide +kernel
theorem d_Im_findStep_150 : decode prog_3_method_7_code 150 = .ok (.aload_n 0, 1) := by decide +kernel
theorem d_Im_findStep_151 : decode prog_3_method_7_code 151 = .ok (.getfield 12, 3) := by decide +kernel
theorem d_Im_findStep_154 : decode prog_3_method_7_code 154 = .ok (.aload_n 0, 1) := by decide +kernel
theorem d_Im_findStep_155 : decode prog_3_method_7_code 155 = .ok (.getfield 39, 3) := by decide +kernel
theorem d_Im_findStep_158 : decode prog_3_method_7_code 158 = .ok (.invokevirtual 144, 3) := by decide +kernel
theorem d_Im_findStep_161 : decode prog_3_method_7_code 161 = .ok (.aload_n 0, 1) := by decide +kernel
theorem d_Im_findStep_162 : decode prog_3_method_7_code 162 = .ok (.getfield 28, 3) := by decide +kernel
theorem d_Im_findStep_165 : decode prog_3_method_7_code 165 = .ok (.aload_n 0, 1) := by decide +kernel
theorem d_Im_findStep_166 : decode prog_3_method_7_code 166 = .ok (.getfield 12, 3) := by decide +kernel
theorem d_Im_findStep_169 : decode prog_3_method_7_code 169 = .ok (.getfield 85, 3) := by decide +kernel
theorem d_Im_findStep_172 : decode prog_3_method_7_code 172 = .ok (.invokevirtual 148, 3) := by decide +kernel
theorem d_Im_findStep_175 : decode prog_3_method_7_code 175 = .ok (.ifCond .ne 5, 3) := by decide +kernel
theorem d_Im_findStep_178 : decode prog_3_method_7_code 178 = .ok (.iconst 0, 1) := by decide +kernel
theorem d_Im_findStep_179 : decode prog_3_method_7_code 179 = .ok (.ireturn, 1) := by decide +kernel
theorem d_Im_findStep_180 : decode prog_3_method_7_code 180 = .ok (.aload_n 0, 1) := by decide +kernel
theorem d_Im_findStep_181 : decode prog_3_method_7_code 181 = .ok (.getfield 28, 3) := by decide +kernel
theorem d_Im_findStep_184 : decode prog_3_method_7_code 184 = .ok (.aload_n 0, 1) := by decide +kernel
theorem d_Im_findStep_185 : decode prog_3_method_7_code 185 = .ok (.getfield 45, 3) := by decide +kernel
theorem d_Im_findStep_188 : decode prog_3_method_7_code 188 = .ok (.aload_n 0, 1) := by decide +kernel
theorem d_Im_findStep_189 : decode prog_3_method_7_code 189 = .ok (.getfield 54, 3) := by decide +kernel
theorem d_Im_findStep_192 : decode prog_3_method_7_code 192 = .ok (.aload_n 0, 1) := by decide +kernel
theorem d_Im_findStep_193 : decode prog_3_method_7_code 193 = .ok (.getfield 12, 3) := by decide +kernel
theorem d_Im_findStep_196 : decode prog_3_method_7_code 196 = .ok (.getfield 85, 3) := by decide +kernel
theorem d_Im_findStep_199 : decode prog_3_method_7_code 199 = .ok (.invokevirtual 152, 3) := by decide +kernel
theorem d_Im_findStep_202 : decode prog_3_method_7_code 202 = .ok (.iconst 0, 1) := by decide +kernel
theorem d_Im_findStep_203 : decode prog_3_method_7_code 203 = .ok (.istore_n 3, 1) := by decide +kernel
theorem d_Im_findStep_204 : decode prog_3_method_7_code 204 = .ok (.iload_n 3, 1) := by decide +kernel
theorem d_Im_findStep_205 : decode prog_3_method_7_code 205 = .ok (.aload_n 0, 1) := by decide +kernel
theorem d_Im_findStep_206 : decode prog_3_method_7_code 206 = .ok (.getfield 12, 3) := by decide +kernel
theorem d_Im_findStep_209 : decode prog_3_method_7_code 209 = .ok (.getfield 98, 3) := by decide +kernel
theorem d_Im_findStep_212 : decode prog_3_method_7_code 212 = .ok (.if_icmp .ge 74, 3) := by decide +kernel
theorem d_Im_findStep_215 : decode prog_3_method_7_code 215 = .ok (.aload_n 0, 1) := by decide +kernel
theorem d_Im_findStep_216 : decode prog_3_method_7_code 216 = .ok (.getfield 51, 3) := by decide +kernel
theorem d_Im_findStep_219 : decode prog_3_method_7_code 219 = .ok (.iload_n 3, 1) := by decide +kernel
theorem d_Im_findStep_220 : decode prog_3_method_7_code 220 = .ok (.aload_n 0, 1) := by decide +kernel
theorem d_Im_findStep_221 : decode prog_3_method_7_code 221 = .ok (.getfield 12, 3) := by decide +kernel
theorem d_Im_findStep_224 : decode prog_3_method_7_code 224 = .ok (.aload_n 0, 1) := by decide +kernel
theorem d_Im_findStep_225 : decode prog_3_method_7_code 225 = .ok (.getfield 36, 3) := by decide +kernel
theorem d_Im_findStep_228 : decode prog_3_method_7_code 228 = .ok (.iload_n 3, 1) := by decide +kernel
theorem d_Im_findStep_229 : decode prog_3_method_7_code 229 = .ok (.daload, 1) := by decide +kernel
theorem d_Im_findStep_230 : decode prog_3_method_7_code 230 = .ok (.iload_n 3, 1) := by decide +kernel
theorem d_Im_findStep_231 : decode prog_3_method_7_code 231 = .ok (.aload_n 0, 1) := by decide +kernel
theorem d_Im_findStep_232 : decode prog_3_method_7_code 232 = .ok (.getfield 54, 3) := by decide +kernel
theorem d_Im_findStep_235 : decode prog_3_method_7_code 235 = .ok (.invokevirtual 107, 3) := by decide +kernel
theorem d_Im_findStep_238 : decode prog_3_method_7_code 238 = .ok (.dastore, 1) := by decide +kernel
theorem d_Im_findStep_239 : decode prog_3_method_7_code 239 = .ok (.aload_n 0, 1) := by decide +kernel
theorem d_Im_findStep_240 : decode prog_3_method_7_code 240 = .ok (.getfield 48, 3) := by decide +kernel
theorem d_Im_findStep_243 : decode prog_3_method_7_code 243 = .ok (.iload_n 3, 1) := by decide +kernel
theorem d_Im_findStep_244 : decode prog_3_method_7_code 244 = .ok (.dload_n 1, 1) := by decide +kernel
theorem d_Im_findStep_245 : decode prog_3_method_7_code 245 = .ok (.aload_n 0, 1) := by decide +kernel
theorem d_Im_findStep_246 : decode prog_3_method_7_code 246 = .ok (.getfield 21, 3) := by decide +kernel
theorem d_Im_findStep_249 : decode prog_3_method_7_code 249 = .ok (.getfield 110, 3) := by decide +kernel
theorem d_Im_findStep_252 : decode prog_3_method_7_code 252 = .ok (.iload_n 3, 1) := by decide +kernel
theorem d_Im_findStep_253 : decode prog_3_method_7_code 253 = .ok (.daload, 1) := by decide +kernel
theorem d_Im_findStep_254 : decode prog_3_method_7_code 254 = .ok (.ddiv, 1) := by decide +kernel
theorem d_Im_findStep_255 : decode prog_3_method_7_code 255 = .ok (.aload_n 0, 1) := by decide +kernel
theorem d_Im_findStep_256 : decode prog_3_method_7_code 256 = .ok (.getfield 21, 3) := by decide +kernel
theorem d_Im_findStep_259 : decode prog_3_method_7_code 259 = .ok (.getfield 91, 3) := by decide +kernel
theorem d_Im_findStep_262 : decode prog_3_method_7_code 262 = .ok (.iload_n 3, 1) := by decide +kernel
theorem d_Im_findStep_263 : decode prog_3_method_7_code 263 = .ok (.daload, 1) := by decide +kernel
theorem d_Im_findStep_264 : decode prog_3_method_7_code 264 = .ok (.dsub, 1) := by decide +kernel
theorem d_Im_findStep_265 : decode prog_3_method_7_code 265 = .ok (.aload_n 0, 1) := by decide +kernel
theorem d_Im_findStep_266 : decode prog_3_method_7_code 266 = .ok (.getfield 39, 3) := by decide +kernel
theorem d_Im_findStep_269 : decode prog_3_method_7_code 269 = .ok (.iload_n 3, 1) := by decide +kernel
theorem d_Im_findStep_270 : decode prog_3_method_7_code 270 = .ok (.daload, 1) := by decide +kernel
theorem d_Im_findStep_271 : decode prog_3_method_7_code 271 = .ok (.aload_n 0, 1) := by decide +kernel
theorem d_Im_findStep_272 : decode prog_3_method_7_code 272 = .ok (.getfield 51, 3) := by decide +kernel
theorem d_Im_findStep_275 : decode prog_3_method_7_code 275 = .ok (.iload_n 3, 1) := by decide +kernel
theorem d_Im_findStep_276 : decode prog_3_method_7_code 276 = .ok (.daload, 1) := by decide +kernel
theorem d_Im_findStep_277 : decode prog_3_method_7_code 277 = .ok (.dmul, 1) := by decide +kernel
theorem d_Im_findStep_278 : decode prog_3_method_7_code 278 = .ok (.dsub, 1) := by decide +kernel
theorem d_Im_findStep_279 : decode prog_3_method_7_code 279 = .ok (.dastore, 1) := by decide +kernel
theorem d_Im_findStep_280 : decode prog_3_method_7_code 280 = .ok (.iinc 3 1, 3) := by decide +kernel
theorem d_Im_findStep_283 : decode prog_3_method_7_code 283 = .ok (.goto (-79), 3) := by decide +kernel
theorem d_Im_findStep_286 : decode prog_3_method_7_code 286 = .ok (.iconst 1, 1) := by decide +kernel
theorem d_Im_findStep_287 : decode prog_3_method_7_code 287 = .ok (.ireturn, 1) := by decide +kernel
abbrev w_Im_findStep (T : Nat → ClassId) (q0 : Nat) (q0_problem : Nat) (q0_point : Nat) (q0_matrix : Nat) (q0_p : Nat) (q0_d : Nat) (q0_h : Nat) (q0_f : Nat) (q0_r : Nat) (q0_stepOfX : Nat) (q0_stepOfS : Nat) (q0_stepOfY : Nat) (q0_problem_a : Nat) (q0_problem_b : Nat) (q0_problem_c : Nat) (Rq0_problem_a : Nat → Nat) (q0_point_x : Nat) (q0_point_s : Nat) (q0_point_y : Nat) (q0_matrix_entries : Nat) (q0_matrix_lower : Nat) (q0_matrix_diagonal : Nat) (q0_matrix_middle : Nat) (Rq0_matrix_entries : Nat → Nat) (Rq0_matrix_lower : Nat → Nat) (vq0_g : UInt64) (vq0_turnsBegun : Int32) (vq0_problem_rows : Int32) (vq0_problem_variables : Int32) (vq0_problem_a : Nat → Nat → UInt64) (vq0_point_x : Nat → UInt64) (vq0_point_s : Nat → UInt64) (vq0_matrix_entries : Nat → Nat → UInt64) (vq0_matrix_lower : Nat → Nat → UInt64) (vq0_matrix_diagonal : Nat → UInt64) (vq0_matrix_middle : Nat → UInt64) (vq0_p : Nat → UInt64) (vq0_d : Nat → UInt64) (vq0_h : Nat → UInt64) (vq0_f : Nat → UInt64) (vq0_r : Nat → UInt64) (vq0_stepOfX : Nat → UInt64) (vq0_stepOfS : Nat → UInt64) (vq0_stepOfY : Nat → UInt64) : va_W := [(q0, .inr (5, [.ref q0_problem, .ref q0_point, .ref q0_matrix, .ref q0_p, .ref q0_d, .ref q0_h, .ref q0_f, .ref q0_r, .ref q0_stepOfX, .ref q0_stepOfS, .ref q0_stepOfY, .double vq0_g, .int vq0_turnsBegun])), (q0_problem, .inr (0, [.int vq0_problem_rows, .int vq0_problem_variables, .ref q0_problem_a, .ref q0_problem_b, .ref q0_problem_c])), (q0_problem_a, .inl (T 3, 5, .inr (.inr (.inr (.inr (fun i => some (Rq0_problem_a i))))))), (Rq0_problem_a 0, .inl (T 0, 8, .inr (.inr (.inr (.inl (vq0_problem_a 0)))))), (Rq0_problem_a 1, .inl (T 0, 8, .inr (.inr (.inr (.inl (vq0_problem_a 1)))))), (Rq0_problem_a 2, .inl (T 0, 8, .inr (.inr (.inr (.inl (vq0_problem_a 2)))))), (Rq0_problem_a 3, .inl (T 0, 8, .inr (.inr (.inr (.inl (vq0_problem_a 3)))))), (Rq0_problem_a 4, .inl (T 0, 8, .inr (.inr (.inr (.inl (vq0_problem_a 4)))))), (q0_point, .inr (1, [.ref q0_point_x, .ref q0_point_s, .ref q0_point_y])), (q0_point_x, .inl (T 0, 8, .inr (.inr (.inr (.inl vq0_point_x))))), (q0_point_s, .inl (T 0, 8, .inr (.inr (.inr (.inl vq0_point_s))))), (q0_matrix, .inr (4, [.ref q0_matrix_entries, .ref q0_matrix_lower, .ref q0_matrix_diagonal, .ref q0_matrix_middle])), (q0_matrix_entries, .inl (T 3, 5, .inr (.inr (.inr (.inr (fun i => some (Rq0_matrix_entries i))))))), (Rq0_matrix_entries 0, .inl (T 0, 5, .inr (.inr (.inr (.inl (vq0_matrix_entries 0)))))), (Rq0_matrix_entries 1, .inl (T 0, 5, .inr (.inr (.inr (.inl (vq0_matrix_entries 1)))))), (Rq0_matrix_entries 2, .inl (T 0, 5, .inr (.inr (.inr (.inl (vq0_matrix_entries 2)))))), (Rq0_matrix_entries 3, .inl (T 0, 5, .inr (.inr (.inr (.inl (vq0_matrix_entries 3)))))), (Rq0_matrix_entries 4, .inl (T 0, 5, .inr (.inr (.inr (.inl (vq0_matrix_entries 4)))))), (q0_matrix_lower, .inl (T 3, 5, .inr (.inr (.inr (.inr (fun i => some (Rq0_matrix_lower i))))))), (Rq0_matrix_lower 0, .inl (T 0, 5, .inr (.inr (.inr (.inl (vq0_matrix_lower 0)))))), (Rq0_matrix_lower 1, .inl (T 0, 5, .inr (.inr (.inr (.inl (vq0_matrix_lower 1)))))), (Rq0_matrix_lower 2, .inl (T 0, 5, .inr (.inr (.inr (.inl (vq0_matrix_lower 2)))))), (Rq0_matrix_lower 3, .inl (T 0, 5, .inr (.inr (.inr (.inl (vq0_matrix_lower 3)))))), (Rq0_matrix_lower 4, .inl (T 0, 5, .inr (.inr (.inr (.inl (vq0_matrix_lower 4)))))), (q0_matrix_diagonal, .inl (T 0, 5, .inr (.inr (.inr (.inl vq0_matrix_diagonal))))), (q0_matrix_middle, .inl (T 0, 5, .inr (.inr (.inr (.inl vq0_matrix_middle))))), (q0_p, .inl (T 0, 5, .inr (.inr (.inr (.inl vq0_p))))), (q0_d, .inl (T 0, 8, .inr (.inr (.inr (.inl vq0_d))))), (q0_h, .inl (T 0, 8, .inr (.inr (.inr (.inl vq0_h))))), (q0_f, .inl (T 0, 8, .inr (.inr (.inr (.inl vq0_f))))), (q0_r, .inl (T 0, 5, .inr (.inr (.inr (.inl vq0_r))))), (q0_stepOfX, .inl (T 0, 8, .inr (.inr (.inr (.inl vq0_stepOfX))))), (q0_stepOfS, .inl (T 0, 8, .inr (.inr (.inr (.inl vq0_stepOfS))))), (q0_stepOfY, .inl (T 0, 5, .inr (.inr (.inr (.inl vq0_stepOfY)))))]
def s_Im_findStep_B204 (vq0_g : UInt64) (vq0_turnsBegun : Int32) (vq0_problem_rows : Int32) (vq0_problem_variables : Int32) (vq0_problem_a : Nat → Nat → UInt64) (vq0_point_x : Nat → UInt64) (vq0_point_s : Nat → UInt64) (vq0_matrix_entries : Nat → Nat → UInt64) (vq0_matrix_lower : Nat → Nat → UInt64) (vq0_matrix_diagonal : Nat → UInt64) (vq0_matrix_middle : Nat → UInt64) (vq0_p : Nat → UInt64) (vq0_d : Nat → UInt64) (vq0_h : Nat → UInt64) (vq0_f : Nat → UInt64) (vq0_r : Nat → UInt64) (vq0_stepOfY : Nat → UInt64) (x1 : UInt64) (vq0_stepOfX : Nat → UInt64) (vq0_stepOfS : Nat → UInt64) (x3 : Int32) : Option (((Nat → UInt64) × (Nat → UInt64) × Int32) ⊕ ((Nat → UInt64) × (Nat → UInt64))) :=
  if vq0_problem_variables ≤ x3 then (some (.inr (vq0_stepOfX, vq0_stepOfS))) else (gd (inb x3 8) <| (s_Pb_lessColumn 5 vq0_problem_rows vq0_problem_variables vq0_problem_a vq0_stepOfY (vq0_d x3.toNatClampNeg) x3).bind fun u3 => gd (inb x3 8) <| gd (inb x3 8) <| gd (isn (FP.ddiv x1 (vq0_point_s x3.toNatClampNeg))) <| gd (inb x3 8) <| gd (isn (FP.dsub (FP.ddiv x1 (vq0_point_s x3.toNatClampNeg)) (vq0_point_x x3.toNatClampNeg))) <| gd (inb x3 8) <| gd (inb x3 8) <| gd (isn (FP.dmul (vq0_h x3.toNatClampNeg) ((vf_upd vq0_stepOfS x3.toNatClampNeg u3) x3.toNatClampNeg))) <| gd (isn (FP.dsub (FP.dsub (FP.ddiv x1 (vq0_point_s x3.toNatClampNeg)) (vq0_point_x x3.toNatClampNeg)) (FP.dmul (vq0_h x3.toNatClampNeg) ((vf_upd vq0_stepOfS x3.toNatClampNeg u3) x3.toNatClampNeg)))) <| gd (inb x3 8) <| some (.inl (vf_upd vq0_stepOfX x3.toNatClampNeg (FP.dsub (FP.dsub (FP.ddiv x1 (vq0_point_s x3.toNatClampNeg)) (vq0_point_x x3.toNatClampNeg)) (FP.dmul (vq0_h x3.toNatClampNeg) ((vf_upd vq0_stepOfS x3.toNatClampNeg u3) x3.toNatClampNeg))), vf_upd vq0_stepOfS x3.toNatClampNeg u3, x3 + 1)))
def s_Im_findStep_L204 (vq0_g : UInt64) (vq0_turnsBegun : Int32) (vq0_problem_rows : Int32) (vq0_problem_variables : Int32) (vq0_problem_a : Nat → Nat → UInt64) (vq0_point_x : Nat → UInt64) (vq0_point_s : Nat → UInt64) (vq0_matrix_entries : Nat → Nat → UInt64) (vq0_matrix_lower : Nat → Nat → UInt64) (vq0_matrix_diagonal : Nat → UInt64) (vq0_matrix_middle : Nat → UInt64) (vq0_p : Nat → UInt64) (vq0_d : Nat → UInt64) (vq0_h : Nat → UInt64) (vq0_f : Nat → UInt64) (vq0_r : Nat → UInt64) (vq0_stepOfX : Nat → UInt64) (vq0_stepOfS : Nat → UInt64) (vq0_stepOfY : Nat → UInt64) (x1 : UInt64) (x3 : Int32) : Option (Int32 × (Nat → Nat → UInt64) × (Nat → Nat → UInt64) × (Nat → UInt64) × (Nat → UInt64) × (Nat → UInt64) × (Nat → UInt64) × (Nat → UInt64) × (Nat → UInt64) × (Nat → UInt64) × (Nat → UInt64)) :=
  (loopO (fun (st : (Nat → UInt64) × (Nat → UInt64) × Int32) => s_Im_findStep_B204 vq0_g vq0_turnsBegun vq0_problem_rows vq0_problem_variables vq0_problem_a vq0_point_x vq0_point_s vq0_matrix_entries vq0_matrix_lower vq0_matrix_diagonal vq0_matrix_middle vq0_p vq0_d vq0_h vq0_f vq0_r vq0_stepOfY x1 st.1 st.2.1 st.2.2) 2000 (vq0_stepOfX, vq0_stepOfS, x3)).bind fun u204 => gd (isb 1) <| some (1, vq0_matrix_entries, vq0_matrix_lower, vq0_matrix_diagonal, vq0_matrix_middle, vq0_h, vq0_f, vq0_r, u204.1, u204.2, vq0_stepOfY)
def s_Im_findStep_B105 (vq0_g : UInt64) (vq0_turnsBegun : Int32) (vq0_problem_rows : Int32) (vq0_problem_variables : Int32) (vq0_problem_a : Nat → Nat → UInt64) (vq0_point_x : Nat → UInt64) (vq0_point_s : Nat → UInt64) (vq0_matrix_entries : Nat → Nat → UInt64) (vq0_matrix_lower : Nat → Nat → UInt64) (vq0_matrix_diagonal : Nat → UInt64) (vq0_matrix_middle : Nat → UInt64) (vq0_p : Nat → UInt64) (vq0_d : Nat → UInt64) (vq0_h : Nat → UInt64) (vq0_f : Nat → UInt64) (vq0_stepOfX : Nat → UInt64) (vq0_stepOfS : Nat → UInt64) (vq0_stepOfY : Nat → UInt64) (x1 : UInt64) (vq0_r : Nat → UInt64) (x3 : Int32) : Option (((Nat → UInt64) × Int32) ⊕ ((Nat → UInt64))) :=
  if vq0_problem_rows ≤ x3 then (some (.inr vq0_r)) else (gd (inb x3 5) <| (s_Pb_plusRow 8 vq0_problem_rows vq0_problem_variables vq0_problem_a vq0_f (vq0_p x3.toNatClampNeg) x3).bind fun u17 => gd (inb x3 5) <| some (.inl (vf_upd vq0_r x3.toNatClampNeg u17, x3 + 1)))
def s_Im_findStep_L105 (vq0_g : UInt64) (vq0_turnsBegun : Int32) (vq0_problem_rows : Int32) (vq0_problem_variables : Int32) (vq0_problem_a : Nat → Nat → UInt64) (vq0_point_x : Nat → UInt64) (vq0_point_s : Nat → UInt64) (vq0_matrix_entries : Nat → Nat → UInt64) (vq0_matrix_lower : Nat → Nat → UInt64) (vq0_matrix_diagonal : Nat → UInt64) (vq0_matrix_middle : Nat → UInt64) (vq0_p : Nat → UInt64) (vq0_d : Nat → UInt64) (vq0_h : Nat → UInt64) (vq0_f : Nat → UInt64) (vq0_r : Nat → UInt64) (vq0_stepOfX : Nat → UInt64) (vq0_stepOfS : Nat → UInt64) (vq0_stepOfY : Nat → UInt64) (x1 : UInt64) (x3 : Int32) : Option (Int32 × (Nat → Nat → UInt64) × (Nat → Nat → UInt64) × (Nat → UInt64) × (Nat → UInt64) × (Nat → UInt64) × (Nat → UInt64) × (Nat → UInt64) × (Nat → UInt64) × (Nat → UInt64) × (Nat → UInt64)) :=
  (loopO (fun (st : (Nat → UInt64) × Int32) => s_Im_findStep_B105 vq0_g vq0_turnsBegun vq0_problem_rows vq0_problem_variables vq0_problem_a vq0_point_x vq0_point_s vq0_matrix_entries vq0_matrix_lower vq0_matrix_diagonal vq0_matrix_middle vq0_p vq0_d vq0_h vq0_f vq0_stepOfX vq0_stepOfS vq0_stepOfY x1 st.1 st.2) 2000 (vq0_r, x3)).bind fun u105 => (s_Fm_gather 8 vq0_matrix_entries vq0_problem_rows vq0_problem_variables vq0_problem_a vq0_h).bind fun u19 => (s_Fm_factor u19 vq0_matrix_lower vq0_matrix_diagonal vq0_problem_rows).bind fun u20 => if u20.1 = 0 then (gd (isb 0) <| some (0, u19, u20.2.1, u20.2.2, vq0_matrix_middle, vq0_h, vq0_f, u105, vq0_stepOfX, vq0_stepOfS, vq0_stepOfY)) else ((s_Fm_solve 5 5 u20.2.1 u20.2.2 vq0_matrix_middle u105 vq0_stepOfY vq0_problem_rows).bind fun u22 => s_Im_findStep_L204 vq0_g vq0_turnsBegun vq0_problem_rows vq0_problem_variables vq0_problem_a vq0_point_x vq0_point_s u19 u20.2.1 u20.2.2 u22.1 vq0_p vq0_d vq0_h vq0_f u105 vq0_stepOfX vq0_stepOfS u22.2 x1 0)
def s_Im_findStep_B20 (vq0_g : UInt64) (vq0_turnsBegun : Int32) (vq0_problem_rows : Int32) (vq0_problem_variables : Int32) (vq0_problem_a : Nat → Nat → UInt64) (vq0_point_x : Nat → UInt64) (vq0_point_s : Nat → UInt64) (vq0_matrix_entries : Nat → Nat → UInt64) (vq0_matrix_lower : Nat → Nat → UInt64) (vq0_matrix_diagonal : Nat → UInt64) (vq0_matrix_middle : Nat → UInt64) (vq0_p : Nat → UInt64) (vq0_d : Nat → UInt64) (vq0_r : Nat → UInt64) (vq0_stepOfX : Nat → UInt64) (vq0_stepOfS : Nat → UInt64) (vq0_stepOfY : Nat → UInt64) (x1 : UInt64) (vq0_h : Nat → UInt64) (vq0_f : Nat → UInt64) (x3 : Int32) : Option (((Nat → UInt64) × (Nat → UInt64) × Int32) ⊕ ((Nat → UInt64) × (Nat → UInt64))) :=
  if vq0_problem_variables ≤ x3 then (some (.inr (vq0_h, vq0_f))) else (gd (inb x3 8) <| gd (inb x3 8) <| gd (isn (FP.ddiv (vq0_point_x x3.toNatClampNeg) (vq0_point_s x3.toNatClampNeg))) <| gd (inb x3 8) <| gd (inb x3 8) <| gd (inb x3 8) <| gd (isn (FP.ddiv x1 (vq0_point_s x3.toNatClampNeg))) <| gd (isn (FP.dsub (vq0_point_x x3.toNatClampNeg) (FP.ddiv x1 (vq0_point_s x3.toNatClampNeg)))) <| gd (inb x3 8) <| gd (inb x3 8) <| gd (isn (FP.dmul ((vf_upd vq0_h x3.toNatClampNeg (FP.ddiv (vq0_point_x x3.toNatClampNeg) (vq0_point_s x3.toNatClampNeg))) x3.toNatClampNeg) (vq0_d x3.toNatClampNeg))) <| gd (isn (FP.dadd (FP.dsub (vq0_point_x x3.toNatClampNeg) (FP.ddiv x1 (vq0_point_s x3.toNatClampNeg))) (FP.dmul ((vf_upd vq0_h x3.toNatClampNeg (FP.ddiv (vq0_point_x x3.toNatClampNeg) (vq0_point_s x3.toNatClampNeg))) x3.toNatClampNeg) (vq0_d x3.toNatClampNeg)))) <| gd (inb x3 8) <| some (.inl (vf_upd vq0_h x3.toNatClampNeg (FP.ddiv (vq0_point_x x3.toNatClampNeg) (vq0_point_s x3.toNatClampNeg)), vf_upd vq0_f x3.toNatClampNeg (FP.dadd (FP.dsub (vq0_point_x x3.toNatClampNeg) (FP.ddiv x1 (vq0_point_s x3.toNatClampNeg))) (FP.dmul ((vf_upd vq0_h x3.toNatClampNeg (FP.ddiv (vq0_point_x x3.toNatClampNeg) (vq0_point_s x3.toNatClampNeg))) x3.toNatClampNeg) (vq0_d x3.toNatClampNeg))), x3 + 1)))
def s_Im_findStep_L20 (vq0_g : UInt64) (vq0_turnsBegun : Int32) (vq0_problem_rows : Int32) (vq0_problem_variables : Int32) (vq0_problem_a : Nat → Nat → UInt64) (vq0_point_x : Nat → UInt64) (vq0_point_s : Nat → UInt64) (vq0_matrix_entries : Nat → Nat → UInt64) (vq0_matrix_lower : Nat → Nat → UInt64) (vq0_matrix_diagonal : Nat → UInt64) (vq0_matrix_middle : Nat → UInt64) (vq0_p : Nat → UInt64) (vq0_d : Nat → UInt64) (vq0_h : Nat → UInt64) (vq0_f : Nat → UInt64) (vq0_r : Nat → UInt64) (vq0_stepOfX : Nat → UInt64) (vq0_stepOfS : Nat → UInt64) (vq0_stepOfY : Nat → UInt64) (x1 : UInt64) (x3 : Int32) : Option (Int32 × (Nat → Nat → UInt64) × (Nat → Nat → UInt64) × (Nat → UInt64) × (Nat → UInt64) × (Nat → UInt64) × (Nat → UInt64) × (Nat → UInt64) × (Nat → UInt64) × (Nat → UInt64) × (Nat → UInt64)) :=
  (loopO (fun (st : (Nat → UInt64) × (Nat → UInt64) × Int32) => s_Im_findStep_B20 vq0_g vq0_turnsBegun vq0_problem_rows vq0_problem_variables vq0_problem_a vq0_point_x vq0_point_s vq0_matrix_entries vq0_matrix_lower vq0_matrix_diagonal vq0_matrix_middle vq0_p vq0_d vq0_r vq0_stepOfX vq0_stepOfS vq0_stepOfY x1 st.1 st.2.1 st.2.2) 2000 (vq0_h, vq0_f, x3)).bind fun u20 => s_Im_findStep_L105 vq0_g vq0_turnsBegun vq0_problem_rows vq0_problem_variables vq0_problem_a vq0_point_x vq0_point_s vq0_matrix_entries vq0_matrix_lower vq0_matrix_diagonal vq0_matrix_middle vq0_p vq0_d u20.1 u20.2 vq0_r vq0_stepOfX vq0_stepOfS vq0_stepOfY x1 0
def s_Im_findStep (vq0_g : UInt64) (vq0_turnsBegun : Int32) (vq0_problem_rows : Int32) (vq0_problem_variables : Int32) (vq0_problem_a : Nat → Nat → UInt64) (vq0_point_x : Nat → UInt64) (vq0_point_s : Nat → UInt64) (vq0_matrix_entries : Nat → Nat → UInt64) (vq0_matrix_lower : Nat → Nat → UInt64) (vq0_matrix_diagonal : Nat → UInt64) (vq0_matrix_middle : Nat → UInt64) (vq0_p : Nat → UInt64) (vq0_d : Nat → UInt64) (vq0_h : Nat → UInt64) (vq0_f : Nat → UInt64) (vq0_r : Nat → UInt64) (vq0_stepOfX : Nat → UInt64) (vq0_stepOfS : Nat → UInt64) (vq0_stepOfY : Nat → UInt64) : Option (Int32 × (Nat → Nat → UInt64) × (Nat → Nat → UInt64) × (Nat → UInt64) × (Nat → UInt64) × (Nat → UInt64) × (Nat → UInt64) × (Nat → UInt64) × (Nat → UInt64) × (Nat → UInt64) × (Nat → UInt64)) :=
  gd (isn (FP.ddiv vq0_g (FP.i2d vq0_problem_variables))) <| gd (isn (FP.dmul 4591870180066957722 (FP.ddiv vq0_g (FP.i2d vq0_problem_variables)))) <| s_Im_findStep_L20 vq0_g vq0_turnsBegun vq0_problem_rows vq0_problem_variables vq0_problem_a vq0_point_x vq0_point_s vq0_matrix_entries vq0_matrix_lower vq0_matrix_diagonal vq0_matrix_middle vq0_p vq0_d vq0_h vq0_f vq0_r vq0_stepOfX vq0_stepOfS vq0_stepOfY (FP.dmul 4591870180066957722 (FP.ddiv vq0_g (FP.i2d vq0_problem_variables))) 0
set_option maxHeartbeats 4000000 in
set_option maxRecDepth 100000 in
theorem c_Im_findStep (l : Launch) (D : va_G) (T : Nat → ClassId) (q0 : Nat) (q0_problem : Nat) (q0_point : Nat) (q0_matrix : Nat) (q0_p : Nat) (q0_d : Nat) (q0_h : Nat) (q0_f : Nat) (q0_r : Nat) (q0_stepOfX : Nat) (q0_stepOfS : Nat) (q0_stepOfY : Nat) (q0_problem_a : Nat) (q0_problem_b : Nat) (q0_problem_c : Nat) (Rq0_problem_a : Nat → Nat) (q0_point_x : Nat) (q0_point_s : Nat) (q0_point_y : Nat) (q0_matrix_entries : Nat) (q0_matrix_lower : Nat) (q0_matrix_diagonal : Nat) (q0_matrix_middle : Nat) (Rq0_matrix_entries : Nat → Nat) (Rq0_matrix_lower : Nat → Nat) (vq0_g : UInt64) (vq0_turnsBegun : Int32) (vq0_problem_rows : Int32) (vq0_problem_variables : Int32) (vq0_problem_a : Nat → Nat → UInt64) (vq0_point_x : Nat → UInt64) (vq0_point_s : Nat → UInt64) (vq0_matrix_entries : Nat → Nat → UInt64) (vq0_matrix_lower : Nat → Nat → UInt64) (vq0_matrix_diagonal : Nat → UInt64) (vq0_matrix_middle : Nat → UInt64) (vq0_p : Nat → UInt64) (vq0_d : Nat → UInt64) (vq0_h : Nat → UInt64) (vq0_f : Nat → UInt64) (vq0_r : Nat → UInt64) (vq0_stepOfX : Nat → UInt64) (vq0_stepOfS : Nat → UInt64) (vq0_stepOfY : Nat → UInt64) (rm : Int32 × (Nat → Nat → UInt64) × (Nat → Nat → UInt64) × (Nat → UInt64) × (Nat → UInt64) × (Nat → UInt64) × (Nat → UInt64) × (Nat → UInt64) × (Nat → UInt64) × (Nat → UInt64) × (Nat → UInt64)) (h : s_Im_findStep vq0_g vq0_turnsBegun vq0_problem_rows vq0_problem_variables vq0_problem_a vq0_point_x vq0_point_s vq0_matrix_entries vq0_matrix_lower vq0_matrix_diagonal vq0_matrix_middle vq0_p vq0_d vq0_h vq0_f vq0_r vq0_stepOfX vq0_stepOfS vq0_stepOfY = some rm) : CtI l y_Im_findStep (Cond.code y_Im_findStep prog_3_method_7_code 4 (some .boolean) :: BIG) 2 48 D T [.ref q0] (w_Im_findStep T q0 q0_problem q0_point q0_matrix q0_p q0_d q0_h q0_f q0_r q0_stepOfX q0_stepOfS q0_stepOfY q0_problem_a q0_problem_b q0_problem_c Rq0_problem_a q0_point_x q0_point_s q0_point_y q0_matrix_entries q0_matrix_lower q0_matrix_diagonal q0_matrix_middle Rq0_matrix_entries Rq0_matrix_lower vq0_g vq0_turnsBegun vq0_problem_rows vq0_problem_variables vq0_problem_a vq0_point_x vq0_point_s vq0_matrix_entries vq0_matrix_lower vq0_matrix_diagonal vq0_matrix_middle vq0_p vq0_d vq0_h vq0_f vq0_r vq0_stepOfX vq0_stepOfS vq0_stepOfY) (fun r => r.1) (fun r => (w_Im_findStep T q0 q0_problem q0_point q0_matrix q0_p q0_d q0_h q0_f q0_r q0_stepOfX q0_stepOfS q0_stepOfY q0_problem_a q0_problem_b q0_problem_c Rq0_problem_a q0_point_x q0_point_s q0_point_y q0_matrix_entries q0_matrix_lower q0_matrix_diagonal q0_matrix_middle Rq0_matrix_entries Rq0_matrix_lower vq0_g vq0_turnsBegun vq0_problem_rows vq0_problem_variables vq0_problem_a vq0_point_x vq0_point_s r.2.1 r.2.2.1 r.2.2.2.1 r.2.2.2.2.1 vq0_p vq0_d r.2.2.2.2.2.1 r.2.2.2.2.2.2.1 r.2.2.2.2.2.2.2.1 r.2.2.2.2.2.2.2.2.1 r.2.2.2.2.2.2.2.2.2.1 r.2.2.2.2.2.2.2.2.2.2)) rm := by
  refine cf_entry (y := y_Im_findStep) (cc := prog_3_method_7_code) (nL := 4) (ret := (some .boolean)) (fr := 2) (lo := 48) (T := T) (av := [.ref q0]) (w := (w_Im_findStep T q0 q0_problem q0_point q0_matrix q0_p q0_d q0_h q0_f q0_r q0_stepOfX q0_stepOfS q0_stepOfY q0_problem_a q0_problem_b q0_problem_c Rq0_problem_a q0_point_x q0_point_s q0_point_y q0_matrix_entries q0_matrix_lower q0_matrix_diagonal q0_matrix_middle Rq0_matrix_entries Rq0_matrix_lower vq0_g vq0_turnsBegun vq0_problem_rows vq0_problem_variables vq0_problem_a vq0_point_x vq0_point_s vq0_matrix_entries vq0_matrix_lower vq0_matrix_diagonal vq0_matrix_middle vq0_p vq0_d vq0_h vq0_f vq0_r vq0_stepOfX vq0_stepOfS vq0_stepOfY)) (Qc := cfQi D (fun r => r.1) (fun r => (w_Im_findStep T q0 q0_problem q0_point q0_matrix q0_p q0_d q0_h q0_f q0_r q0_stepOfX q0_stepOfS q0_stepOfY q0_problem_a q0_problem_b q0_problem_c Rq0_problem_a q0_point_x q0_point_s q0_point_y q0_matrix_entries q0_matrix_lower q0_matrix_diagonal q0_matrix_middle Rq0_matrix_entries Rq0_matrix_lower vq0_g vq0_turnsBegun vq0_problem_rows vq0_problem_variables vq0_problem_a vq0_point_x vq0_point_s r.2.1 r.2.2.1 r.2.2.2.1 r.2.2.2.2.1 vq0_p vq0_d r.2.2.2.2.2.1 r.2.2.2.2.2.2.1 r.2.2.2.2.2.2.2.1 r.2.2.2.2.2.2.2.2.1 r.2.2.2.2.2.2.2.2.2.1 r.2.2.2.2.2.2.2.2.2.2)) rm) (by decide) rfl (Nat.le_of_ble_eq_true rfl) ?_
  intro p e s m args below meth c A Q H locs ls hx hb hr hlocks hml hown hts hNW hK hA hQ hP hD hS hl
  have hown : s.vm.findClass "ConeForge$InteriorMethod" = some m.cls := hown
  have hl : lv_has ls 4 [(0, .ref q0)] := hl
  have L204 : ∀ (vq0_matrix_entries : Nat → Nat → UInt64) (vq0_matrix_lower : Nat → Nat → UInt64) (vq0_matrix_diagonal : Nat → UInt64) (vq0_matrix_middle : Nat → UInt64) (vq0_h : Nat → UInt64) (vq0_f : Nat → UInt64) (vq0_r : Nat → UInt64) (vq0_stepOfX : Nat → UInt64) (vq0_stepOfS : Nat → UInt64) (vq0_stepOfY : Nat → UInt64) (x1 : UInt64) (x3 : Int32), ∀ (H : Heap) (locs : List Loc) (ls : Array Slot), va_P D CL (w_Im_findStep T q0 q0_problem q0_point q0_matrix q0_p q0_d q0_h q0_f q0_r q0_stepOfX q0_stepOfS q0_stepOfY q0_problem_a q0_problem_b q0_problem_c Rq0_problem_a q0_point_x q0_point_s q0_point_y q0_matrix_entries q0_matrix_lower q0_matrix_diagonal q0_matrix_middle Rq0_matrix_entries Rq0_matrix_lower vq0_g vq0_turnsBegun vq0_problem_rows vq0_problem_variables vq0_problem_a vq0_point_x vq0_point_s vq0_matrix_entries vq0_matrix_lower vq0_matrix_diagonal vq0_matrix_middle vq0_p vq0_d vq0_h vq0_f vq0_r vq0_stepOfX vq0_stepOfS vq0_stepOfY) H → va_D A (w_Im_findStep T q0 q0_problem q0_point q0_matrix q0_p q0_d q0_h q0_f q0_r q0_stepOfX q0_stepOfS q0_stepOfY q0_problem_a q0_problem_b q0_problem_c Rq0_problem_a q0_point_x q0_point_s q0_point_y q0_matrix_entries q0_matrix_lower q0_matrix_diagonal q0_matrix_middle Rq0_matrix_entries Rq0_matrix_lower vq0_g vq0_turnsBegun vq0_problem_rows vq0_problem_variables vq0_problem_a vq0_point_x vq0_point_s vq0_matrix_entries vq0_matrix_lower vq0_matrix_diagonal vq0_matrix_middle vq0_p vq0_d vq0_h vq0_f vq0_r vq0_stepOfX vq0_stepOfS vq0_stepOfY) → va_S A s.heap H locs → lv_has ls 4 [(0, .ref q0), (1, .double x1), (3, .int x3)] → s_Im_findStep_L204 vq0_g vq0_turnsBegun vq0_problem_rows vq0_problem_variables vq0_problem_a vq0_point_x vq0_point_s vq0_matrix_entries vq0_matrix_lower vq0_matrix_diagonal vq0_matrix_middle vq0_p vq0_d vq0_h vq0_f vq0_r vq0_stepOfX vq0_stepOfS vq0_stepOfY x1 x3 = some rm → W p l e (rmk 2 48) s m args below meth c H locs 0 0 Q (F0 m 204 ls []) := by
    intro vq0_matrix_entries vq0_matrix_lower vq0_matrix_diagonal vq0_matrix_middle vq0_h vq0_f vq0_r vq0_stepOfX vq0_stepOfS vq0_stepOfY x1 x3 H locs ls hP hD hS hl h
    unfold s_Im_findStep_L204 at h
    obtain ⟨u204, hu204, h⟩ := bi_some h
    refine loopO_W (Wh := fun (st : (Nat → UInt64) × (Nat → UInt64) × Int32) => ∀ (H : Heap) (locs : List Loc) (ls : Array Slot), va_P D CL (w_Im_findStep T q0 q0_problem q0_point q0_matrix q0_p q0_d q0_h q0_f q0_r q0_stepOfX q0_stepOfS q0_stepOfY q0_problem_a q0_problem_b q0_problem_c Rq0_problem_a q0_point_x q0_point_s q0_point_y q0_matrix_entries q0_matrix_lower q0_matrix_diagonal q0_matrix_middle Rq0_matrix_entries Rq0_matrix_lower vq0_g vq0_turnsBegun vq0_problem_rows vq0_problem_variables vq0_problem_a vq0_point_x vq0_point_s vq0_matrix_entries vq0_matrix_lower vq0_matrix_diagonal vq0_matrix_middle vq0_p vq0_d vq0_h vq0_f vq0_r st.1 st.2.1 vq0_stepOfY) H → va_D A (w_Im_findStep T q0 q0_problem q0_point q0_matrix q0_p q0_d q0_h q0_f q0_r q0_stepOfX q0_stepOfS q0_stepOfY q0_problem_a q0_problem_b q0_problem_c Rq0_problem_a q0_point_x q0_point_s q0_point_y q0_matrix_entries q0_matrix_lower q0_matrix_diagonal q0_matrix_middle Rq0_matrix_entries Rq0_matrix_lower vq0_g vq0_turnsBegun vq0_problem_rows vq0_problem_variables vq0_problem_a vq0_point_x vq0_point_s vq0_matrix_entries vq0_matrix_lower vq0_matrix_diagonal vq0_matrix_middle vq0_p vq0_d vq0_h vq0_f vq0_r st.1 st.2.1 vq0_stepOfY) → va_S A s.heap H locs → lv_has ls 4 [(0, .ref q0), (1, .double x1), (3, .int st.2.2)] → W p l e (rmk 2 48) s m args below meth c H locs 0 0 Q (F0 m 204 ls [])) (Wx := fun (e1 : (Nat → UInt64) × (Nat → UInt64)) => ∀ (H : Heap) (locs : List Loc) (ls : Array Slot), va_P D CL (w_Im_findStep T q0 q0_problem q0_point q0_matrix q0_p q0_d q0_h q0_f q0_r q0_stepOfX q0_stepOfS q0_stepOfY q0_problem_a q0_problem_b q0_problem_c Rq0_problem_a q0_point_x q0_point_s q0_point_y q0_matrix_entries q0_matrix_lower q0_matrix_diagonal q0_matrix_middle Rq0_matrix_entries Rq0_matrix_lower vq0_g vq0_turnsBegun vq0_problem_rows vq0_problem_variables vq0_problem_a vq0_point_x vq0_point_s vq0_matrix_entries vq0_matrix_lower vq0_matrix_diagonal vq0_matrix_middle vq0_p vq0_d vq0_h vq0_f vq0_r e1.1 e1.2 vq0_stepOfY) H → va_D A (w_Im_findStep T q0 q0_problem q0_point q0_matrix q0_p q0_d q0_h q0_f q0_r q0_stepOfX q0_stepOfS q0_stepOfY q0_problem_a q0_problem_b q0_problem_c Rq0_problem_a q0_point_x q0_point_s q0_point_y q0_matrix_entries q0_matrix_lower q0_matrix_diagonal q0_matrix_middle Rq0_matrix_entries Rq0_matrix_lower vq0_g vq0_turnsBegun vq0_problem_rows vq0_problem_variables vq0_problem_a vq0_point_x vq0_point_s vq0_matrix_entries vq0_matrix_lower vq0_matrix_diagonal vq0_matrix_middle vq0_p vq0_d vq0_h vq0_f vq0_r e1.1 e1.2 vq0_stepOfY) → va_S A s.heap H locs → lv_has ls 4 [] → W p l e (rmk 2 48) s m args below meth c H locs 0 0 Q (F0 m 286 ls [])) ?_ 2000 _ u204 hu204 ?_ H locs ls hP hD hS hl
    · intro st rb204 h kc204 kx204 H locs ls hP hD hS hl
      obtain ⟨vq0_stepOfX, vq0_stepOfS, x3⟩ := st
      have h : s_Im_findStep_B204 vq0_g vq0_turnsBegun vq0_problem_rows vq0_problem_variables vq0_problem_a vq0_point_x vq0_point_s vq0_matrix_entries vq0_matrix_lower vq0_matrix_diagonal vq0_matrix_middle vq0_p vq0_d vq0_h vq0_f vq0_r vq0_stepOfY x1 vq0_stepOfX vq0_stepOfS x3 = some rb204 := h
      unfold s_Im_findStep_B204 at h
      refine lv_iload_n hx hb d_Im_findStep_204 rfl (lv_at hl 2 rfl) ?_
      refine lv_aload_n hx hb d_Im_findStep_205 rfl (lv_at hl 0 rfl) ?_
      refine va_get (D := D) (ci := 5) (v := .ref q0_problem) (C := "ConeForge$InteriorMethod") (T := FIm) (N := 13) hx hb hts iIm hown hK hP 0 rfl rfl 0 (by decide) (hts _ (bgc bw206)) (fun _ h9 => h9) rfl d_Im_findStep_206 ?_
      refine va_getN (D := D) (ci := 0) (v := .int vq0_problem_variables) (C := "ConeForge$Problem") (T := FPb) (N := 5) hx hb hts iPb hown hK hP 1 rfl rfl 1 (by decide) (hNW.use nw10) (fun _ h9 => h9) rfl d_Im_findStep_209 ?_
      refine lv_icmp_ge (tgt := 286) hx hb d_Im_findStep_212 (by decide) (fun c1 => ?_) (fun c1 => ?_)
      · have h := it_t c1 h
        exact kx204 _ (Option.some.inj h).symm H locs ls hP hD hS (lv_sub hl [] rfl)
      · have h := it_f c1 h
        refine lv_aload_n hx hb d_Im_findStep_215 rfl (lv_at hl 0 rfl) ?_
        refine va_get (D := D) (ci := 5) (v := .ref q0_stepOfS) (C := "ConeForge$InteriorMethod") (T := FIm) (N := 13) hx hb hts iIm hown hK hP 0 rfl rfl 9 (by decide) (hts _ (bgc bw215)) (fun _ h9 => h9) rfl d_Im_findStep_216 ?_
        refine lv_iload_n hx hb d_Im_findStep_219 rfl (lv_at hl 2 rfl) ?_
        refine lv_aload_n hx hb d_Im_findStep_220 rfl (lv_at hl 0 rfl) ?_
        refine va_get (D := D) (ci := 5) (v := .ref q0_problem) (C := "ConeForge$InteriorMethod") (T := FIm) (N := 13) hx hb hts iIm hown hK hP 0 rfl rfl 0 (by decide) (hts _ (bgc bw206)) (fun _ h9 => h9) rfl d_Im_findStep_221 ?_
        refine lv_aload_n hx hb d_Im_findStep_224 rfl (lv_at hl 0 rfl) ?_
        refine va_get (D := D) (ci := 5) (v := .ref q0_d) (C := "ConeForge$InteriorMethod") (T := FIm) (N := 13) hx hb hts iIm hown hK hP 0 rfl rfl 4 (by decide) (hts _ (bgc bw210)) (fun _ h9 => h9) rfl d_Im_findStep_225 ?_
        refine lv_iload_n hx hb d_Im_findStep_228 rfl (lv_at hl 2 rfl) ?_
        obtain ⟨g2, h⟩ := gd_some h
        refine va_dald hx hb hK hP 27 0 rfl rfl (inb_in g2) d_Im_findStep_229 ?_
        refine lv_iload_n hx hb d_Im_findStep_230 rfl (lv_at hl 2 rfl) ?_
        refine lv_aload_n hx hb d_Im_findStep_231 rfl (lv_at hl 0 rfl) ?_
        refine va_get (D := D) (ci := 5) (v := .ref q0_stepOfY) (C := "ConeForge$InteriorMethod") (T := FIm) (N := 13) hx hb hts iIm hown hK hP 0 rfl rfl 10 (by decide) (hts _ (bgc bw216)) (fun _ h9 => h9) rfl d_Im_findStep_232 ?_
        obtain ⟨u3, hu3, h⟩ := bi_some h
        refine kD (v := u3) (wc := (w_Pb_lessColumn T q0_problem q0_problem_a q0_problem_b q0_problem_c Rq0_problem_a q0_stepOfY 5 vq0_problem_rows vq0_problem_variables vq0_problem_a vq0_stepOfY)) (wc' := (w_Pb_lessColumn T q0_problem q0_problem_a q0_problem_b q0_problem_c Rq0_problem_a q0_stepOfY 5 vq0_problem_rows vq0_problem_variables vq0_problem_a vq0_stepOfY)) (runNV (As := [.double (vq0_d x3.toNatClampNeg), .int x3, .ref q0_stepOfY]) (rest := [.int x3, .ref q0_stepOfS]) ((c_Pb_lessColumn l D T q0_problem q0_problem_a q0_problem_b q0_problem_c Rq0_problem_a q0_stepOfY 5 vq0_problem_rows vq0_problem_variables vq0_problem_a vq0_stepOfY (vq0_d x3.toNatClampNeg) x3 u3 hu3) H.size) ⟨hx, hb, hml, hown, hts⟩ (cwNV nw85 bw376 bw22 bw98 bw377 dd_Pb_lessColumn hts hNW ⟨Nat.le_of_ble_eq_true rfl, Nat.le_of_ble_eq_true rfl⟩) (va_recv hK hP (ci := 0) (q0 := 1) rfl rfl) hNW hK hP hD [1, 2, 3, 4, 5, 6, 7, 33] rfl (by decide) rfl hl.1 rfl (lv_room (Nat.le_of_ble_eq_true rfl)) d_Im_findStep_235 ⟨Nat.le_of_ble_eq_true rfl, Nat.le_of_ble_eq_true rfl⟩) hP hD hS hA [1, 2, 3, 4, 5, 6, 7, 33] rfl rfl (fun H locs hP hD hS => ?_)
        have hP : va_P D CL (w_Im_findStep T q0 q0_problem q0_point q0_matrix q0_p q0_d q0_h q0_f q0_r q0_stepOfX q0_stepOfS q0_stepOfY q0_problem_a q0_problem_b q0_problem_c Rq0_problem_a q0_point_x q0_point_s q0_point_y q0_matrix_entries q0_matrix_lower q0_matrix_diagonal q0_matrix_middle Rq0_matrix_entries Rq0_matrix_lower vq0_g vq0_turnsBegun vq0_problem_rows vq0_problem_variables vq0_problem_a vq0_point_x vq0_point_s vq0_matrix_entries vq0_matrix_lower vq0_matrix_diagonal vq0_matrix_middle vq0_p vq0_d vq0_h vq0_f vq0_r vq0_stepOfX vq0_stepOfS vq0_stepOfY) H := hP
        have hD : va_D A (w_Im_findStep T q0 q0_problem q0_point q0_matrix q0_p q0_d q0_h q0_f q0_r q0_stepOfX q0_stepOfS q0_stepOfY q0_problem_a q0_problem_b q0_problem_c Rq0_problem_a q0_point_x q0_point_s q0_point_y q0_matrix_entries q0_matrix_lower q0_matrix_diagonal q0_matrix_middle Rq0_matrix_entries Rq0_matrix_lower vq0_g vq0_turnsBegun vq0_problem_rows vq0_problem_variables vq0_problem_a vq0_point_x vq0_point_s vq0_matrix_entries vq0_matrix_lower vq0_matrix_diagonal vq0_matrix_middle vq0_p vq0_d vq0_h vq0_f vq0_r vq0_stepOfX vq0_stepOfS vq0_stepOfY) := hD
        obtain ⟨g4, h⟩ := gd_some h
        refine va_dast hx hb hK hP hD hS 32 0 rfl rfl (inb_in g4) d_Im_findStep_238 (fun H locs hP hD hS => ?_)
        have hP : va_P D CL (w_Im_findStep T q0 q0_problem q0_point q0_matrix q0_p q0_d q0_h q0_f q0_r q0_stepOfX q0_stepOfS q0_stepOfY q0_problem_a q0_problem_b q0_problem_c Rq0_problem_a q0_point_x q0_point_s q0_point_y q0_matrix_entries q0_matrix_lower q0_matrix_diagonal q0_matrix_middle Rq0_matrix_entries Rq0_matrix_lower vq0_g vq0_turnsBegun vq0_problem_rows vq0_problem_variables vq0_problem_a vq0_point_x vq0_point_s vq0_matrix_entries vq0_matrix_lower vq0_matrix_diagonal vq0_matrix_middle vq0_p vq0_d vq0_h vq0_f vq0_r vq0_stepOfX (vf_upd vq0_stepOfS x3.toNatClampNeg u3) vq0_stepOfY) H := hP
        have hD : va_D A (w_Im_findStep T q0 q0_problem q0_point q0_matrix q0_p q0_d q0_h q0_f q0_r q0_stepOfX q0_stepOfS q0_stepOfY q0_problem_a q0_problem_b q0_problem_c Rq0_problem_a q0_point_x q0_point_s q0_point_y q0_matrix_entries q0_matrix_lower q0_matrix_diagonal q0_matrix_middle Rq0_matrix_entries Rq0_matrix_lower vq0_g vq0_turnsBegun vq0_problem_rows vq0_problem_variables vq0_problem_a vq0_point_x vq0_point_s vq0_matrix_entries vq0_matrix_lower vq0_matrix_diagonal vq0_matrix_middle vq0_p vq0_d vq0_h vq0_f vq0_r vq0_stepOfX (vf_upd vq0_stepOfS x3.toNatClampNeg u3) vq0_stepOfY) := hD
        refine lv_aload_n hx hb d_Im_findStep_239 rfl (lv_at hl 0 rfl) ?_
        refine va_get (D := D) (ci := 5) (v := .ref q0_stepOfX) (C := "ConeForge$InteriorMethod") (T := FIm) (N := 13) hx hb hts iIm hown hK hP 0 rfl rfl 8 (by decide) (hts _ (bgc bw214)) (fun _ h9 => h9) rfl d_Im_findStep_240 ?_
        refine lv_iload_n hx hb d_Im_findStep_243 rfl (lv_at hl 2 rfl) ?_
        refine lv_dload_n hx hb d_Im_findStep_244 rfl (lv_at hl 1 rfl) ?_
        refine lv_aload_n hx hb d_Im_findStep_245 rfl (lv_at hl 0 rfl) ?_
        refine va_get (D := D) (ci := 5) (v := .ref q0_point) (C := "ConeForge$InteriorMethod") (T := FIm) (N := 13) hx hb hts iIm hown hK hP 0 rfl rfl 1 (by decide) (hts _ (bgc bw207)) (fun _ h9 => h9) rfl d_Im_findStep_246 ?_
        refine va_getN (D := D) (ci := 1) (v := .ref q0_point_s) (C := "ConeForge$Point") (T := FPt) (N := 3) hx hb hts iPt hown hK hP 8 rfl rfl 1 (by decide) (hNW.use nw36) (fun _ h9 => h9) rfl d_Im_findStep_249 ?_
        refine lv_iload_n hx hb d_Im_findStep_252 rfl (lv_at hl 2 rfl) ?_
        obtain ⟨g5, h⟩ := gd_some h
        refine va_dald hx hb hK hP 10 0 rfl rfl (inb_in g5) d_Im_findStep_253 ?_
        obtain ⟨g6, h⟩ := gd_some h
        refine lv_ddiv hx hb d_Im_findStep_254 (isn_n g6) ?_
        refine lv_aload_n hx hb d_Im_findStep_255 rfl (lv_at hl 0 rfl) ?_
        refine va_get (D := D) (ci := 5) (v := .ref q0_point) (C := "ConeForge$InteriorMethod") (T := FIm) (N := 13) hx hb hts iIm hown hK hP 0 rfl rfl 1 (by decide) (hts _ (bgc bw207)) (fun _ h9 => h9) rfl d_Im_findStep_256 ?_
        refine va_getN (D := D) (ci := 1) (v := .ref q0_point_x) (C := "ConeForge$Point") (T := FPt) (N := 3) hx hb hts iPt hown hK hP 8 rfl rfl 0 (by decide) (hNW.use nw32) (fun _ h9 => h9) rfl d_Im_findStep_259 ?_
        refine lv_iload_n hx hb d_Im_findStep_262 rfl (lv_at hl 2 rfl) ?_
        obtain ⟨g7, h⟩ := gd_some h
        refine va_dald hx hb hK hP 9 0 rfl rfl (inb_in g7) d_Im_findStep_263 ?_
        obtain ⟨g8, h⟩ := gd_some h
        refine lv_dsub hx hb d_Im_findStep_264 (isn_n g8) ?_
        refine lv_aload_n hx hb d_Im_findStep_265 rfl (lv_at hl 0 rfl) ?_
        refine va_get (D := D) (ci := 5) (v := .ref q0_h) (C := "ConeForge$InteriorMethod") (T := FIm) (N := 13) hx hb hts iIm hown hK hP 0 rfl rfl 5 (by decide) (hts _ (bgc bw211)) (fun _ h9 => h9) rfl d_Im_findStep_266 ?_
        refine lv_iload_n hx hb d_Im_findStep_269 rfl (lv_at hl 2 rfl) ?_
        obtain ⟨g9, h⟩ := gd_some h
        refine va_dald hx hb hK hP 28 0 rfl rfl (inb_in g9) d_Im_findStep_270 ?_
        refine lv_aload_n hx hb d_Im_findStep_271 rfl (lv_at hl 0 rfl) ?_
        refine va_get (D := D) (ci := 5) (v := .ref q0_stepOfS) (C := "ConeForge$InteriorMethod") (T := FIm) (N := 13) hx hb hts iIm hown hK hP 0 rfl rfl 9 (by decide) (hts _ (bgc bw215)) (fun _ h9 => h9) rfl d_Im_findStep_272 ?_
        refine lv_iload_n hx hb d_Im_findStep_275 rfl (lv_at hl 2 rfl) ?_
        obtain ⟨g10, h⟩ := gd_some h
        refine va_dald hx hb hK hP 32 0 rfl rfl (inb_in g10) d_Im_findStep_276 ?_
        obtain ⟨g11, h⟩ := gd_some h
        refine lv_dmul hx hb d_Im_findStep_277 (isn_n g11) ?_
        obtain ⟨g12, h⟩ := gd_some h
        refine lv_dsub hx hb d_Im_findStep_278 (isn_n g12) ?_
        obtain ⟨g13, h⟩ := gd_some h
        refine va_dast hx hb hK hP hD hS 31 0 rfl rfl (inb_in g13) d_Im_findStep_279 (fun H locs hP hD hS => ?_)
        have hP : va_P D CL (w_Im_findStep T q0 q0_problem q0_point q0_matrix q0_p q0_d q0_h q0_f q0_r q0_stepOfX q0_stepOfS q0_stepOfY q0_problem_a q0_problem_b q0_problem_c Rq0_problem_a q0_point_x q0_point_s q0_point_y q0_matrix_entries q0_matrix_lower q0_matrix_diagonal q0_matrix_middle Rq0_matrix_entries Rq0_matrix_lower vq0_g vq0_turnsBegun vq0_problem_rows vq0_problem_variables vq0_problem_a vq0_point_x vq0_point_s vq0_matrix_entries vq0_matrix_lower vq0_matrix_diagonal vq0_matrix_middle vq0_p vq0_d vq0_h vq0_f vq0_r (vf_upd vq0_stepOfX x3.toNatClampNeg (FP.dsub (FP.dsub (FP.ddiv x1 (vq0_point_s x3.toNatClampNeg)) (vq0_point_x x3.toNatClampNeg)) (FP.dmul (vq0_h x3.toNatClampNeg) ((vf_upd vq0_stepOfS x3.toNatClampNeg u3) x3.toNatClampNeg)))) (vf_upd vq0_stepOfS x3.toNatClampNeg u3) vq0_stepOfY) H := hP
        have hD : va_D A (w_Im_findStep T q0 q0_problem q0_point q0_matrix q0_p q0_d q0_h q0_f q0_r q0_stepOfX q0_stepOfS q0_stepOfY q0_problem_a q0_problem_b q0_problem_c Rq0_problem_a q0_point_x q0_point_s q0_point_y q0_matrix_entries q0_matrix_lower q0_matrix_diagonal q0_matrix_middle Rq0_matrix_entries Rq0_matrix_lower vq0_g vq0_turnsBegun vq0_problem_rows vq0_problem_variables vq0_problem_a vq0_point_x vq0_point_s vq0_matrix_entries vq0_matrix_lower vq0_matrix_diagonal vq0_matrix_middle vq0_p vq0_d vq0_h vq0_f vq0_r (vf_upd vq0_stepOfX x3.toNatClampNeg (FP.dsub (FP.dsub (FP.ddiv x1 (vq0_point_s x3.toNatClampNeg)) (vq0_point_x x3.toNatClampNeg)) (FP.dmul (vq0_h x3.toNatClampNeg) ((vf_upd vq0_stepOfS x3.toNatClampNeg u3) x3.toNatClampNeg)))) (vf_upd vq0_stepOfS x3.toNatClampNeg u3) vq0_stepOfY) := hD
        refine lv_iinc (v := x3 + 1) (lv' := [(3, .int (x3 + 1)), (0, .ref q0), (1, .double x1)]) hx hb d_Im_findStep_280 hl (k := 2) rfl rfl (by decide) rfl (fun ls hl => ?_)
        refine lv_goto (tgt := 204) hx hb d_Im_findStep_283 (by decide) ?_
        exact kc204 _ (Option.some.inj h).symm H locs ls hP hD hS (lv_sub hl [1, 2, 0] rfl)
    · intro H locs ls hP hD hS hl
      refine lv_iconst (v := 1) hx hb d_Im_findStep_286 (by decide) ?_
      obtain ⟨g14, h⟩ := gd_some h
      exact rtZ hx hb hr hlocks g14 hQ (Option.some.inj h) hP hS d_Im_findStep_287 rfl rfl
  have L105 : ∀ (vq0_matrix_entries : Nat → Nat → UInt64) (vq0_matrix_lower : Nat → Nat → UInt64) (vq0_matrix_diagonal : Nat → UInt64) (vq0_matrix_middle : Nat → UInt64) (vq0_h : Nat → UInt64) (vq0_f : Nat → UInt64) (vq0_r : Nat → UInt64) (vq0_stepOfX : Nat → UInt64) (vq0_stepOfS : Nat → UInt64) (vq0_stepOfY : Nat → UInt64) (x1 : UInt64) (x3 : Int32), ∀ (H : Heap) (locs : List Loc) (ls : Array Slot), va_P D CL (w_Im_findStep T q0 q0_problem q0_point q0_matrix q0_p q0_d q0_h q0_f q0_r q0_stepOfX q0_stepOfS q0_stepOfY q0_problem_a q0_problem_b q0_problem_c Rq0_problem_a q0_point_x q0_point_s q0_point_y q0_matrix_entries q0_matrix_lower q0_matrix_diagonal q0_matrix_middle Rq0_matrix_entries Rq0_matrix_lower vq0_g vq0_turnsBegun vq0_problem_rows vq0_problem_variables vq0_problem_a vq0_point_x vq0_point_s vq0_matrix_entries vq0_matrix_lower vq0_matrix_diagonal vq0_matrix_middle vq0_p vq0_d vq0_h vq0_f vq0_r vq0_stepOfX vq0_stepOfS vq0_stepOfY) H → va_D A (w_Im_findStep T q0 q0_problem q0_point q0_matrix q0_p q0_d q0_h q0_f q0_r q0_stepOfX q0_stepOfS q0_stepOfY q0_problem_a q0_problem_b q0_problem_c Rq0_problem_a q0_point_x q0_point_s q0_point_y q0_matrix_entries q0_matrix_lower q0_matrix_diagonal q0_matrix_middle Rq0_matrix_entries Rq0_matrix_lower vq0_g vq0_turnsBegun vq0_problem_rows vq0_problem_variables vq0_problem_a vq0_point_x vq0_point_s vq0_matrix_entries vq0_matrix_lower vq0_matrix_diagonal vq0_matrix_middle vq0_p vq0_d vq0_h vq0_f vq0_r vq0_stepOfX vq0_stepOfS vq0_stepOfY) → va_S A s.heap H locs → lv_has ls 4 [(0, .ref q0), (1, .double x1), (3, .int x3)] → s_Im_findStep_L105 vq0_g vq0_turnsBegun vq0_problem_rows vq0_problem_variables vq0_problem_a vq0_point_x vq0_point_s vq0_matrix_entries vq0_matrix_lower vq0_matrix_diagonal vq0_matrix_middle vq0_p vq0_d vq0_h vq0_f vq0_r vq0_stepOfX vq0_stepOfS vq0_stepOfY x1 x3 = some rm → W p l e (rmk 2 48) s m args below meth c H locs 0 0 Q (F0 m 105 ls []) := by
    intro vq0_matrix_entries vq0_matrix_lower vq0_matrix_diagonal vq0_matrix_middle vq0_h vq0_f vq0_r vq0_stepOfX vq0_stepOfS vq0_stepOfY x1 x3 H locs ls hP hD hS hl h
    unfold s_Im_findStep_L105 at h
    obtain ⟨u105, hu105, h⟩ := bi_some h
    refine loopO_W (Wh := fun (st : (Nat → UInt64) × Int32) => ∀ (H : Heap) (locs : List Loc) (ls : Array Slot), va_P D CL (w_Im_findStep T q0 q0_problem q0_point q0_matrix q0_p q0_d q0_h q0_f q0_r q0_stepOfX q0_stepOfS q0_stepOfY q0_problem_a q0_problem_b q0_problem_c Rq0_problem_a q0_point_x q0_point_s q0_point_y q0_matrix_entries q0_matrix_lower q0_matrix_diagonal q0_matrix_middle Rq0_matrix_entries Rq0_matrix_lower vq0_g vq0_turnsBegun vq0_problem_rows vq0_problem_variables vq0_problem_a vq0_point_x vq0_point_s vq0_matrix_entries vq0_matrix_lower vq0_matrix_diagonal vq0_matrix_middle vq0_p vq0_d vq0_h vq0_f st.1 vq0_stepOfX vq0_stepOfS vq0_stepOfY) H → va_D A (w_Im_findStep T q0 q0_problem q0_point q0_matrix q0_p q0_d q0_h q0_f q0_r q0_stepOfX q0_stepOfS q0_stepOfY q0_problem_a q0_problem_b q0_problem_c Rq0_problem_a q0_point_x q0_point_s q0_point_y q0_matrix_entries q0_matrix_lower q0_matrix_diagonal q0_matrix_middle Rq0_matrix_entries Rq0_matrix_lower vq0_g vq0_turnsBegun vq0_problem_rows vq0_problem_variables vq0_problem_a vq0_point_x vq0_point_s vq0_matrix_entries vq0_matrix_lower vq0_matrix_diagonal vq0_matrix_middle vq0_p vq0_d vq0_h vq0_f st.1 vq0_stepOfX vq0_stepOfS vq0_stepOfY) → va_S A s.heap H locs → lv_has ls 4 [(0, .ref q0), (1, .double x1), (3, .int st.2)] → W p l e (rmk 2 48) s m args below meth c H locs 0 0 Q (F0 m 105 ls [])) (Wx := fun (e1 : (Nat → UInt64)) => ∀ (H : Heap) (locs : List Loc) (ls : Array Slot), va_P D CL (w_Im_findStep T q0 q0_problem q0_point q0_matrix q0_p q0_d q0_h q0_f q0_r q0_stepOfX q0_stepOfS q0_stepOfY q0_problem_a q0_problem_b q0_problem_c Rq0_problem_a q0_point_x q0_point_s q0_point_y q0_matrix_entries q0_matrix_lower q0_matrix_diagonal q0_matrix_middle Rq0_matrix_entries Rq0_matrix_lower vq0_g vq0_turnsBegun vq0_problem_rows vq0_problem_variables vq0_problem_a vq0_point_x vq0_point_s vq0_matrix_entries vq0_matrix_lower vq0_matrix_diagonal vq0_matrix_middle vq0_p vq0_d vq0_h vq0_f e1 vq0_stepOfX vq0_stepOfS vq0_stepOfY) H → va_D A (w_Im_findStep T q0 q0_problem q0_point q0_matrix q0_p q0_d q0_h q0_f q0_r q0_stepOfX q0_stepOfS q0_stepOfY q0_problem_a q0_problem_b q0_problem_c Rq0_problem_a q0_point_x q0_point_s q0_point_y q0_matrix_entries q0_matrix_lower q0_matrix_diagonal q0_matrix_middle Rq0_matrix_entries Rq0_matrix_lower vq0_g vq0_turnsBegun vq0_problem_rows vq0_problem_variables vq0_problem_a vq0_point_x vq0_point_s vq0_matrix_entries vq0_matrix_lower vq0_matrix_diagonal vq0_matrix_middle vq0_p vq0_d vq0_h vq0_f e1 vq0_stepOfX vq0_stepOfS vq0_stepOfY) → va_S A s.heap H locs → lv_has ls 4 [(0, .ref q0), (1, .double x1)] → W p l e (rmk 2 48) s m args below meth c H locs 0 0 Q (F0 m 146 ls [])) ?_ 2000 _ u105 hu105 ?_ H locs ls hP hD hS hl
    · intro st rb105 h kc105 kx105 H locs ls hP hD hS hl
      obtain ⟨vq0_r, x3⟩ := st
      have h : s_Im_findStep_B105 vq0_g vq0_turnsBegun vq0_problem_rows vq0_problem_variables vq0_problem_a vq0_point_x vq0_point_s vq0_matrix_entries vq0_matrix_lower vq0_matrix_diagonal vq0_matrix_middle vq0_p vq0_d vq0_h vq0_f vq0_stepOfX vq0_stepOfS vq0_stepOfY x1 vq0_r x3 = some rb105 := h
      unfold s_Im_findStep_B105 at h
      refine lv_iload_n hx hb d_Im_findStep_105 rfl (lv_at hl 2 rfl) ?_
      refine lv_aload_n hx hb d_Im_findStep_106 rfl (lv_at hl 0 rfl) ?_
      refine va_get (D := D) (ci := 5) (v := .ref q0_problem) (C := "ConeForge$InteriorMethod") (T := FIm) (N := 13) hx hb hts iIm hown hK hP 0 rfl rfl 0 (by decide) (hts _ (bgc bw206)) (fun _ h9 => h9) rfl d_Im_findStep_107 ?_
      refine va_getN (D := D) (ci := 0) (v := .int vq0_problem_rows) (C := "ConeForge$Problem") (T := FPb) (N := 5) hx hb hts iPb hown hK hP 1 rfl rfl 0 (by decide) (hNW.use nw4) (fun _ h9 => h9) rfl d_Im_findStep_110 ?_
      refine lv_icmp_ge (tgt := 146) hx hb d_Im_findStep_113 (by decide) (fun c15 => ?_) (fun c15 => ?_)
      · have h := it_t c15 h
        exact kx105 _ (Option.some.inj h).symm H locs ls hP hD hS (lv_sub hl [0, 1] rfl)
      · have h := it_f c15 h
        refine lv_aload_n hx hb d_Im_findStep_116 rfl (lv_at hl 0 rfl) ?_
        refine va_get (D := D) (ci := 5) (v := .ref q0_r) (C := "ConeForge$InteriorMethod") (T := FIm) (N := 13) hx hb hts iIm hown hK hP 0 rfl rfl 7 (by decide) (hts _ (bgc bw213)) (fun _ h9 => h9) rfl d_Im_findStep_117 ?_
        refine lv_iload_n hx hb d_Im_findStep_120 rfl (lv_at hl 2 rfl) ?_
        refine lv_aload_n hx hb d_Im_findStep_121 rfl (lv_at hl 0 rfl) ?_
        refine va_get (D := D) (ci := 5) (v := .ref q0_problem) (C := "ConeForge$InteriorMethod") (T := FIm) (N := 13) hx hb hts iIm hown hK hP 0 rfl rfl 0 (by decide) (hts _ (bgc bw206)) (fun _ h9 => h9) rfl d_Im_findStep_122 ?_
        refine lv_aload_n hx hb d_Im_findStep_125 rfl (lv_at hl 0 rfl) ?_
        refine va_get (D := D) (ci := 5) (v := .ref q0_p) (C := "ConeForge$InteriorMethod") (T := FIm) (N := 13) hx hb hts iIm hown hK hP 0 rfl rfl 3 (by decide) (hts _ (bgc bw209)) (fun _ h9 => h9) rfl d_Im_findStep_126 ?_
        refine lv_iload_n hx hb d_Im_findStep_129 rfl (lv_at hl 2 rfl) ?_
        obtain ⟨g16, h⟩ := gd_some h
        refine va_dald hx hb hK hP 26 0 rfl rfl (inb_in g16) d_Im_findStep_130 ?_
        refine lv_iload_n hx hb d_Im_findStep_131 rfl (lv_at hl 2 rfl) ?_
        refine lv_aload_n hx hb d_Im_findStep_132 rfl (lv_at hl 0 rfl) ?_
        refine va_get (D := D) (ci := 5) (v := .ref q0_f) (C := "ConeForge$InteriorMethod") (T := FIm) (N := 13) hx hb hts iIm hown hK hP 0 rfl rfl 6 (by decide) (hts _ (bgc bw212)) (fun _ h9 => h9) rfl d_Im_findStep_133 ?_
        obtain ⟨u17, hu17, h⟩ := bi_some h
        refine kD (v := u17) (wc := (w_Pb_plusRow T q0_problem q0_problem_a q0_problem_b q0_problem_c Rq0_problem_a q0_f 8 vq0_problem_rows vq0_problem_variables vq0_problem_a vq0_f)) (wc' := (w_Pb_plusRow T q0_problem q0_problem_a q0_problem_b q0_problem_c Rq0_problem_a q0_f 8 vq0_problem_rows vq0_problem_variables vq0_problem_a vq0_f)) (runNV (As := [.double (vq0_p x3.toNatClampNeg), .int x3, .ref q0_f]) (rest := [.int x3, .ref q0_r]) ((c_Pb_plusRow l D T q0_problem q0_problem_a q0_problem_b q0_problem_c Rq0_problem_a q0_f 8 vq0_problem_rows vq0_problem_variables vq0_problem_a vq0_f (vq0_p x3.toNatClampNeg) x3 u17 hu17) H.size) ⟨hx, hb, hml, hown, hts⟩ (cwNV nw91 bw587 bw47 bw98 bw588 dd_Pb_plusRow hts hNW ⟨Nat.le_of_ble_eq_true rfl, Nat.le_of_ble_eq_true rfl⟩) (va_recv hK hP (ci := 0) (q0 := 1) rfl rfl) hNW hK hP hD [1, 2, 3, 4, 5, 6, 7, 29] rfl (by decide) rfl hl.1 rfl (lv_room (Nat.le_of_ble_eq_true rfl)) d_Im_findStep_136 ⟨Nat.le_of_ble_eq_true rfl, Nat.le_of_ble_eq_true rfl⟩) hP hD hS hA [1, 2, 3, 4, 5, 6, 7, 29] rfl rfl (fun H locs hP hD hS => ?_)
        have hP : va_P D CL (w_Im_findStep T q0 q0_problem q0_point q0_matrix q0_p q0_d q0_h q0_f q0_r q0_stepOfX q0_stepOfS q0_stepOfY q0_problem_a q0_problem_b q0_problem_c Rq0_problem_a q0_point_x q0_point_s q0_point_y q0_matrix_entries q0_matrix_lower q0_matrix_diagonal q0_matrix_middle Rq0_matrix_entries Rq0_matrix_lower vq0_g vq0_turnsBegun vq0_problem_rows vq0_problem_variables vq0_problem_a vq0_point_x vq0_point_s vq0_matrix_entries vq0_matrix_lower vq0_matrix_diagonal vq0_matrix_middle vq0_p vq0_d vq0_h vq0_f vq0_r vq0_stepOfX vq0_stepOfS vq0_stepOfY) H := hP
        have hD : va_D A (w_Im_findStep T q0 q0_problem q0_point q0_matrix q0_p q0_d q0_h q0_f q0_r q0_stepOfX q0_stepOfS q0_stepOfY q0_problem_a q0_problem_b q0_problem_c Rq0_problem_a q0_point_x q0_point_s q0_point_y q0_matrix_entries q0_matrix_lower q0_matrix_diagonal q0_matrix_middle Rq0_matrix_entries Rq0_matrix_lower vq0_g vq0_turnsBegun vq0_problem_rows vq0_problem_variables vq0_problem_a vq0_point_x vq0_point_s vq0_matrix_entries vq0_matrix_lower vq0_matrix_diagonal vq0_matrix_middle vq0_p vq0_d vq0_h vq0_f vq0_r vq0_stepOfX vq0_stepOfS vq0_stepOfY) := hD
        obtain ⟨g18, h⟩ := gd_some h
        refine va_dast hx hb hK hP hD hS 30 0 rfl rfl (inb_in g18) d_Im_findStep_139 (fun H locs hP hD hS => ?_)
        have hP : va_P D CL (w_Im_findStep T q0 q0_problem q0_point q0_matrix q0_p q0_d q0_h q0_f q0_r q0_stepOfX q0_stepOfS q0_stepOfY q0_problem_a q0_problem_b q0_problem_c Rq0_problem_a q0_point_x q0_point_s q0_point_y q0_matrix_entries q0_matrix_lower q0_matrix_diagonal q0_matrix_middle Rq0_matrix_entries Rq0_matrix_lower vq0_g vq0_turnsBegun vq0_problem_rows vq0_problem_variables vq0_problem_a vq0_point_x vq0_point_s vq0_matrix_entries vq0_matrix_lower vq0_matrix_diagonal vq0_matrix_middle vq0_p vq0_d vq0_h vq0_f (vf_upd vq0_r x3.toNatClampNeg u17) vq0_stepOfX vq0_stepOfS vq0_stepOfY) H := hP
        have hD : va_D A (w_Im_findStep T q0 q0_problem q0_point q0_matrix q0_p q0_d q0_h q0_f q0_r q0_stepOfX q0_stepOfS q0_stepOfY q0_problem_a q0_problem_b q0_problem_c Rq0_problem_a q0_point_x q0_point_s q0_point_y q0_matrix_entries q0_matrix_lower q0_matrix_diagonal q0_matrix_middle Rq0_matrix_entries Rq0_matrix_lower vq0_g vq0_turnsBegun vq0_problem_rows vq0_problem_variables vq0_problem_a vq0_point_x vq0_point_s vq0_matrix_entries vq0_matrix_lower vq0_matrix_diagonal vq0_matrix_middle vq0_p vq0_d vq0_h vq0_f (vf_upd vq0_r x3.toNatClampNeg u17) vq0_stepOfX vq0_stepOfS vq0_stepOfY) := hD
        refine lv_iinc (v := x3 + 1) (lv' := [(3, .int (x3 + 1)), (0, .ref q0), (1, .double x1)]) hx hb d_Im_findStep_140 hl (k := 2) rfl rfl (by decide) rfl (fun ls hl => ?_)
        refine lv_goto (tgt := 105) hx hb d_Im_findStep_143 (by decide) ?_
        exact kc105 _ (Option.some.inj h).symm H locs ls hP hD hS (lv_sub hl [1, 2, 0] rfl)
    · intro H locs ls hP hD hS hl
      refine lv_aload_n hx hb d_Im_findStep_146 rfl (lv_at hl 0 rfl) ?_
      refine va_get (D := D) (ci := 5) (v := .ref q0_matrix) (C := "ConeForge$InteriorMethod") (T := FIm) (N := 13) hx hb hts iIm hown hK hP 0 rfl rfl 2 (by decide) (hts _ (bgc bw208)) (fun _ h9 => h9) rfl d_Im_findStep_147 ?_
      refine lv_aload_n hx hb d_Im_findStep_150 rfl (lv_at hl 0 rfl) ?_
      refine va_get (D := D) (ci := 5) (v := .ref q0_problem) (C := "ConeForge$InteriorMethod") (T := FIm) (N := 13) hx hb hts iIm hown hK hP 0 rfl rfl 0 (by decide) (hts _ (bgc bw206)) (fun _ h9 => h9) rfl d_Im_findStep_151 ?_
      refine lv_aload_n hx hb d_Im_findStep_154 rfl (lv_at hl 0 rfl) ?_
      refine va_get (D := D) (ci := 5) (v := .ref q0_h) (C := "ConeForge$InteriorMethod") (T := FIm) (N := 13) hx hb hts iIm hown hK hP 0 rfl rfl 5 (by decide) (hts _ (bgc bw211)) (fun _ h9 => h9) rfl d_Im_findStep_155 ?_
      obtain ⟨u19, hu19, h⟩ := bi_some h
      refine kV (wc := (w_Fm_gather T q0_matrix q0_matrix_entries q0_matrix_lower q0_matrix_diagonal q0_matrix_middle Rq0_matrix_entries q0_problem q0_problem_a q0_problem_b q0_problem_c Rq0_problem_a q0_h 8 vq0_matrix_entries vq0_problem_rows vq0_problem_variables vq0_problem_a vq0_h)) (wc' := (w_Fm_gather T q0_matrix q0_matrix_entries q0_matrix_lower q0_matrix_diagonal q0_matrix_middle Rq0_matrix_entries q0_problem q0_problem_a q0_problem_b q0_problem_c Rq0_problem_a q0_h 8 u19 vq0_problem_rows vq0_problem_variables vq0_problem_a vq0_h)) (runNV (As := [.ref q0_problem, .ref q0_h]) (rest := []) ((c_Fm_gather l D T q0_matrix q0_matrix_entries q0_matrix_lower q0_matrix_diagonal q0_matrix_middle Rq0_matrix_entries q0_problem q0_problem_a q0_problem_b q0_problem_c Rq0_problem_a q0_h 8 vq0_matrix_entries vq0_problem_rows vq0_problem_variables vq0_problem_a vq0_h  u19 hu19) H.size) ⟨hx, hb, hml, hown, hts⟩ (cwNV nw92 bw589 bw48 bw103 bw590 dd_Fm_gather hts hNW ⟨Nat.le_of_ble_eq_true rfl, Nat.le_of_ble_eq_true rfl⟩) (va_recv hK hP (ci := 4) (q0 := 11) rfl rfl) hNW hK hP hD [11, 12, 13, 14, 15, 16, 17, 1, 2, 3, 4, 5, 6, 7, 28] rfl (by decide) rfl hl.1 rfl (lv_room (Nat.le_of_ble_eq_true rfl)) d_Im_findStep_158 ⟨Nat.le_of_ble_eq_true rfl, Nat.le_of_ble_eq_true rfl⟩) hP hD hS hA [11, 12, 13, 14, 15, 16, 17, 1, 2, 3, 4, 5, 6, 7, 28] rfl rfl (fun H locs hP hD hS => ?_)
      have hP : va_P D CL (w_Im_findStep T q0 q0_problem q0_point q0_matrix q0_p q0_d q0_h q0_f q0_r q0_stepOfX q0_stepOfS q0_stepOfY q0_problem_a q0_problem_b q0_problem_c Rq0_problem_a q0_point_x q0_point_s q0_point_y q0_matrix_entries q0_matrix_lower q0_matrix_diagonal q0_matrix_middle Rq0_matrix_entries Rq0_matrix_lower vq0_g vq0_turnsBegun vq0_problem_rows vq0_problem_variables vq0_problem_a vq0_point_x vq0_point_s u19 vq0_matrix_lower vq0_matrix_diagonal vq0_matrix_middle vq0_p vq0_d vq0_h vq0_f u105 vq0_stepOfX vq0_stepOfS vq0_stepOfY) H := hP
      have hD : va_D A (w_Im_findStep T q0 q0_problem q0_point q0_matrix q0_p q0_d q0_h q0_f q0_r q0_stepOfX q0_stepOfS q0_stepOfY q0_problem_a q0_problem_b q0_problem_c Rq0_problem_a q0_point_x q0_point_s q0_point_y q0_matrix_entries q0_matrix_lower q0_matrix_diagonal q0_matrix_middle Rq0_matrix_entries Rq0_matrix_lower vq0_g vq0_turnsBegun vq0_problem_rows vq0_problem_variables vq0_problem_a vq0_point_x vq0_point_s u19 vq0_matrix_lower vq0_matrix_diagonal vq0_matrix_middle vq0_p vq0_d vq0_h vq0_f u105 vq0_stepOfX vq0_stepOfS vq0_stepOfY) := hD
      refine lv_aload_n hx hb d_Im_findStep_161 rfl (lv_at hl 0 rfl) ?_
      refine va_get (D := D) (ci := 5) (v := .ref q0_matrix) (C := "ConeForge$InteriorMethod") (T := FIm) (N := 13) hx hb hts iIm hown hK hP 0 rfl rfl 2 (by decide) (hts _ (bgc bw208)) (fun _ h9 => h9) rfl d_Im_findStep_162 ?_
      refine lv_aload_n hx hb d_Im_findStep_165 rfl (lv_at hl 0 rfl) ?_
      refine va_get (D := D) (ci := 5) (v := .ref q0_problem) (C := "ConeForge$InteriorMethod") (T := FIm) (N := 13) hx hb hts iIm hown hK hP 0 rfl rfl 0 (by decide) (hts _ (bgc bw206)) (fun _ h9 => h9) rfl d_Im_findStep_166 ?_
      refine va_getN (D := D) (ci := 0) (v := .int vq0_problem_rows) (C := "ConeForge$Problem") (T := FPb) (N := 5) hx hb hts iPb hown hK hP 1 rfl rfl 0 (by decide) (hNW.use nw4) (fun _ h9 => h9) rfl d_Im_findStep_169 ?_
      obtain ⟨u20, hu20, h⟩ := bi_some h
      refine kI (v := u20.1) (wc := (w_Fm_factor T q0_matrix q0_matrix_entries q0_matrix_lower q0_matrix_diagonal q0_matrix_middle Rq0_matrix_entries Rq0_matrix_lower u19 vq0_matrix_lower vq0_matrix_diagonal)) (wc' := (w_Fm_factor T q0_matrix q0_matrix_entries q0_matrix_lower q0_matrix_diagonal q0_matrix_middle Rq0_matrix_entries Rq0_matrix_lower u19 u20.2.1 u20.2.2)) (runNV (As := [.int vq0_problem_rows]) (rest := []) ((c_Fm_factor l D T q0_matrix q0_matrix_entries q0_matrix_lower q0_matrix_diagonal q0_matrix_middle Rq0_matrix_entries Rq0_matrix_lower u19 vq0_matrix_lower vq0_matrix_diagonal vq0_problem_rows u20 hu20) H.size) ⟨hx, hb, hml, hown, hts⟩ (cwNV nw93 bw591 bw49 bw103 bw592 dd_Fm_factor hts hNW ⟨Nat.le_of_ble_eq_true rfl, Nat.le_of_ble_eq_true rfl⟩) (va_recv hK hP (ci := 4) (q0 := 11) rfl rfl) hNW hK hP hD [11, 12, 13, 14, 15, 16, 17, 18, 19, 20, 21, 22, 23, 24] rfl (by decide) rfl hl.1 rfl (lv_room (Nat.le_of_ble_eq_true rfl)) d_Im_findStep_172 ⟨Nat.le_of_ble_eq_true rfl, Nat.le_of_ble_eq_true rfl⟩) hP hD hS hA [11, 12, 13, 14, 15, 16, 17, 18, 19, 20, 21, 22, 23, 24] rfl rfl (fun H locs hP hD hS => ?_)
      have hP : va_P D CL (w_Im_findStep T q0 q0_problem q0_point q0_matrix q0_p q0_d q0_h q0_f q0_r q0_stepOfX q0_stepOfS q0_stepOfY q0_problem_a q0_problem_b q0_problem_c Rq0_problem_a q0_point_x q0_point_s q0_point_y q0_matrix_entries q0_matrix_lower q0_matrix_diagonal q0_matrix_middle Rq0_matrix_entries Rq0_matrix_lower vq0_g vq0_turnsBegun vq0_problem_rows vq0_problem_variables vq0_problem_a vq0_point_x vq0_point_s u19 u20.2.1 u20.2.2 vq0_matrix_middle vq0_p vq0_d vq0_h vq0_f u105 vq0_stepOfX vq0_stepOfS vq0_stepOfY) H := hP
      have hD : va_D A (w_Im_findStep T q0 q0_problem q0_point q0_matrix q0_p q0_d q0_h q0_f q0_r q0_stepOfX q0_stepOfS q0_stepOfY q0_problem_a q0_problem_b q0_problem_c Rq0_problem_a q0_point_x q0_point_s q0_point_y q0_matrix_entries q0_matrix_lower q0_matrix_diagonal q0_matrix_middle Rq0_matrix_entries Rq0_matrix_lower vq0_g vq0_turnsBegun vq0_problem_rows vq0_problem_variables vq0_problem_a vq0_point_x vq0_point_s u19 u20.2.1 u20.2.2 vq0_matrix_middle vq0_p vq0_d vq0_h vq0_f u105 vq0_stepOfX vq0_stepOfS vq0_stepOfY) := hD
      refine lv_if_ne (tgt := 180) hx hb d_Im_findStep_175 (by decide) (fun c21 => ?_) (fun c21 => ?_)
      · have h := it_f c21 h
        refine lv_aload_n hx hb d_Im_findStep_180 rfl (lv_at hl 0 rfl) ?_
        refine va_get (D := D) (ci := 5) (v := .ref q0_matrix) (C := "ConeForge$InteriorMethod") (T := FIm) (N := 13) hx hb hts iIm hown hK hP 0 rfl rfl 2 (by decide) (hts _ (bgc bw208)) (fun _ h9 => h9) rfl d_Im_findStep_181 ?_
        refine lv_aload_n hx hb d_Im_findStep_184 rfl (lv_at hl 0 rfl) ?_
        refine va_get (D := D) (ci := 5) (v := .ref q0_r) (C := "ConeForge$InteriorMethod") (T := FIm) (N := 13) hx hb hts iIm hown hK hP 0 rfl rfl 7 (by decide) (hts _ (bgc bw213)) (fun _ h9 => h9) rfl d_Im_findStep_185 ?_
        refine lv_aload_n hx hb d_Im_findStep_188 rfl (lv_at hl 0 rfl) ?_
        refine va_get (D := D) (ci := 5) (v := .ref q0_stepOfY) (C := "ConeForge$InteriorMethod") (T := FIm) (N := 13) hx hb hts iIm hown hK hP 0 rfl rfl 10 (by decide) (hts _ (bgc bw216)) (fun _ h9 => h9) rfl d_Im_findStep_189 ?_
        refine lv_aload_n hx hb d_Im_findStep_192 rfl (lv_at hl 0 rfl) ?_
        refine va_get (D := D) (ci := 5) (v := .ref q0_problem) (C := "ConeForge$InteriorMethod") (T := FIm) (N := 13) hx hb hts iIm hown hK hP 0 rfl rfl 0 (by decide) (hts _ (bgc bw206)) (fun _ h9 => h9) rfl d_Im_findStep_193 ?_
        refine va_getN (D := D) (ci := 0) (v := .int vq0_problem_rows) (C := "ConeForge$Problem") (T := FPb) (N := 5) hx hb hts iPb hown hK hP 1 rfl rfl 0 (by decide) (hNW.use nw4) (fun _ h9 => h9) rfl d_Im_findStep_196 ?_
        obtain ⟨u22, hu22, h⟩ := bi_some h
        refine kV (wc := (w_Fm_solve T q0_matrix q0_matrix_entries q0_matrix_lower q0_matrix_diagonal q0_matrix_middle Rq0_matrix_lower q0_r q0_stepOfY 5 5 u20.2.1 u20.2.2 vq0_matrix_middle u105 vq0_stepOfY)) (wc' := (w_Fm_solve T q0_matrix q0_matrix_entries q0_matrix_lower q0_matrix_diagonal q0_matrix_middle Rq0_matrix_lower q0_r q0_stepOfY 5 5 u20.2.1 u20.2.2 u22.1 u105 u22.2)) (runNV (As := [.ref q0_r, .ref q0_stepOfY, .int vq0_problem_rows]) (rest := []) ((c_Fm_solve l D T q0_matrix q0_matrix_entries q0_matrix_lower q0_matrix_diagonal q0_matrix_middle Rq0_matrix_lower q0_r q0_stepOfY 5 5 u20.2.1 u20.2.2 vq0_matrix_middle u105 vq0_stepOfY vq0_problem_rows u22 hu22) H.size) ⟨hx, hb, hml, hown, hts⟩ (cwNV nw94 bw597 bw51 bw103 bw598 dd_Fm_solve hts hNW ⟨Nat.le_of_ble_eq_true rfl, Nat.le_of_ble_eq_true rfl⟩) (va_recv hK hP (ci := 4) (q0 := 11) rfl rfl) hNW hK hP hD [11, 18, 19, 20, 21, 22, 23, 24, 25, 30, 33] rfl (by decide) rfl hl.1 rfl (lv_room (Nat.le_of_ble_eq_true rfl)) d_Im_findStep_199 ⟨Nat.le_of_ble_eq_true rfl, Nat.le_of_ble_eq_true rfl⟩) hP hD hS hA [11, 18, 19, 20, 21, 22, 23, 24, 25, 30, 33] rfl rfl (fun H locs hP hD hS => ?_)
        have hP : va_P D CL (w_Im_findStep T q0 q0_problem q0_point q0_matrix q0_p q0_d q0_h q0_f q0_r q0_stepOfX q0_stepOfS q0_stepOfY q0_problem_a q0_problem_b q0_problem_c Rq0_problem_a q0_point_x q0_point_s q0_point_y q0_matrix_entries q0_matrix_lower q0_matrix_diagonal q0_matrix_middle Rq0_matrix_entries Rq0_matrix_lower vq0_g vq0_turnsBegun vq0_problem_rows vq0_problem_variables vq0_problem_a vq0_point_x vq0_point_s u19 u20.2.1 u20.2.2 u22.1 vq0_p vq0_d vq0_h vq0_f u105 vq0_stepOfX vq0_stepOfS u22.2) H := hP
        have hD : va_D A (w_Im_findStep T q0 q0_problem q0_point q0_matrix q0_p q0_d q0_h q0_f q0_r q0_stepOfX q0_stepOfS q0_stepOfY q0_problem_a q0_problem_b q0_problem_c Rq0_problem_a q0_point_x q0_point_s q0_point_y q0_matrix_entries q0_matrix_lower q0_matrix_diagonal q0_matrix_middle Rq0_matrix_entries Rq0_matrix_lower vq0_g vq0_turnsBegun vq0_problem_rows vq0_problem_variables vq0_problem_a vq0_point_x vq0_point_s u19 u20.2.1 u20.2.2 u22.1 vq0_p vq0_d vq0_h vq0_f u105 vq0_stepOfX vq0_stepOfS u22.2) := hD
        refine lv_iconst (v := 0) hx hb d_Im_findStep_202 (by decide) ?_
        refine lv_istore_n (lv' := [(3, .int 0), (0, .ref q0), (1, .double x1)]) hx hb d_Im_findStep_203 rfl hl (by decide) rfl (fun ls hl => ?_)
        exact L204 u19 u20.2.1 u20.2.2 u22.1 vq0_h vq0_f u105 vq0_stepOfX vq0_stepOfS u22.2 x1 0 H locs ls hP hD hS (lv_sub hl [1, 2, 0] rfl) h
      · have h := it_t c21 h
        refine lv_iconst (v := 0) hx hb d_Im_findStep_178 (by decide) ?_
        obtain ⟨g23, h⟩ := gd_some h
        exact rtZ hx hb hr hlocks g23 hQ (Option.some.inj h) hP hS d_Im_findStep_179 rfl rfl
  have L20 : ∀ (vq0_matrix_entries : Nat → Nat → UInt64) (vq0_matrix_lower : Nat → Nat → UInt64) (vq0_matrix_diagonal : Nat → UInt64) (vq0_matrix_middle : Nat → UInt64) (vq0_h : Nat → UInt64) (vq0_f : Nat → UInt64) (vq0_r : Nat → UInt64) (vq0_stepOfX : Nat → UInt64) (vq0_stepOfS : Nat → UInt64) (vq0_stepOfY : Nat → UInt64) (x1 : UInt64) (x3 : Int32), ∀ (H : Heap) (locs : List Loc) (ls : Array Slot), va_P D CL (w_Im_findStep T q0 q0_problem q0_point q0_matrix q0_p q0_d q0_h q0_f q0_r q0_stepOfX q0_stepOfS q0_stepOfY q0_problem_a q0_problem_b q0_problem_c Rq0_problem_a q0_point_x q0_point_s q0_point_y q0_matrix_entries q0_matrix_lower q0_matrix_diagonal q0_matrix_middle Rq0_matrix_entries Rq0_matrix_lower vq0_g vq0_turnsBegun vq0_problem_rows vq0_problem_variables vq0_problem_a vq0_point_x vq0_point_s vq0_matrix_entries vq0_matrix_lower vq0_matrix_diagonal vq0_matrix_middle vq0_p vq0_d vq0_h vq0_f vq0_r vq0_stepOfX vq0_stepOfS vq0_stepOfY) H → va_D A (w_Im_findStep T q0 q0_problem q0_point q0_matrix q0_p q0_d q0_h q0_f q0_r q0_stepOfX q0_stepOfS q0_stepOfY q0_problem_a q0_problem_b q0_problem_c Rq0_problem_a q0_point_x q0_point_s q0_point_y q0_matrix_entries q0_matrix_lower q0_matrix_diagonal q0_matrix_middle Rq0_matrix_entries Rq0_matrix_lower vq0_g vq0_turnsBegun vq0_problem_rows vq0_problem_variables vq0_problem_a vq0_point_x vq0_point_s vq0_matrix_entries vq0_matrix_lower vq0_matrix_diagonal vq0_matrix_middle vq0_p vq0_d vq0_h vq0_f vq0_r vq0_stepOfX vq0_stepOfS vq0_stepOfY) → va_S A s.heap H locs → lv_has ls 4 [(0, .ref q0), (1, .double x1), (3, .int x3)] → s_Im_findStep_L20 vq0_g vq0_turnsBegun vq0_problem_rows vq0_problem_variables vq0_problem_a vq0_point_x vq0_point_s vq0_matrix_entries vq0_matrix_lower vq0_matrix_diagonal vq0_matrix_middle vq0_p vq0_d vq0_h vq0_f vq0_r vq0_stepOfX vq0_stepOfS vq0_stepOfY x1 x3 = some rm → W p l e (rmk 2 48) s m args below meth c H locs 0 0 Q (F0 m 20 ls []) := by
    intro vq0_matrix_entries vq0_matrix_lower vq0_matrix_diagonal vq0_matrix_middle vq0_h vq0_f vq0_r vq0_stepOfX vq0_stepOfS vq0_stepOfY x1 x3 H locs ls hP hD hS hl h
    unfold s_Im_findStep_L20 at h
    obtain ⟨u20, hu20, h⟩ := bi_some h
    refine loopO_W (Wh := fun (st : (Nat → UInt64) × (Nat → UInt64) × Int32) => ∀ (H : Heap) (locs : List Loc) (ls : Array Slot), va_P D CL (w_Im_findStep T q0 q0_problem q0_point q0_matrix q0_p q0_d q0_h q0_f q0_r q0_stepOfX q0_stepOfS q0_stepOfY q0_problem_a q0_problem_b q0_problem_c Rq0_problem_a q0_point_x q0_point_s q0_point_y q0_matrix_entries q0_matrix_lower q0_matrix_diagonal q0_matrix_middle Rq0_matrix_entries Rq0_matrix_lower vq0_g vq0_turnsBegun vq0_problem_rows vq0_problem_variables vq0_problem_a vq0_point_x vq0_point_s vq0_matrix_entries vq0_matrix_lower vq0_matrix_diagonal vq0_matrix_middle vq0_p vq0_d st.1 st.2.1 vq0_r vq0_stepOfX vq0_stepOfS vq0_stepOfY) H → va_D A (w_Im_findStep T q0 q0_problem q0_point q0_matrix q0_p q0_d q0_h q0_f q0_r q0_stepOfX q0_stepOfS q0_stepOfY q0_problem_a q0_problem_b q0_problem_c Rq0_problem_a q0_point_x q0_point_s q0_point_y q0_matrix_entries q0_matrix_lower q0_matrix_diagonal q0_matrix_middle Rq0_matrix_entries Rq0_matrix_lower vq0_g vq0_turnsBegun vq0_problem_rows vq0_problem_variables vq0_problem_a vq0_point_x vq0_point_s vq0_matrix_entries vq0_matrix_lower vq0_matrix_diagonal vq0_matrix_middle vq0_p vq0_d st.1 st.2.1 vq0_r vq0_stepOfX vq0_stepOfS vq0_stepOfY) → va_S A s.heap H locs → lv_has ls 4 [(0, .ref q0), (1, .double x1), (3, .int st.2.2)] → W p l e (rmk 2 48) s m args below meth c H locs 0 0 Q (F0 m 20 ls [])) (Wx := fun (e1 : (Nat → UInt64) × (Nat → UInt64)) => ∀ (H : Heap) (locs : List Loc) (ls : Array Slot), va_P D CL (w_Im_findStep T q0 q0_problem q0_point q0_matrix q0_p q0_d q0_h q0_f q0_r q0_stepOfX q0_stepOfS q0_stepOfY q0_problem_a q0_problem_b q0_problem_c Rq0_problem_a q0_point_x q0_point_s q0_point_y q0_matrix_entries q0_matrix_lower q0_matrix_diagonal q0_matrix_middle Rq0_matrix_entries Rq0_matrix_lower vq0_g vq0_turnsBegun vq0_problem_rows vq0_problem_variables vq0_problem_a vq0_point_x vq0_point_s vq0_matrix_entries vq0_matrix_lower vq0_matrix_diagonal vq0_matrix_middle vq0_p vq0_d e1.1 e1.2 vq0_r vq0_stepOfX vq0_stepOfS vq0_stepOfY) H → va_D A (w_Im_findStep T q0 q0_problem q0_point q0_matrix q0_p q0_d q0_h q0_f q0_r q0_stepOfX q0_stepOfS q0_stepOfY q0_problem_a q0_problem_b q0_problem_c Rq0_problem_a q0_point_x q0_point_s q0_point_y q0_matrix_entries q0_matrix_lower q0_matrix_diagonal q0_matrix_middle Rq0_matrix_entries Rq0_matrix_lower vq0_g vq0_turnsBegun vq0_problem_rows vq0_problem_variables vq0_problem_a vq0_point_x vq0_point_s vq0_matrix_entries vq0_matrix_lower vq0_matrix_diagonal vq0_matrix_middle vq0_p vq0_d e1.1 e1.2 vq0_r vq0_stepOfX vq0_stepOfS vq0_stepOfY) → va_S A s.heap H locs → lv_has ls 4 [(0, .ref q0), (1, .double x1)] → W p l e (rmk 2 48) s m args below meth c H locs 0 0 Q (F0 m 103 ls [])) ?_ 2000 _ u20 hu20 ?_ H locs ls hP hD hS hl
    · intro st rb20 h kc20 kx20 H locs ls hP hD hS hl
      obtain ⟨vq0_h, vq0_f, x3⟩ := st
      have h : s_Im_findStep_B20 vq0_g vq0_turnsBegun vq0_problem_rows vq0_problem_variables vq0_problem_a vq0_point_x vq0_point_s vq0_matrix_entries vq0_matrix_lower vq0_matrix_diagonal vq0_matrix_middle vq0_p vq0_d vq0_r vq0_stepOfX vq0_stepOfS vq0_stepOfY x1 vq0_h vq0_f x3 = some rb20 := h
      unfold s_Im_findStep_B20 at h
      refine lv_iload_n hx hb d_Im_findStep_20 rfl (lv_at hl 2 rfl) ?_
      refine lv_aload_n hx hb d_Im_findStep_21 rfl (lv_at hl 0 rfl) ?_
      refine va_get (D := D) (ci := 5) (v := .ref q0_problem) (C := "ConeForge$InteriorMethod") (T := FIm) (N := 13) hx hb hts iIm hown hK hP 0 rfl rfl 0 (by decide) (hts _ (bgc bw206)) (fun _ h9 => h9) rfl d_Im_findStep_22 ?_
      refine va_getN (D := D) (ci := 0) (v := .int vq0_problem_variables) (C := "ConeForge$Problem") (T := FPb) (N := 5) hx hb hts iPb hown hK hP 1 rfl rfl 1 (by decide) (hNW.use nw10) (fun _ h9 => h9) rfl d_Im_findStep_25 ?_
      refine lv_icmp_ge (tgt := 103) hx hb d_Im_findStep_28 (by decide) (fun c24 => ?_) (fun c24 => ?_)
      · have h := it_t c24 h
        exact kx20 _ (Option.some.inj h).symm H locs ls hP hD hS (lv_sub hl [0, 1] rfl)
      · have h := it_f c24 h
        refine lv_aload_n hx hb d_Im_findStep_31 rfl (lv_at hl 0 rfl) ?_
        refine va_get (D := D) (ci := 5) (v := .ref q0_h) (C := "ConeForge$InteriorMethod") (T := FIm) (N := 13) hx hb hts iIm hown hK hP 0 rfl rfl 5 (by decide) (hts _ (bgc bw211)) (fun _ h9 => h9) rfl d_Im_findStep_32 ?_
        refine lv_iload_n hx hb d_Im_findStep_35 rfl (lv_at hl 2 rfl) ?_
        refine lv_aload_n hx hb d_Im_findStep_36 rfl (lv_at hl 0 rfl) ?_
        refine va_get (D := D) (ci := 5) (v := .ref q0_point) (C := "ConeForge$InteriorMethod") (T := FIm) (N := 13) hx hb hts iIm hown hK hP 0 rfl rfl 1 (by decide) (hts _ (bgc bw207)) (fun _ h9 => h9) rfl d_Im_findStep_37 ?_
        refine va_getN (D := D) (ci := 1) (v := .ref q0_point_x) (C := "ConeForge$Point") (T := FPt) (N := 3) hx hb hts iPt hown hK hP 8 rfl rfl 0 (by decide) (hNW.use nw32) (fun _ h9 => h9) rfl d_Im_findStep_40 ?_
        refine lv_iload_n hx hb d_Im_findStep_43 rfl (lv_at hl 2 rfl) ?_
        obtain ⟨g25, h⟩ := gd_some h
        refine va_dald hx hb hK hP 9 0 rfl rfl (inb_in g25) d_Im_findStep_44 ?_
        refine lv_aload_n hx hb d_Im_findStep_45 rfl (lv_at hl 0 rfl) ?_
        refine va_get (D := D) (ci := 5) (v := .ref q0_point) (C := "ConeForge$InteriorMethod") (T := FIm) (N := 13) hx hb hts iIm hown hK hP 0 rfl rfl 1 (by decide) (hts _ (bgc bw207)) (fun _ h9 => h9) rfl d_Im_findStep_46 ?_
        refine va_getN (D := D) (ci := 1) (v := .ref q0_point_s) (C := "ConeForge$Point") (T := FPt) (N := 3) hx hb hts iPt hown hK hP 8 rfl rfl 1 (by decide) (hNW.use nw36) (fun _ h9 => h9) rfl d_Im_findStep_49 ?_
        refine lv_iload_n hx hb d_Im_findStep_52 rfl (lv_at hl 2 rfl) ?_
        obtain ⟨g26, h⟩ := gd_some h
        refine va_dald hx hb hK hP 10 0 rfl rfl (inb_in g26) d_Im_findStep_53 ?_
        obtain ⟨g27, h⟩ := gd_some h
        refine lv_ddiv hx hb d_Im_findStep_54 (isn_n g27) ?_
        obtain ⟨g28, h⟩ := gd_some h
        refine va_dast hx hb hK hP hD hS 28 0 rfl rfl (inb_in g28) d_Im_findStep_55 (fun H locs hP hD hS => ?_)
        have hP : va_P D CL (w_Im_findStep T q0 q0_problem q0_point q0_matrix q0_p q0_d q0_h q0_f q0_r q0_stepOfX q0_stepOfS q0_stepOfY q0_problem_a q0_problem_b q0_problem_c Rq0_problem_a q0_point_x q0_point_s q0_point_y q0_matrix_entries q0_matrix_lower q0_matrix_diagonal q0_matrix_middle Rq0_matrix_entries Rq0_matrix_lower vq0_g vq0_turnsBegun vq0_problem_rows vq0_problem_variables vq0_problem_a vq0_point_x vq0_point_s vq0_matrix_entries vq0_matrix_lower vq0_matrix_diagonal vq0_matrix_middle vq0_p vq0_d (vf_upd vq0_h x3.toNatClampNeg (FP.ddiv (vq0_point_x x3.toNatClampNeg) (vq0_point_s x3.toNatClampNeg))) vq0_f vq0_r vq0_stepOfX vq0_stepOfS vq0_stepOfY) H := hP
        have hD : va_D A (w_Im_findStep T q0 q0_problem q0_point q0_matrix q0_p q0_d q0_h q0_f q0_r q0_stepOfX q0_stepOfS q0_stepOfY q0_problem_a q0_problem_b q0_problem_c Rq0_problem_a q0_point_x q0_point_s q0_point_y q0_matrix_entries q0_matrix_lower q0_matrix_diagonal q0_matrix_middle Rq0_matrix_entries Rq0_matrix_lower vq0_g vq0_turnsBegun vq0_problem_rows vq0_problem_variables vq0_problem_a vq0_point_x vq0_point_s vq0_matrix_entries vq0_matrix_lower vq0_matrix_diagonal vq0_matrix_middle vq0_p vq0_d (vf_upd vq0_h x3.toNatClampNeg (FP.ddiv (vq0_point_x x3.toNatClampNeg) (vq0_point_s x3.toNatClampNeg))) vq0_f vq0_r vq0_stepOfX vq0_stepOfS vq0_stepOfY) := hD
        refine lv_aload_n hx hb d_Im_findStep_56 rfl (lv_at hl 0 rfl) ?_
        refine va_get (D := D) (ci := 5) (v := .ref q0_f) (C := "ConeForge$InteriorMethod") (T := FIm) (N := 13) hx hb hts iIm hown hK hP 0 rfl rfl 6 (by decide) (hts _ (bgc bw212)) (fun _ h9 => h9) rfl d_Im_findStep_57 ?_
        refine lv_iload_n hx hb d_Im_findStep_60 rfl (lv_at hl 2 rfl) ?_
        refine lv_aload_n hx hb d_Im_findStep_61 rfl (lv_at hl 0 rfl) ?_
        refine va_get (D := D) (ci := 5) (v := .ref q0_point) (C := "ConeForge$InteriorMethod") (T := FIm) (N := 13) hx hb hts iIm hown hK hP 0 rfl rfl 1 (by decide) (hts _ (bgc bw207)) (fun _ h9 => h9) rfl d_Im_findStep_62 ?_
        refine va_getN (D := D) (ci := 1) (v := .ref q0_point_x) (C := "ConeForge$Point") (T := FPt) (N := 3) hx hb hts iPt hown hK hP 8 rfl rfl 0 (by decide) (hNW.use nw32) (fun _ h9 => h9) rfl d_Im_findStep_65 ?_
        refine lv_iload_n hx hb d_Im_findStep_68 rfl (lv_at hl 2 rfl) ?_
        obtain ⟨g29, h⟩ := gd_some h
        refine va_dald hx hb hK hP 9 0 rfl rfl (inb_in g29) d_Im_findStep_69 ?_
        refine lv_dload_n hx hb d_Im_findStep_70 rfl (lv_at hl 1 rfl) ?_
        refine lv_aload_n hx hb d_Im_findStep_71 rfl (lv_at hl 0 rfl) ?_
        refine va_get (D := D) (ci := 5) (v := .ref q0_point) (C := "ConeForge$InteriorMethod") (T := FIm) (N := 13) hx hb hts iIm hown hK hP 0 rfl rfl 1 (by decide) (hts _ (bgc bw207)) (fun _ h9 => h9) rfl d_Im_findStep_72 ?_
        refine va_getN (D := D) (ci := 1) (v := .ref q0_point_s) (C := "ConeForge$Point") (T := FPt) (N := 3) hx hb hts iPt hown hK hP 8 rfl rfl 1 (by decide) (hNW.use nw36) (fun _ h9 => h9) rfl d_Im_findStep_75 ?_
        refine lv_iload_n hx hb d_Im_findStep_78 rfl (lv_at hl 2 rfl) ?_
        obtain ⟨g30, h⟩ := gd_some h
        refine va_dald hx hb hK hP 10 0 rfl rfl (inb_in g30) d_Im_findStep_79 ?_
        obtain ⟨g31, h⟩ := gd_some h
        refine lv_ddiv hx hb d_Im_findStep_80 (isn_n g31) ?_
        obtain ⟨g32, h⟩ := gd_some h
        refine lv_dsub hx hb d_Im_findStep_81 (isn_n g32) ?_
        refine lv_aload_n hx hb d_Im_findStep_82 rfl (lv_at hl 0 rfl) ?_
        refine va_get (D := D) (ci := 5) (v := .ref q0_h) (C := "ConeForge$InteriorMethod") (T := FIm) (N := 13) hx hb hts iIm hown hK hP 0 rfl rfl 5 (by decide) (hts _ (bgc bw211)) (fun _ h9 => h9) rfl d_Im_findStep_83 ?_
        refine lv_iload_n hx hb d_Im_findStep_86 rfl (lv_at hl 2 rfl) ?_
        obtain ⟨g33, h⟩ := gd_some h
        refine va_dald hx hb hK hP 28 0 rfl rfl (inb_in g33) d_Im_findStep_87 ?_
        refine lv_aload_n hx hb d_Im_findStep_88 rfl (lv_at hl 0 rfl) ?_
        refine va_get (D := D) (ci := 5) (v := .ref q0_d) (C := "ConeForge$InteriorMethod") (T := FIm) (N := 13) hx hb hts iIm hown hK hP 0 rfl rfl 4 (by decide) (hts _ (bgc bw210)) (fun _ h9 => h9) rfl d_Im_findStep_89 ?_
        refine lv_iload_n hx hb d_Im_findStep_92 rfl (lv_at hl 2 rfl) ?_
        obtain ⟨g34, h⟩ := gd_some h
        refine va_dald hx hb hK hP 27 0 rfl rfl (inb_in g34) d_Im_findStep_93 ?_
        obtain ⟨g35, h⟩ := gd_some h
        refine lv_dmul hx hb d_Im_findStep_94 (isn_n g35) ?_
        obtain ⟨g36, h⟩ := gd_some h
        refine lv_dadd hx hb d_Im_findStep_95 (isn_n g36) ?_
        obtain ⟨g37, h⟩ := gd_some h
        refine va_dast hx hb hK hP hD hS 29 0 rfl rfl (inb_in g37) d_Im_findStep_96 (fun H locs hP hD hS => ?_)
        have hP : va_P D CL (w_Im_findStep T q0 q0_problem q0_point q0_matrix q0_p q0_d q0_h q0_f q0_r q0_stepOfX q0_stepOfS q0_stepOfY q0_problem_a q0_problem_b q0_problem_c Rq0_problem_a q0_point_x q0_point_s q0_point_y q0_matrix_entries q0_matrix_lower q0_matrix_diagonal q0_matrix_middle Rq0_matrix_entries Rq0_matrix_lower vq0_g vq0_turnsBegun vq0_problem_rows vq0_problem_variables vq0_problem_a vq0_point_x vq0_point_s vq0_matrix_entries vq0_matrix_lower vq0_matrix_diagonal vq0_matrix_middle vq0_p vq0_d (vf_upd vq0_h x3.toNatClampNeg (FP.ddiv (vq0_point_x x3.toNatClampNeg) (vq0_point_s x3.toNatClampNeg))) (vf_upd vq0_f x3.toNatClampNeg (FP.dadd (FP.dsub (vq0_point_x x3.toNatClampNeg) (FP.ddiv x1 (vq0_point_s x3.toNatClampNeg))) (FP.dmul ((vf_upd vq0_h x3.toNatClampNeg (FP.ddiv (vq0_point_x x3.toNatClampNeg) (vq0_point_s x3.toNatClampNeg))) x3.toNatClampNeg) (vq0_d x3.toNatClampNeg)))) vq0_r vq0_stepOfX vq0_stepOfS vq0_stepOfY) H := hP
        have hD : va_D A (w_Im_findStep T q0 q0_problem q0_point q0_matrix q0_p q0_d q0_h q0_f q0_r q0_stepOfX q0_stepOfS q0_stepOfY q0_problem_a q0_problem_b q0_problem_c Rq0_problem_a q0_point_x q0_point_s q0_point_y q0_matrix_entries q0_matrix_lower q0_matrix_diagonal q0_matrix_middle Rq0_matrix_entries Rq0_matrix_lower vq0_g vq0_turnsBegun vq0_problem_rows vq0_problem_variables vq0_problem_a vq0_point_x vq0_point_s vq0_matrix_entries vq0_matrix_lower vq0_matrix_diagonal vq0_matrix_middle vq0_p vq0_d (vf_upd vq0_h x3.toNatClampNeg (FP.ddiv (vq0_point_x x3.toNatClampNeg) (vq0_point_s x3.toNatClampNeg))) (vf_upd vq0_f x3.toNatClampNeg (FP.dadd (FP.dsub (vq0_point_x x3.toNatClampNeg) (FP.ddiv x1 (vq0_point_s x3.toNatClampNeg))) (FP.dmul ((vf_upd vq0_h x3.toNatClampNeg (FP.ddiv (vq0_point_x x3.toNatClampNeg) (vq0_point_s x3.toNatClampNeg))) x3.toNatClampNeg) (vq0_d x3.toNatClampNeg)))) vq0_r vq0_stepOfX vq0_stepOfS vq0_stepOfY) := hD
        refine lv_iinc (v := x3 + 1) (lv' := [(3, .int (x3 + 1)), (0, .ref q0), (1, .double x1)]) hx hb d_Im_findStep_97 hl (k := 2) rfl rfl (by decide) rfl (fun ls hl => ?_)
        refine lv_goto (tgt := 20) hx hb d_Im_findStep_100 (by decide) ?_
        exact kc20 _ (Option.some.inj h).symm H locs ls hP hD hS (lv_sub hl [1, 2, 0] rfl)
    · intro H locs ls hP hD hS hl
      refine lv_iconst (v := 0) hx hb d_Im_findStep_103 (by decide) ?_
      refine lv_istore_n (lv' := [(3, .int 0), (0, .ref q0), (1, .double x1)]) hx hb d_Im_findStep_104 rfl hl (by decide) rfl (fun ls hl => ?_)
      exact L105 vq0_matrix_entries vq0_matrix_lower vq0_matrix_diagonal vq0_matrix_middle u20.1 u20.2 vq0_r vq0_stepOfX vq0_stepOfS vq0_stepOfY x1 0 H locs ls hP hD hS (lv_sub hl [1, 2, 0] rfl) h
  unfold s_Im_findStep at h
  refine lv_ldc2d (v := 4591870180066957722) hx hb hown (hts _ (bgc bw586)) d_Im_findStep_0 ?_
  refine lv_aload_n hx hb d_Im_findStep_3 rfl (lv_at hl 0 rfl) ?_
  refine va_get (D := D) (ci := 5) (v := .double vq0_g) (C := "ConeForge$InteriorMethod") (T := FIm) (N := 13) hx hb hts iIm hown hK hP 0 rfl rfl 11 (by decide) (hts _ (bgc bw217)) (fun _ h9 => h9) rfl d_Im_findStep_4 ?_
  refine lv_aload_n hx hb d_Im_findStep_7 rfl (lv_at hl 0 rfl) ?_
  refine va_get (D := D) (ci := 5) (v := .ref q0_problem) (C := "ConeForge$InteriorMethod") (T := FIm) (N := 13) hx hb hts iIm hown hK hP 0 rfl rfl 0 (by decide) (hts _ (bgc bw206)) (fun _ h9 => h9) rfl d_Im_findStep_8 ?_
  refine va_getN (D := D) (ci := 0) (v := .int vq0_problem_variables) (C := "ConeForge$Problem") (T := FPb) (N := 5) hx hb hts iPb hown hK hP 1 rfl rfl 1 (by decide) (hNW.use nw10) (fun _ h9 => h9) rfl d_Im_findStep_11 ?_
  refine lv_i2d hx hb d_Im_findStep_14 ?_
  obtain ⟨g38, h⟩ := gd_some h
  refine lv_ddiv hx hb d_Im_findStep_15 (isn_n g38) ?_
  obtain ⟨g39, h⟩ := gd_some h
  refine lv_dmul hx hb d_Im_findStep_16 (isn_n g39) ?_
  refine lv_dstore_n (lv' := [(1, .double (FP.dmul 4591870180066957722 (FP.ddiv vq0_g (FP.i2d vq0_problem_variables)))), (0, .ref q0)]) hx hb d_Im_findStep_17 rfl hl (by decide) rfl (fun ls hl => ?_)
  refine lv_iconst (v := 0) hx hb d_Im_findStep_18 (by decide) ?_
  refine lv_istore_n (lv' := [(3, .int 0), (1, .double (FP.dmul 4591870180066957722 (FP.ddiv vq0_g (FP.i2d vq0_problem_variables)))), (0, .ref q0)]) hx hb d_Im_findStep_19 rfl hl (by decide) rfl (fun ls hl => ?_)
  exact L20 vq0_matrix_entries vq0_matrix_lower vq0_matrix_diagonal vq0_matrix_middle vq0_h vq0_f vq0_r vq0_stepOfX vq0_stepOfS vq0_stepOfY (FP.dmul 4591870180066957722 (FP.ddiv vq0_g (FP.i2d vq0_problem_variables))) 0 H locs ls hP hD hS (lv_sub hl [2, 1, 0] rfl) h
theorem d_Im_longest_0 : decode prog_3_method_9_code 0 = .ok (.dconst 1, 1) := by decide +kernel
theorem d_Im_longest_1 : decode prog_3_method_9_code 1 = .ok (.dstore_n 3, 1) := by decide +kernel
theorem d_Im_longest_2 : decode prog_3_method_9_code 2 = .ok (.iconst 0, 1) := by decide +kernel
theorem d_Im_longest_3 : decode prog_3_method_9_code 3 = .ok (.istore 5, 2) := by decide +kernel
theorem d_Im_longest_5 : decode prog_3_method_9_code 5 = .ok (.iload 5, 2) := by decide +kernel
theorem d_Im_longest_7 : decode prog_3_method_9_code 7 = .ok (.aload_n 0, 1) := by decide +kernel
theorem d_Im_longest_8 : decode prog_3_method_9_code 8 = .ok (.getfield 12, 3) := by decide +kernel
theorem d_Im_longest_11 : decode prog_3_method_9_code 11 = .ok (.getfield 98, 3) := by decide +kernel
theorem d_Im_longest_14 : decode prog_3_method_9_code 14 = .ok (.if_icmp .ge 48, 3) := by decide +kernel
theorem d_Im_longest_17 : decode prog_3_method_9_code 17 = .ok (.aload_n 2, 1) := by decide +kernel
theorem d_Im_longest_18 : decode prog_3_method_9_code 18 = .ok (.iload 5, 2) := by decide +kernel
theorem d_Im_longest_20 : decode prog_3_method_9_code 20 = .ok (.daload, 1) := by decide +kernel
theorem d_Im_longest_21 : decode prog_3_method_9_code 21 = .ok (.dconst 0, 1) := by decide +kernel
theorem d_Im_longest_22 : decode prog_3_method_9_code 22 = .ok (.dcmp .g, 1) := by decide +kernel
theorem d_Im_longest_23 : decode prog_3_method_9_code 23 = .ok (.ifCond .ge 33, 3) := by decide +kernel
theorem d_Im_longest_26 : decode prog_3_method_9_code 26 = .ok (.ldc2_w 160, 3) := by decide +kernel
theorem d_Im_longest_29 : decode prog_3_method_9_code 29 = .ok (.aload_n 1, 1) := by decide +kernel
theorem d_Im_longest_30 : decode prog_3_method_9_code 30 = .ok (.iload 5, 2) := by decide +kernel
theorem d_Im_longest_32 : decode prog_3_method_9_code 32 = .ok (.daload, 1) := by decide +kernel
theorem d_Im_longest_33 : decode prog_3_method_9_code 33 = .ok (.aload_n 2, 1) := by decide +kernel
theorem d_Im_longest_34 : decode prog_3_method_9_code 34 = .ok (.iload 5, 2) := by decide +kernel
theorem d_Im_longest_36 : decode prog_3_method_9_code 36 = .ok (.daload, 1) := by decide +kernel
theorem d_Im_longest_37 : decode prog_3_method_9_code 37 = .ok (.dneg, 1) := by decide +kernel
theorem d_Im_longest_38 : decode prog_3_method_9_code 38 = .ok (.ddiv, 1) := by decide +kernel
theorem d_Im_longest_39 : decode prog_3_method_9_code 39 = .ok (.dmul, 1) := by decide +kernel
theorem d_Im_longest_40 : decode prog_3_method_9_code 40 = .ok (.dstore 6, 2) := by decide +kernel
theorem d_Im_longest_42 : decode prog_3_method_9_code 42 = .ok (.dload 6, 2) := by decide +kernel
theorem d_Im_longest_44 : decode prog_3_method_9_code 44 = .ok (.dload_n 3, 1) := by decide +kernel
theorem d_Im_longest_45 : decode prog_3_method_9_code 45 = .ok (.dcmp .g, 1) := by decide +kernel
theorem d_Im_longest_46 : decode prog_3_method_9_code 46 = .ok (.ifCond .ge 8, 3) := by decide +kernel
theorem d_Im_longest_49 : decode prog_3_method_9_code 49 = .ok (.dload 6, 2) := by decide +kernel
theorem d_Im_longest_51 : decode prog_3_method_9_code 51 = .ok (.goto 4, 3) := by decide +kernel
theorem d_Im_longest_54 : decode prog_3_method_9_code 54 = .ok (.dload_n 3, 1) := by decide +kernel
theorem d_Im_longest_55 : decode prog_3_method_9_code 55 = .ok (.dstore_n 3, 1) := by decide +kernel
theorem d_Im_longest_56 : decode prog_3_method_9_code 56 = .ok (.iinc 5 1, 3) := by decide +kernel
theorem d_Im_longest_59 : decode prog_3_method_9_code 59 = .ok (.goto (-54), 3) := by decide +kernel
theorem d_Im_longest_62 : decode prog_3_method_9_code 62 = .ok (.dload_n 3, 1) := by decide +kernel
theorem d_Im_longest_63 : decode prog_3_method_9_code 63 = .ok (.dreturn, 1) := by decide +kernel
abbrev w_Im_longest (T : Nat → ClassId) (q0 : Nat) (q0_problem : Nat) (q0_point : Nat) (q0_matrix : Nat) (q0_p : Nat) (q0_d : Nat) (q0_h : Nat) (q0_f : Nat) (q0_r : Nat) (q0_stepOfX : Nat) (q0_stepOfS : Nat) (q0_stepOfY : Nat) (q0_problem_a : Nat) (q0_problem_b : Nat) (q0_problem_c : Nat) (q1 : Nat) (q2 : Nat) (n1 : Nat) (n2 : Nat) (vq0_g : UInt64) (vq0_turnsBegun : Int32) (vq0_problem_rows : Int32) (vq0_problem_variables : Int32) (vq1 : Nat → UInt64) (vq2 : Nat → UInt64) : va_W := [(q0, .inr (5, [.ref q0_problem, .ref q0_point, .ref q0_matrix, .ref q0_p, .ref q0_d, .ref q0_h, .ref q0_f, .ref q0_r, .ref q0_stepOfX, .ref q0_stepOfS, .ref q0_stepOfY, .double vq0_g, .int vq0_turnsBegun])), (q0_problem, .inr (0, [.int vq0_problem_rows, .int vq0_problem_variables, .ref q0_problem_a, .ref q0_problem_b, .ref q0_problem_c])), (q1, .inl (T 0, n1, .inr (.inr (.inr (.inl vq1))))), (q2, .inl (T 0, n2, .inr (.inr (.inr (.inl vq2)))))]
def s_Im_longest_J56 (n1 : Nat) (n2 : Nat) (vq0_g : UInt64) (vq0_turnsBegun : Int32) (vq0_problem_rows : Int32) (vq0_problem_variables : Int32) (vq1 : Nat → UInt64) (vq2 : Nat → UInt64) (x3 : UInt64) (x5 : Int32) : Option ((UInt64 × Int32) ⊕ (UInt64)) :=
  some (.inl (x3, x5 + 1))
def s_Im_longest_J55 (n1 : Nat) (n2 : Nat) (vq0_g : UInt64) (vq0_turnsBegun : Int32) (vq0_problem_rows : Int32) (vq0_problem_variables : Int32) (vq1 : Nat → UInt64) (vq2 : Nat → UInt64) (x5 : Int32) (y0 : UInt64) : Option ((UInt64 × Int32) ⊕ (UInt64)) :=
  s_Im_longest_J56 n1 n2 vq0_g vq0_turnsBegun vq0_problem_rows vq0_problem_variables vq1 vq2 y0 x5
def s_Im_longest_B5 (n1 : Nat) (n2 : Nat) (vq0_g : UInt64) (vq0_turnsBegun : Int32) (vq0_problem_rows : Int32) (vq0_problem_variables : Int32) (vq1 : Nat → UInt64) (vq2 : Nat → UInt64) (x3 : UInt64) (x5 : Int32) : Option ((UInt64 × Int32) ⊕ (UInt64)) :=
  if vq0_problem_variables ≤ x5 then (some (.inr x3)) else (gd (inb x5 n2) <| if 0 ≤ (Op.cmpValue (FP.dcmp (vq2 x5.toNatClampNeg) FP.dconst0) .g) then (s_Im_longest_J56 n1 n2 vq0_g vq0_turnsBegun vq0_problem_rows vq0_problem_variables vq1 vq2 x3 x5) else (gd (inb x5 n1) <| gd (inb x5 n2) <| gd (isn (FP.ddiv (vq1 x5.toNatClampNeg) (FP.dneg (vq2 x5.toNatClampNeg)))) <| gd (isn (FP.dmul 4607137382803743703 (FP.ddiv (vq1 x5.toNatClampNeg) (FP.dneg (vq2 x5.toNatClampNeg))))) <| if 0 ≤ (Op.cmpValue (FP.dcmp (FP.dmul 4607137382803743703 (FP.ddiv (vq1 x5.toNatClampNeg) (FP.dneg (vq2 x5.toNatClampNeg)))) x3) .g) then (s_Im_longest_J55 n1 n2 vq0_g vq0_turnsBegun vq0_problem_rows vq0_problem_variables vq1 vq2 x5 x3) else (s_Im_longest_J55 n1 n2 vq0_g vq0_turnsBegun vq0_problem_rows vq0_problem_variables vq1 vq2 x5 (FP.dmul 4607137382803743703 (FP.ddiv (vq1 x5.toNatClampNeg) (FP.dneg (vq2 x5.toNatClampNeg)))))))
def s_Im_longest_L5 (n1 : Nat) (n2 : Nat) (vq0_g : UInt64) (vq0_turnsBegun : Int32) (vq0_problem_rows : Int32) (vq0_problem_variables : Int32) (vq1 : Nat → UInt64) (vq2 : Nat → UInt64) (x3 : UInt64) (x5 : Int32) : Option (UInt64) :=
  (loopO (fun (st : UInt64 × Int32) => s_Im_longest_B5 n1 n2 vq0_g vq0_turnsBegun vq0_problem_rows vq0_problem_variables vq1 vq2 st.1 st.2) 2000 (x3, x5)).bind fun u5 => some u5
def s_Im_longest (n1 : Nat) (n2 : Nat) (vq0_g : UInt64) (vq0_turnsBegun : Int32) (vq0_problem_rows : Int32) (vq0_problem_variables : Int32) (vq1 : Nat → UInt64) (vq2 : Nat → UInt64) : Option (UInt64) :=
  s_Im_longest_L5 n1 n2 vq0_g vq0_turnsBegun vq0_problem_rows vq0_problem_variables vq1 vq2 FP.dconst1 0
set_option maxHeartbeats 4000000 in
set_option maxRecDepth 100000 in
theorem c_Im_longest (l : Launch) (D : va_G) (T : Nat → ClassId) (q0 : Nat) (q0_problem : Nat) (q0_point : Nat) (q0_matrix : Nat) (q0_p : Nat) (q0_d : Nat) (q0_h : Nat) (q0_f : Nat) (q0_r : Nat) (q0_stepOfX : Nat) (q0_stepOfS : Nat) (q0_stepOfY : Nat) (q0_problem_a : Nat) (q0_problem_b : Nat) (q0_problem_c : Nat) (q1 : Nat) (q2 : Nat) (n1 : Nat) (n2 : Nat) (vq0_g : UInt64) (vq0_turnsBegun : Int32) (vq0_problem_rows : Int32) (vq0_problem_variables : Int32) (vq1 : Nat → UInt64) (vq2 : Nat → UInt64) (rm : UInt64) (h : s_Im_longest n1 n2 vq0_g vq0_turnsBegun vq0_problem_rows vq0_problem_variables vq1 vq2 = some rm) : CtD l y_Im_longest (Cond.code y_Im_longest prog_3_method_9_code 8 (some .double) :: BIG) 0 0 D T [.ref q0, .ref q1, .ref q2] (w_Im_longest T q0 q0_problem q0_point q0_matrix q0_p q0_d q0_h q0_f q0_r q0_stepOfX q0_stepOfS q0_stepOfY q0_problem_a q0_problem_b q0_problem_c q1 q2 n1 n2 vq0_g vq0_turnsBegun vq0_problem_rows vq0_problem_variables vq1 vq2) (fun r => r) (fun r => (w_Im_longest T q0 q0_problem q0_point q0_matrix q0_p q0_d q0_h q0_f q0_r q0_stepOfX q0_stepOfS q0_stepOfY q0_problem_a q0_problem_b q0_problem_c q1 q2 n1 n2 vq0_g vq0_turnsBegun vq0_problem_rows vq0_problem_variables vq1 vq2)) rm := by
  refine cf_entry (y := y_Im_longest) (cc := prog_3_method_9_code) (nL := 8) (ret := (some .double)) (fr := 0) (lo := 0) (T := T) (av := [.ref q0, .ref q1, .ref q2]) (w := (w_Im_longest T q0 q0_problem q0_point q0_matrix q0_p q0_d q0_h q0_f q0_r q0_stepOfX q0_stepOfS q0_stepOfY q0_problem_a q0_problem_b q0_problem_c q1 q2 n1 n2 vq0_g vq0_turnsBegun vq0_problem_rows vq0_problem_variables vq1 vq2)) (Qc := cfQd D (fun r => r) (fun r => (w_Im_longest T q0 q0_problem q0_point q0_matrix q0_p q0_d q0_h q0_f q0_r q0_stepOfX q0_stepOfS q0_stepOfY q0_problem_a q0_problem_b q0_problem_c q1 q2 n1 n2 vq0_g vq0_turnsBegun vq0_problem_rows vq0_problem_variables vq1 vq2)) rm) (by decide) rfl (Nat.le_of_ble_eq_true rfl) ?_
  intro p e s m args below meth c A Q H locs ls hx hb hr hlocks hml hown hts hNW hK hA hQ hP hD hS hl
  have hown : s.vm.findClass "ConeForge$InteriorMethod" = some m.cls := hown
  have hl : lv_has ls 8 [(0, .ref q0), (1, .ref q1), (2, .ref q2)] := hl
  have L5 : ∀ (x3 : UInt64) (x5 : Int32), ∀ (H : Heap) (locs : List Loc) (ls : Array Slot), va_P D CL (w_Im_longest T q0 q0_problem q0_point q0_matrix q0_p q0_d q0_h q0_f q0_r q0_stepOfX q0_stepOfS q0_stepOfY q0_problem_a q0_problem_b q0_problem_c q1 q2 n1 n2 vq0_g vq0_turnsBegun vq0_problem_rows vq0_problem_variables vq1 vq2) H → va_D A (w_Im_longest T q0 q0_problem q0_point q0_matrix q0_p q0_d q0_h q0_f q0_r q0_stepOfX q0_stepOfS q0_stepOfY q0_problem_a q0_problem_b q0_problem_c q1 q2 n1 n2 vq0_g vq0_turnsBegun vq0_problem_rows vq0_problem_variables vq1 vq2) → va_S A s.heap H locs → lv_has ls 8 [(0, .ref q0), (1, .ref q1), (2, .ref q2), (3, .double x3), (5, .int x5)] → s_Im_longest_L5 n1 n2 vq0_g vq0_turnsBegun vq0_problem_rows vq0_problem_variables vq1 vq2 x3 x5 = some rm → W p l e (rmk 0 0) s m args below meth c H locs 0 0 Q (F0 m 5 ls []) := by
    intro x3 x5 H locs ls hP hD hS hl h
    unfold s_Im_longest_L5 at h
    obtain ⟨u5, hu5, h⟩ := bi_some h
    refine loopO_W (Wh := fun (st : UInt64 × Int32) => ∀ (H : Heap) (locs : List Loc) (ls : Array Slot), va_P D CL (w_Im_longest T q0 q0_problem q0_point q0_matrix q0_p q0_d q0_h q0_f q0_r q0_stepOfX q0_stepOfS q0_stepOfY q0_problem_a q0_problem_b q0_problem_c q1 q2 n1 n2 vq0_g vq0_turnsBegun vq0_problem_rows vq0_problem_variables vq1 vq2) H → va_D A (w_Im_longest T q0 q0_problem q0_point q0_matrix q0_p q0_d q0_h q0_f q0_r q0_stepOfX q0_stepOfS q0_stepOfY q0_problem_a q0_problem_b q0_problem_c q1 q2 n1 n2 vq0_g vq0_turnsBegun vq0_problem_rows vq0_problem_variables vq1 vq2) → va_S A s.heap H locs → lv_has ls 8 [(0, .ref q0), (1, .ref q1), (2, .ref q2), (3, .double st.1), (5, .int st.2)] → W p l e (rmk 0 0) s m args below meth c H locs 0 0 Q (F0 m 5 ls [])) (Wx := fun (e1 : UInt64) => ∀ (H : Heap) (locs : List Loc) (ls : Array Slot), va_P D CL (w_Im_longest T q0 q0_problem q0_point q0_matrix q0_p q0_d q0_h q0_f q0_r q0_stepOfX q0_stepOfS q0_stepOfY q0_problem_a q0_problem_b q0_problem_c q1 q2 n1 n2 vq0_g vq0_turnsBegun vq0_problem_rows vq0_problem_variables vq1 vq2) H → va_D A (w_Im_longest T q0 q0_problem q0_point q0_matrix q0_p q0_d q0_h q0_f q0_r q0_stepOfX q0_stepOfS q0_stepOfY q0_problem_a q0_problem_b q0_problem_c q1 q2 n1 n2 vq0_g vq0_turnsBegun vq0_problem_rows vq0_problem_variables vq1 vq2) → va_S A s.heap H locs → lv_has ls 8 [(3, .double e1)] → W p l e (rmk 0 0) s m args below meth c H locs 0 0 Q (F0 m 62 ls [])) ?_ 2000 _ u5 hu5 ?_ H locs ls hP hD hS hl
    · intro st rb5 h kc5 kx5 H locs ls hP hD hS hl
      obtain ⟨x3, x5⟩ := st
      have h : s_Im_longest_B5 n1 n2 vq0_g vq0_turnsBegun vq0_problem_rows vq0_problem_variables vq1 vq2 x3 x5 = some rb5 := h
      have J56 : ∀ (x3 : UInt64) (x5 : Int32), ∀ (H : Heap) (locs : List Loc) (ls : Array Slot), va_P D CL (w_Im_longest T q0 q0_problem q0_point q0_matrix q0_p q0_d q0_h q0_f q0_r q0_stepOfX q0_stepOfS q0_stepOfY q0_problem_a q0_problem_b q0_problem_c q1 q2 n1 n2 vq0_g vq0_turnsBegun vq0_problem_rows vq0_problem_variables vq1 vq2) H → va_D A (w_Im_longest T q0 q0_problem q0_point q0_matrix q0_p q0_d q0_h q0_f q0_r q0_stepOfX q0_stepOfS q0_stepOfY q0_problem_a q0_problem_b q0_problem_c q1 q2 n1 n2 vq0_g vq0_turnsBegun vq0_problem_rows vq0_problem_variables vq1 vq2) → va_S A s.heap H locs → lv_has ls 8 [(0, .ref q0), (1, .ref q1), (2, .ref q2), (3, .double x3), (5, .int x5)] → s_Im_longest_J56 n1 n2 vq0_g vq0_turnsBegun vq0_problem_rows vq0_problem_variables vq1 vq2 x3 x5 = some rb5 → W p l e (rmk 0 0) s m args below meth c H locs 0 0 Q (F0 m 56 ls []) := by
        intro x3 x5 H locs ls hP hD hS hl h
        unfold s_Im_longest_J56 at h
        refine lv_iinc (v := x5 + 1) (lv' := [(5, .int (x5 + 1)), (0, .ref q0), (1, .ref q1), (2, .ref q2), (3, .double x3)]) hx hb d_Im_longest_56 hl (k := 4) rfl rfl (by decide) rfl (fun ls hl => ?_)
        refine lv_goto (tgt := 5) hx hb d_Im_longest_59 (by decide) ?_
        exact kc5 _ (Option.some.inj h).symm H locs ls hP hD hS (lv_sub hl [1, 2, 3, 4, 0] rfl)
      have J55 : ∀ (x5 : Int32) (y0 : UInt64), ∀ (H : Heap) (locs : List Loc) (ls : Array Slot), va_P D CL (w_Im_longest T q0 q0_problem q0_point q0_matrix q0_p q0_d q0_h q0_f q0_r q0_stepOfX q0_stepOfS q0_stepOfY q0_problem_a q0_problem_b q0_problem_c q1 q2 n1 n2 vq0_g vq0_turnsBegun vq0_problem_rows vq0_problem_variables vq1 vq2) H → va_D A (w_Im_longest T q0 q0_problem q0_point q0_matrix q0_p q0_d q0_h q0_f q0_r q0_stepOfX q0_stepOfS q0_stepOfY q0_problem_a q0_problem_b q0_problem_c q1 q2 n1 n2 vq0_g vq0_turnsBegun vq0_problem_rows vq0_problem_variables vq1 vq2) → va_S A s.heap H locs → lv_has ls 8 [(0, .ref q0), (1, .ref q1), (2, .ref q2), (5, .int x5)] → s_Im_longest_J55 n1 n2 vq0_g vq0_turnsBegun vq0_problem_rows vq0_problem_variables vq1 vq2 x5 y0 = some rb5 → W p l e (rmk 0 0) s m args below meth c H locs 0 0 Q (F0 m 55 ls [.double y0]) := by
        intro x5 y0 H locs ls hP hD hS hl h
        unfold s_Im_longest_J55 at h
        refine lv_dstore_n (lv' := [(3, .double y0), (0, .ref q0), (1, .ref q1), (2, .ref q2), (5, .int x5)]) hx hb d_Im_longest_55 rfl hl (by decide) rfl (fun ls hl => ?_)
        exact J56 y0 x5 H locs ls hP hD hS (lv_sub hl [1, 2, 3, 0, 4] rfl) h
      unfold s_Im_longest_B5 at h
      refine lv_iload hx hb d_Im_longest_5 (lv_at hl 4 rfl) ?_
      refine lv_aload_n hx hb d_Im_longest_7 rfl (lv_at hl 0 rfl) ?_
      refine va_get (D := D) (ci := 5) (v := .ref q0_problem) (C := "ConeForge$InteriorMethod") (T := FIm) (N := 13) hx hb hts iIm hown hK hP 0 rfl rfl 0 (by decide) (hts _ (bgc bw206)) (fun _ h9 => h9) rfl d_Im_longest_8 ?_
      refine va_getN (D := D) (ci := 0) (v := .int vq0_problem_variables) (C := "ConeForge$Problem") (T := FPb) (N := 5) hx hb hts iPb hown hK hP 1 rfl rfl 1 (by decide) (hNW.use nw10) (fun _ h9 => h9) rfl d_Im_longest_11 ?_
      refine lv_icmp_ge (tgt := 62) hx hb d_Im_longest_14 (by decide) (fun c1 => ?_) (fun c1 => ?_)
      · have h := it_t c1 h
        exact kx5 _ (Option.some.inj h).symm H locs ls hP hD hS (lv_sub hl [3] rfl)
      · have h := it_f c1 h
        refine lv_aload_n hx hb d_Im_longest_17 rfl (lv_at hl 2 rfl) ?_
        refine lv_iload hx hb d_Im_longest_18 (lv_at hl 4 rfl) ?_
        obtain ⟨g2, h⟩ := gd_some h
        refine va_dald hx hb hK hP 3 0 rfl rfl (inb_in g2) d_Im_longest_20 ?_
        refine lv_dconst0 hx hb d_Im_longest_21 ?_
        refine lv_dcmp hx hb d_Im_longest_22 ?_
        refine lv_if_ge (tgt := 56) hx hb d_Im_longest_23 (by decide) (fun c3 => ?_) (fun c3 => ?_)
        · have h := it_t c3 h
          exact J56 x3 x5 H locs ls hP hD hS (lv_sub hl [0, 1, 2, 3, 4] rfl) h
        · have h := it_f c3 h
          refine lv_ldc2d (v := 4607137382803743703) hx hb hown (hts _ (bgc bw605)) d_Im_longest_26 ?_
          refine lv_aload_n hx hb d_Im_longest_29 rfl (lv_at hl 1 rfl) ?_
          refine lv_iload hx hb d_Im_longest_30 (lv_at hl 4 rfl) ?_
          obtain ⟨g4, h⟩ := gd_some h
          refine va_dald hx hb hK hP 2 0 rfl rfl (inb_in g4) d_Im_longest_32 ?_
          refine lv_aload_n hx hb d_Im_longest_33 rfl (lv_at hl 2 rfl) ?_
          refine lv_iload hx hb d_Im_longest_34 (lv_at hl 4 rfl) ?_
          obtain ⟨g5, h⟩ := gd_some h
          refine va_dald hx hb hK hP 3 0 rfl rfl (inb_in g5) d_Im_longest_36 ?_
          refine lv_dneg hx hb d_Im_longest_37 ?_
          obtain ⟨g6, h⟩ := gd_some h
          refine lv_ddiv hx hb d_Im_longest_38 (isn_n g6) ?_
          obtain ⟨g7, h⟩ := gd_some h
          refine lv_dmul hx hb d_Im_longest_39 (isn_n g7) ?_
          refine lv_dstore (lv' := [(6, .double (FP.dmul 4607137382803743703 (FP.ddiv (vq1 x5.toNatClampNeg) (FP.dneg (vq2 x5.toNatClampNeg))))), (0, .ref q0), (1, .ref q1), (2, .ref q2), (3, .double x3), (5, .int x5)]) hx hb d_Im_longest_40 hl (by decide) rfl (fun ls hl => ?_)
          refine lv_dload hx hb d_Im_longest_42 (lv_at hl 0 rfl) ?_
          refine lv_dload_n hx hb d_Im_longest_44 rfl (lv_at hl 4 rfl) ?_
          refine lv_dcmp hx hb d_Im_longest_45 ?_
          refine lv_if_ge (tgt := 54) hx hb d_Im_longest_46 (by decide) (fun c8 => ?_) (fun c8 => ?_)
          · have h := it_t c8 h
            refine lv_dload_n hx hb d_Im_longest_54 rfl (lv_at hl 4 rfl) ?_
            exact J55 x5 x3 H locs ls hP hD hS (lv_sub hl [1, 2, 3, 5] rfl) h
          · have h := it_f c8 h
            refine lv_dload hx hb d_Im_longest_49 (lv_at hl 0 rfl) ?_
            refine lv_goto (tgt := 55) hx hb d_Im_longest_51 (by decide) ?_
            exact J55 x5 (FP.dmul 4607137382803743703 (FP.ddiv (vq1 x5.toNatClampNeg) (FP.dneg (vq2 x5.toNatClampNeg)))) H locs ls hP hD hS (lv_sub hl [1, 2, 3, 5] rfl) h
    · intro H locs ls hP hD hS hl
      refine lv_dload_n hx hb d_Im_longest_62 rfl (lv_at hl 0 rfl) ?_
      exact rtD hx hb hr hlocks hQ (Option.some.inj h) hP hS d_Im_longest_63 rfl rfl
  unfold s_Im_longest at h
  refine lv_dconst1 hx hb d_Im_longest_0 ?_
  refine lv_dstore_n (lv' := [(3, .double FP.dconst1), (0, .ref q0), (1, .ref q1), (2, .ref q2)]) hx hb d_Im_longest_1 rfl hl (by decide) rfl (fun ls hl => ?_)
  refine lv_iconst (v := 0) hx hb d_Im_longest_2 (by decide) ?_
  refine lv_istore (lv' := [(5, .int 0), (3, .double FP.dconst1), (0, .ref q0), (1, .ref q1), (2, .ref q2)]) hx hb d_Im_longest_3 hl (by decide) rfl (fun ls hl => ?_)
  exact L5 FP.dconst1 0 H locs ls hP hD hS (lv_sub hl [2, 3, 4, 1, 0] rfl) h
