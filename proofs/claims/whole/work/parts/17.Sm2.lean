theorem d_Sm_pivot_0 : decode prog_7_method_11_code 0 = .ok (.aload_n 0, 1) := by decide +kernel
theorem d_Sm_pivot_1 : decode prog_7_method_11_code 1 = .ok (.getfield 27, 3) := by decide +kernel
theorem d_Sm_pivot_4 : decode prog_7_method_11_code 4 = .ok (.iload_n 1, 1) := by decide +kernel
theorem d_Sm_pivot_5 : decode prog_7_method_11_code 5 = .ok (.aaload, 1) := by decide +kernel
theorem d_Sm_pivot_6 : decode prog_7_method_11_code 6 = .ok (.iload_n 2, 1) := by decide +kernel
theorem d_Sm_pivot_7 : decode prog_7_method_11_code 7 = .ok (.daload, 1) := by decide +kernel
theorem d_Sm_pivot_8 : decode prog_7_method_11_code 8 = .ok (.dstore_n 3, 1) := by decide +kernel
theorem d_Sm_pivot_9 : decode prog_7_method_11_code 9 = .ok (.iconst 0, 1) := by decide +kernel
theorem d_Sm_pivot_10 : decode prog_7_method_11_code 10 = .ok (.istore 5, 2) := by decide +kernel
theorem d_Sm_pivot_12 : decode prog_7_method_11_code 12 = .ok (.iload 5, 2) := by decide +kernel
theorem d_Sm_pivot_14 : decode prog_7_method_11_code 14 = .ok (.aload_n 0, 1) := by decide +kernel
theorem d_Sm_pivot_15 : decode prog_7_method_11_code 15 = .ok (.getfield 48, 3) := by decide +kernel
theorem d_Sm_pivot_18 : decode prog_7_method_11_code 18 = .ok (.if_icmp .ge 29, 3) := by decide +kernel
theorem d_Sm_pivot_21 : decode prog_7_method_11_code 21 = .ok (.aload_n 0, 1) := by decide +kernel
theorem d_Sm_pivot_22 : decode prog_7_method_11_code 22 = .ok (.getfield 27, 3) := by decide +kernel
theorem d_Sm_pivot_25 : decode prog_7_method_11_code 25 = .ok (.iload_n 1, 1) := by decide +kernel
theorem d_Sm_pivot_26 : decode prog_7_method_11_code 26 = .ok (.aaload, 1) := by decide +kernel
theorem d_Sm_pivot_27 : decode prog_7_method_11_code 27 = .ok (.iload 5, 2) := by decide +kernel
theorem d_Sm_pivot_29 : decode prog_7_method_11_code 29 = .ok (.aload_n 0, 1) := by decide +kernel
theorem d_Sm_pivot_30 : decode prog_7_method_11_code 30 = .ok (.getfield 27, 3) := by decide +kernel
theorem d_Sm_pivot_33 : decode prog_7_method_11_code 33 = .ok (.iload_n 1, 1) := by decide +kernel
theorem d_Sm_pivot_34 : decode prog_7_method_11_code 34 = .ok (.aaload, 1) := by decide +kernel
theorem d_Sm_pivot_35 : decode prog_7_method_11_code 35 = .ok (.iload 5, 2) := by decide +kernel
theorem d_Sm_pivot_37 : decode prog_7_method_11_code 37 = .ok (.daload, 1) := by decide +kernel
theorem d_Sm_pivot_38 : decode prog_7_method_11_code 38 = .ok (.dload_n 3, 1) := by decide +kernel
theorem d_Sm_pivot_39 : decode prog_7_method_11_code 39 = .ok (.ddiv, 1) := by decide +kernel
theorem d_Sm_pivot_40 : decode prog_7_method_11_code 40 = .ok (.dastore, 1) := by decide +kernel
theorem d_Sm_pivot_41 : decode prog_7_method_11_code 41 = .ok (.iinc 5 1, 3) := by decide +kernel
theorem d_Sm_pivot_44 : decode prog_7_method_11_code 44 = .ok (.goto (-32), 3) := by decide +kernel
theorem d_Sm_pivot_47 : decode prog_7_method_11_code 47 = .ok (.aload_n 0, 1) := by decide +kernel
theorem d_Sm_pivot_48 : decode prog_7_method_11_code 48 = .ok (.getfield 30, 3) := by decide +kernel
theorem d_Sm_pivot_51 : decode prog_7_method_11_code 51 = .ok (.iload_n 1, 1) := by decide +kernel
theorem d_Sm_pivot_52 : decode prog_7_method_11_code 52 = .ok (.aload_n 0, 1) := by decide +kernel
theorem d_Sm_pivot_53 : decode prog_7_method_11_code 53 = .ok (.getfield 30, 3) := by decide +kernel
theorem d_Sm_pivot_56 : decode prog_7_method_11_code 56 = .ok (.iload_n 1, 1) := by decide +kernel
theorem d_Sm_pivot_57 : decode prog_7_method_11_code 57 = .ok (.daload, 1) := by decide +kernel
theorem d_Sm_pivot_58 : decode prog_7_method_11_code 58 = .ok (.dload_n 3, 1) := by decide +kernel
theorem d_Sm_pivot_59 : decode prog_7_method_11_code 59 = .ok (.ddiv, 1) := by decide +kernel
theorem d_Sm_pivot_60 : decode prog_7_method_11_code 60 = .ok (.dastore, 1) := by decide +kernel
theorem d_Sm_pivot_61 : decode prog_7_method_11_code 61 = .ok (.iconst 0, 1) := by decide +kernel
theorem d_Sm_pivot_62 : decode prog_7_method_11_code 62 = .ok (.istore 5, 2) := by decide +kernel
theorem d_Sm_pivot_64 : decode prog_7_method_11_code 64 = .ok (.iload 5, 2) := by decide +kernel
theorem d_Sm_pivot_66 : decode prog_7_method_11_code 66 = .ok (.aload_n 0, 1) := by decide +kernel
theorem d_Sm_pivot_67 : decode prog_7_method_11_code 67 = .ok (.getfield 41, 3) := by decide +kernel
theorem d_Sm_pivot_70 : decode prog_7_method_11_code 70 = .ok (.if_icmp .ge 31, 3) := by decide +kernel
theorem d_Sm_pivot_73 : decode prog_7_method_11_code 73 = .ok (.iload 5, 2) := by decide +kernel
theorem d_Sm_pivot_75 : decode prog_7_method_11_code 75 = .ok (.iload_n 1, 1) := by decide +kernel
theorem d_Sm_pivot_76 : decode prog_7_method_11_code 76 = .ok (.if_icmp .eq 19, 3) := by decide +kernel
theorem d_Sm_pivot_79 : decode prog_7_method_11_code 79 = .ok (.aload_n 0, 1) := by decide +kernel
theorem d_Sm_pivot_80 : decode prog_7_method_11_code 80 = .ok (.iload 5, 2) := by decide +kernel
theorem d_Sm_pivot_82 : decode prog_7_method_11_code 82 = .ok (.iload_n 1, 1) := by decide +kernel
theorem d_Sm_pivot_83 : decode prog_7_method_11_code 83 = .ok (.aload_n 0, 1) := by decide +kernel
theorem d_Sm_pivot_84 : decode prog_7_method_11_code 84 = .ok (.getfield 27, 3) := by decide +kernel
theorem d_Sm_pivot_87 : decode prog_7_method_11_code 87 = .ok (.iload 5, 2) := by decide +kernel
theorem d_Sm_pivot_89 : decode prog_7_method_11_code 89 = .ok (.aaload, 1) := by decide +kernel
theorem d_Sm_pivot_90 : decode prog_7_method_11_code 90 = .ok (.iload_n 2, 1) := by decide +kernel
theorem d_Sm_pivot_91 : decode prog_7_method_11_code 91 = .ok (.daload, 1) := by decide +kernel
theorem d_Sm_pivot_92 : decode prog_7_method_11_code 92 = .ok (.invokevirtual 133, 3) := by decide +kernel
theorem d_Sm_pivot_95 : decode prog_7_method_11_code 95 = .ok (.iinc 5 1, 3) := by decide +kernel
theorem d_Sm_pivot_98 : decode prog_7_method_11_code 98 = .ok (.goto (-34), 3) := by decide +kernel
theorem d_Sm_pivot_101 : decode prog_7_method_11_code 101 = .ok (.aload_n 0, 1) := by decide +kernel
theorem d_Sm_pivot_102 : decode prog_7_method_11_code 102 = .ok (.getfield 37, 3) := by decide +kernel
theorem d_Sm_pivot_105 : decode prog_7_method_11_code 105 = .ok (.iload_n 1, 1) := by decide +kernel
theorem d_Sm_pivot_106 : decode prog_7_method_11_code 106 = .ok (.iload_n 2, 1) := by decide +kernel
theorem d_Sm_pivot_107 : decode prog_7_method_11_code 107 = .ok (.iastore, 1) := by decide +kernel
theorem d_Sm_pivot_108 : decode prog_7_method_11_code 108 = .ok (.return_, 1) := by decide +kernel
abbrev w_Sm_pivot (T : Nat → ClassId) (q0 : Nat) (q0_problem : Nat) (q0_point : Nat) (q0_table : Nat) (q0_right : Nat) (q0_cost : Nat) (q0_basic : Nat) (Rq0_table : Nat → Nat) (vq0_rows : Int32) (vq0_variables : Int32) (vq0_columns : Int32) (vq0_stepsDone : Int32) (vq0_table : Nat → Nat → UInt64) (vq0_right : Nat → UInt64) (vq0_basic : Nat → Int32) : va_W := [(q0, .inr (6, [.ref q0_problem, .ref q0_point, .ref q0_table, .ref q0_right, .ref q0_cost, .ref q0_basic, .int vq0_rows, .int vq0_variables, .int vq0_columns, .int vq0_stepsDone])), (q0_table, .inl (T 3, 5, .inr (.inr (.inr (.inr (fun i => some (Rq0_table i))))))), (Rq0_table 0, .inl (T 0, 13, .inr (.inr (.inr (.inl (vq0_table 0)))))), (Rq0_table 1, .inl (T 0, 13, .inr (.inr (.inr (.inl (vq0_table 1)))))), (Rq0_table 2, .inl (T 0, 13, .inr (.inr (.inr (.inl (vq0_table 2)))))), (Rq0_table 3, .inl (T 0, 13, .inr (.inr (.inr (.inl (vq0_table 3)))))), (Rq0_table 4, .inl (T 0, 13, .inr (.inr (.inr (.inl (vq0_table 4)))))), (q0_right, .inl (T 0, 5, .inr (.inr (.inr (.inl vq0_right))))), (q0_basic, .inl (T 1, 5, .inl vq0_basic))]
def s_Sm_pivot_J95 (vq0_rows : Int32) (vq0_variables : Int32) (vq0_columns : Int32) (vq0_stepsDone : Int32) (vq0_table : Nat → Nat → UInt64) (vq0_right : Nat → UInt64) (vq0_basic : Nat → Int32) (x1 : Int32) (x2 : Int32) (x5 : Int32) : Option (((Nat → Nat → UInt64) × (Nat → UInt64) × Int32) ⊕ ((Nat → Nat → UInt64) × (Nat → UInt64))) :=
  some (.inl (vq0_table, vq0_right, x5 + 1))
def s_Sm_pivot_B64 (vq0_rows : Int32) (vq0_variables : Int32) (vq0_columns : Int32) (vq0_stepsDone : Int32) (vq0_basic : Nat → Int32) (x1 : Int32) (x2 : Int32) (vq0_table : Nat → Nat → UInt64) (vq0_right : Nat → UInt64) (x5 : Int32) : Option (((Nat → Nat → UInt64) × (Nat → UInt64) × Int32) ⊕ ((Nat → Nat → UInt64) × (Nat → UInt64))) :=
  if vq0_rows ≤ x5 then (some (.inr (vq0_table, vq0_right))) else (if x5 = x1 then (s_Sm_pivot_J95 vq0_rows vq0_variables vq0_columns vq0_stepsDone vq0_table vq0_right vq0_basic x1 x2 x5) else (gd (inb x5 5) <| gd (inb x2 13) <| (s_Sm_takeAway vq0_rows vq0_variables vq0_columns vq0_stepsDone vq0_table vq0_right x5 x1 (vq0_table x5.toNatClampNeg x2.toNatClampNeg)).bind fun u5 => s_Sm_pivot_J95 vq0_rows vq0_variables vq0_columns vq0_stepsDone u5.1 u5.2 vq0_basic x1 x2 x5))
def s_Sm_pivot_L64 (vq0_rows : Int32) (vq0_variables : Int32) (vq0_columns : Int32) (vq0_stepsDone : Int32) (vq0_table : Nat → Nat → UInt64) (vq0_right : Nat → UInt64) (vq0_basic : Nat → Int32) (x1 : Int32) (x2 : Int32) (x5 : Int32) : Option ((Nat → Nat → UInt64) × (Nat → UInt64) × (Nat → Int32)) :=
  (loopO (fun (st : (Nat → Nat → UInt64) × (Nat → UInt64) × Int32) => s_Sm_pivot_B64 vq0_rows vq0_variables vq0_columns vq0_stepsDone vq0_basic x1 x2 st.1 st.2.1 st.2.2) 2000 (vq0_table, vq0_right, x5)).bind fun u64 => gd (inb x1 5) <| some (u64.1, u64.2, upd vq0_basic x1.toNatClampNeg x2)
def s_Sm_pivot_B12 (vq0_rows : Int32) (vq0_variables : Int32) (vq0_columns : Int32) (vq0_stepsDone : Int32) (vq0_right : Nat → UInt64) (vq0_basic : Nat → Int32) (x1 : Int32) (x2 : Int32) (x3 : UInt64) (vq0_table : Nat → Nat → UInt64) (x5 : Int32) : Option (((Nat → Nat → UInt64) × Int32) ⊕ ((Nat → Nat → UInt64))) :=
  if vq0_columns ≤ x5 then (some (.inr vq0_table)) else (gd (inb x1 5) <| gd (inb x1 5) <| gd (inb x5 13) <| gd (isn (FP.ddiv (vq0_table x1.toNatClampNeg x5.toNatClampNeg) x3)) <| gd (inb x5 13) <| some (.inl (gset vq0_table x1.toNatClampNeg (vf_upd (vq0_table x1.toNatClampNeg) x5.toNatClampNeg (FP.ddiv (vq0_table x1.toNatClampNeg x5.toNatClampNeg) x3)), x5 + 1)))
def s_Sm_pivot_L12 (vq0_rows : Int32) (vq0_variables : Int32) (vq0_columns : Int32) (vq0_stepsDone : Int32) (vq0_table : Nat → Nat → UInt64) (vq0_right : Nat → UInt64) (vq0_basic : Nat → Int32) (x1 : Int32) (x2 : Int32) (x3 : UInt64) (x5 : Int32) : Option ((Nat → Nat → UInt64) × (Nat → UInt64) × (Nat → Int32)) :=
  (loopO (fun (st : (Nat → Nat → UInt64) × Int32) => s_Sm_pivot_B12 vq0_rows vq0_variables vq0_columns vq0_stepsDone vq0_right vq0_basic x1 x2 x3 st.1 st.2) 2000 (vq0_table, x5)).bind fun u12 => gd (inb x1 5) <| gd (isn (FP.ddiv (vq0_right x1.toNatClampNeg) x3)) <| gd (inb x1 5) <| s_Sm_pivot_L64 vq0_rows vq0_variables vq0_columns vq0_stepsDone u12 (vf_upd vq0_right x1.toNatClampNeg (FP.ddiv (vq0_right x1.toNatClampNeg) x3)) vq0_basic x1 x2 0
def s_Sm_pivot (vq0_rows : Int32) (vq0_variables : Int32) (vq0_columns : Int32) (vq0_stepsDone : Int32) (vq0_table : Nat → Nat → UInt64) (vq0_right : Nat → UInt64) (vq0_basic : Nat → Int32) (x1 : Int32) (x2 : Int32) : Option ((Nat → Nat → UInt64) × (Nat → UInt64) × (Nat → Int32)) :=
  gd (inb x1 5) <| gd (inb x2 13) <| s_Sm_pivot_L12 vq0_rows vq0_variables vq0_columns vq0_stepsDone vq0_table vq0_right vq0_basic x1 x2 (vq0_table x1.toNatClampNeg x2.toNatClampNeg) 0
set_option maxHeartbeats 4000000 in
set_option maxRecDepth 100000 in
theorem c_Sm_pivot (l : Launch) (D : va_G) (T : Nat → ClassId) (q0 : Nat) (q0_problem : Nat) (q0_point : Nat) (q0_table : Nat) (q0_right : Nat) (q0_cost : Nat) (q0_basic : Nat) (Rq0_table : Nat → Nat) (vq0_rows : Int32) (vq0_variables : Int32) (vq0_columns : Int32) (vq0_stepsDone : Int32) (vq0_table : Nat → Nat → UInt64) (vq0_right : Nat → UInt64) (vq0_basic : Nat → Int32) (x1 : Int32) (x2 : Int32) (rm : (Nat → Nat → UInt64) × (Nat → UInt64) × (Nat → Int32)) (h : s_Sm_pivot vq0_rows vq0_variables vq0_columns vq0_stepsDone vq0_table vq0_right vq0_basic x1 x2 = some rm) : CtV l y_Sm_pivot (Cond.code y_Sm_pivot prog_7_method_11_code 6 none :: BIG) 1 25 D T [.ref q0, .int x1, .int x2] (w_Sm_pivot T q0 q0_problem q0_point q0_table q0_right q0_cost q0_basic Rq0_table vq0_rows vq0_variables vq0_columns vq0_stepsDone vq0_table vq0_right vq0_basic) (fun r => (w_Sm_pivot T q0 q0_problem q0_point q0_table q0_right q0_cost q0_basic Rq0_table vq0_rows vq0_variables vq0_columns vq0_stepsDone r.1 r.2.1 r.2.2)) rm := by
  refine cf_entry (y := y_Sm_pivot) (cc := prog_7_method_11_code) (nL := 6) (ret := none) (fr := 1) (lo := 25) (T := T) (av := [.ref q0, .int x1, .int x2]) (w := (w_Sm_pivot T q0 q0_problem q0_point q0_table q0_right q0_cost q0_basic Rq0_table vq0_rows vq0_variables vq0_columns vq0_stepsDone vq0_table vq0_right vq0_basic)) (Qc := cfQv D (fun r => (w_Sm_pivot T q0 q0_problem q0_point q0_table q0_right q0_cost q0_basic Rq0_table vq0_rows vq0_variables vq0_columns vq0_stepsDone r.1 r.2.1 r.2.2)) rm) (by decide) rfl (Nat.le_of_ble_eq_true rfl) ?_
  intro p e s m args below meth c A Q H locs ls hx hb hr hlocks hml hown hts hNW hK hA hQ hP hD hS hl
  have hown : s.vm.findClass "ConeForge$SimplexMethod" = some m.cls := hown
  have hl : lv_has ls 6 [(0, .ref q0), (1, .int x1), (2, .int x2)] := hl
  have L64 : ∀ (vq0_table : Nat → Nat → UInt64) (vq0_right : Nat → UInt64) (vq0_basic : Nat → Int32) (x1 : Int32) (x2 : Int32) (x5 : Int32), ∀ (H : Heap) (locs : List Loc) (ls : Array Slot), va_P D CL (w_Sm_pivot T q0 q0_problem q0_point q0_table q0_right q0_cost q0_basic Rq0_table vq0_rows vq0_variables vq0_columns vq0_stepsDone vq0_table vq0_right vq0_basic) H → va_D A (w_Sm_pivot T q0 q0_problem q0_point q0_table q0_right q0_cost q0_basic Rq0_table vq0_rows vq0_variables vq0_columns vq0_stepsDone vq0_table vq0_right vq0_basic) → va_S A s.heap H locs → lv_has ls 6 [(0, .ref q0), (1, .int x1), (2, .int x2), (5, .int x5)] → s_Sm_pivot_L64 vq0_rows vq0_variables vq0_columns vq0_stepsDone vq0_table vq0_right vq0_basic x1 x2 x5 = some rm → W p l e (rmk 1 25) s m args below meth c H locs 0 0 Q (F0 m 64 ls []) := by
    intro vq0_table vq0_right vq0_basic x1 x2 x5 H locs ls hP hD hS hl h
    unfold s_Sm_pivot_L64 at h
    obtain ⟨u64, hu64, h⟩ := bi_some h
    refine loopO_W (Wh := fun (st : (Nat → Nat → UInt64) × (Nat → UInt64) × Int32) => ∀ (H : Heap) (locs : List Loc) (ls : Array Slot), va_P D CL (w_Sm_pivot T q0 q0_problem q0_point q0_table q0_right q0_cost q0_basic Rq0_table vq0_rows vq0_variables vq0_columns vq0_stepsDone st.1 st.2.1 vq0_basic) H → va_D A (w_Sm_pivot T q0 q0_problem q0_point q0_table q0_right q0_cost q0_basic Rq0_table vq0_rows vq0_variables vq0_columns vq0_stepsDone st.1 st.2.1 vq0_basic) → va_S A s.heap H locs → lv_has ls 6 [(0, .ref q0), (1, .int x1), (2, .int x2), (5, .int st.2.2)] → W p l e (rmk 1 25) s m args below meth c H locs 0 0 Q (F0 m 64 ls [])) (Wx := fun (e1 : (Nat → Nat → UInt64) × (Nat → UInt64)) => ∀ (H : Heap) (locs : List Loc) (ls : Array Slot), va_P D CL (w_Sm_pivot T q0 q0_problem q0_point q0_table q0_right q0_cost q0_basic Rq0_table vq0_rows vq0_variables vq0_columns vq0_stepsDone e1.1 e1.2 vq0_basic) H → va_D A (w_Sm_pivot T q0 q0_problem q0_point q0_table q0_right q0_cost q0_basic Rq0_table vq0_rows vq0_variables vq0_columns vq0_stepsDone e1.1 e1.2 vq0_basic) → va_S A s.heap H locs → lv_has ls 6 [(0, .ref q0), (1, .int x1), (2, .int x2)] → W p l e (rmk 1 25) s m args below meth c H locs 0 0 Q (F0 m 101 ls [])) ?_ 2000 _ u64 hu64 ?_ H locs ls hP hD hS hl
    · intro st rb64 h kc64 kx64 H locs ls hP hD hS hl
      obtain ⟨vq0_table, vq0_right, x5⟩ := st
      have h : s_Sm_pivot_B64 vq0_rows vq0_variables vq0_columns vq0_stepsDone vq0_basic x1 x2 vq0_table vq0_right x5 = some rb64 := h
      have J95 : ∀ (vq0_table : Nat → Nat → UInt64) (vq0_right : Nat → UInt64) (x5 : Int32), ∀ (H : Heap) (locs : List Loc) (ls : Array Slot), va_P D CL (w_Sm_pivot T q0 q0_problem q0_point q0_table q0_right q0_cost q0_basic Rq0_table vq0_rows vq0_variables vq0_columns vq0_stepsDone vq0_table vq0_right vq0_basic) H → va_D A (w_Sm_pivot T q0 q0_problem q0_point q0_table q0_right q0_cost q0_basic Rq0_table vq0_rows vq0_variables vq0_columns vq0_stepsDone vq0_table vq0_right vq0_basic) → va_S A s.heap H locs → lv_has ls 6 [(0, .ref q0), (1, .int x1), (2, .int x2), (5, .int x5)] → s_Sm_pivot_J95 vq0_rows vq0_variables vq0_columns vq0_stepsDone vq0_table vq0_right vq0_basic x1 x2 x5 = some rb64 → W p l e (rmk 1 25) s m args below meth c H locs 0 0 Q (F0 m 95 ls []) := by
        intro vq0_table vq0_right x5 H locs ls hP hD hS hl h
        unfold s_Sm_pivot_J95 at h
        refine lv_iinc (v := x5 + 1) (lv' := [(5, .int (x5 + 1)), (0, .ref q0), (1, .int x1), (2, .int x2)]) hx hb d_Sm_pivot_95 hl (k := 3) rfl rfl (by decide) rfl (fun ls hl => ?_)
        refine lv_goto (tgt := 64) hx hb d_Sm_pivot_98 (by decide) ?_
        exact kc64 _ (Option.some.inj h).symm H locs ls hP hD hS (lv_sub hl [1, 2, 3, 0] rfl)
      unfold s_Sm_pivot_B64 at h
      refine lv_iload hx hb d_Sm_pivot_64 (lv_at hl 3 rfl) ?_
      refine lv_aload_n hx hb d_Sm_pivot_66 rfl (lv_at hl 0 rfl) ?_
      refine va_get (D := D) (ci := 6) (v := .int vq0_rows) (C := "ConeForge$SimplexMethod") (T := FSm) (N := 10) hx hb hts iSm hown hK hP 0 rfl rfl 6 (by decide) (hts _ (bgc bw246)) (fun _ h9 => h9) rfl d_Sm_pivot_67 ?_
      refine lv_icmp_ge (tgt := 101) hx hb d_Sm_pivot_70 (by decide) (fun c1 => ?_) (fun c1 => ?_)
      · have h := it_t c1 h
        exact kx64 _ (Option.some.inj h).symm H locs ls hP hD hS (lv_sub hl [0, 1, 2] rfl)
      · have h := it_f c1 h
        refine lv_iload hx hb d_Sm_pivot_73 (lv_at hl 3 rfl) ?_
        refine lv_iload_n hx hb d_Sm_pivot_75 rfl (lv_at hl 1 rfl) ?_
        refine lv_icmp_eq (tgt := 95) hx hb d_Sm_pivot_76 (by decide) (fun c2 => ?_) (fun c2 => ?_)
        · have h := it_t c2 h
          exact J95 vq0_table vq0_right x5 H locs ls hP hD hS (lv_sub hl [0, 1, 2, 3] rfl) h
        · have h := it_f c2 h
          refine lv_aload_n hx hb d_Sm_pivot_79 rfl (lv_at hl 0 rfl) ?_
          refine lv_iload hx hb d_Sm_pivot_80 (lv_at hl 3 rfl) ?_
          refine lv_iload_n hx hb d_Sm_pivot_82 rfl (lv_at hl 1 rfl) ?_
          refine lv_aload_n hx hb d_Sm_pivot_83 rfl (lv_at hl 0 rfl) ?_
          refine va_get (D := D) (ci := 6) (v := .ref q0_table) (C := "ConeForge$SimplexMethod") (T := FSm) (N := 10) hx hb hts iSm hown hK hP 0 rfl rfl 2 (by decide) (hts _ (bgc bw242)) (fun _ h9 => h9) rfl d_Sm_pivot_84 ?_
          refine lv_iload hx hb d_Sm_pivot_87 (lv_at hl 3 rfl) ?_
          obtain ⟨g3, h⟩ := gd_some h
          refine va_aldg (f := Rq0_table) hx hb hK hP 1 3 rfl rfl (inb_in g3) d_Sm_pivot_89 ?_
          refine lv_iload_n hx hb d_Sm_pivot_90 rfl (lv_at hl 2 rfl) ?_
          obtain ⟨g4, h⟩ := gd_some h
          refine va_dald hx hb hK hP (2 + x5.toNatClampNeg) 0 (gk5 (P := fun k => (w_Sm_pivot T q0 q0_problem q0_point q0_table q0_right q0_cost q0_basic Rq0_table vq0_rows vq0_variables vq0_columns vq0_stepsDone vq0_table vq0_right vq0_basic)[2 + k]? = some (Rq0_table k, .inl (T 0, 13, .inr (.inr (.inr (.inl (vq0_table k))))))) rfl rfl rfl rfl rfl _ (inb_lt g3)) rfl (inb_in g4) d_Sm_pivot_91 ?_
          obtain ⟨u5, hu5, h⟩ := bi_some h
          refine kV (wc := (w_Sm_takeAway T q0 q0_problem q0_point q0_table q0_right q0_cost q0_basic Rq0_table vq0_rows vq0_variables vq0_columns vq0_stepsDone vq0_table vq0_right)) (wc' := (w_Sm_takeAway T q0 q0_problem q0_point q0_table q0_right q0_cost q0_basic Rq0_table vq0_rows vq0_variables vq0_columns vq0_stepsDone u5.1 u5.2)) (runOV (As := [.int x5, .int x1, .double (vq0_table x5.toNatClampNeg x2.toNatClampNeg)]) (rest := []) ((c_Sm_takeAway l D T q0 q0_problem q0_point q0_table q0_right q0_cost q0_basic Rq0_table vq0_rows vq0_variables vq0_columns vq0_stepsDone vq0_table vq0_right x5 x1 (vq0_table x5.toNatClampNeg x2.toNatClampNeg) u5 hu5) H.size) ⟨hx, hb, hml, hown, hts⟩ (cwOV bw359 bw360 bw17 bw104 bw361 dd_Sm_takeAway hts ⟨Nat.le_of_ble_eq_true rfl, Nat.le_of_ble_eq_true rfl⟩) (va_recv hK hP (ci := 6) (q0 := 0) rfl rfl) hNW hK hP hD [0, 1, 2, 3, 4, 5, 6, 7] rfl (by decide) rfl hl.1 rfl (lv_room (Nat.le_of_ble_eq_true rfl)) d_Sm_pivot_92 ⟨Nat.le_of_ble_eq_true rfl, Nat.le_of_ble_eq_true rfl⟩) hP hD hS hA [0, 1, 2, 3, 4, 5, 6, 7] rfl rfl (fun H locs hP hD hS => ?_)
          have hP : va_P D CL (w_Sm_pivot T q0 q0_problem q0_point q0_table q0_right q0_cost q0_basic Rq0_table vq0_rows vq0_variables vq0_columns vq0_stepsDone u5.1 u5.2 vq0_basic) H := hP
          have hD : va_D A (w_Sm_pivot T q0 q0_problem q0_point q0_table q0_right q0_cost q0_basic Rq0_table vq0_rows vq0_variables vq0_columns vq0_stepsDone u5.1 u5.2 vq0_basic) := hD
          exact J95 u5.1 u5.2 x5 H locs ls hP hD hS (lv_sub hl [0, 1, 2, 3] rfl) h
    · intro H locs ls hP hD hS hl
      refine lv_aload_n hx hb d_Sm_pivot_101 rfl (lv_at hl 0 rfl) ?_
      refine va_get (D := D) (ci := 6) (v := .ref q0_basic) (C := "ConeForge$SimplexMethod") (T := FSm) (N := 10) hx hb hts iSm hown hK hP 0 rfl rfl 5 (by decide) (hts _ (bgc bw245)) (fun _ h9 => h9) rfl d_Sm_pivot_102 ?_
      refine lv_iload_n hx hb d_Sm_pivot_105 rfl (lv_at hl 1 rfl) ?_
      refine lv_iload_n hx hb d_Sm_pivot_106 rfl (lv_at hl 2 rfl) ?_
      obtain ⟨g6, h⟩ := gd_some h
      refine va_iast hx hb hK hP hD hS 8 1 rfl rfl (inb_in g6) d_Sm_pivot_107 (fun H locs hP hD hS => ?_)
      have hP : va_P D CL (w_Sm_pivot T q0 q0_problem q0_point q0_table q0_right q0_cost q0_basic Rq0_table vq0_rows vq0_variables vq0_columns vq0_stepsDone u64.1 u64.2 (upd vq0_basic x1.toNatClampNeg x2)) H := hP
      have hD : va_D A (w_Sm_pivot T q0 q0_problem q0_point q0_table q0_right q0_cost q0_basic Rq0_table vq0_rows vq0_variables vq0_columns vq0_stepsDone u64.1 u64.2 (upd vq0_basic x1.toNatClampNeg x2)) := hD
      exact rtV hx hb hr hlocks hQ (Option.some.inj h) hP hS d_Sm_pivot_108 rfl
  have L12 : ∀ (vq0_table : Nat → Nat → UInt64) (vq0_right : Nat → UInt64) (vq0_basic : Nat → Int32) (x1 : Int32) (x2 : Int32) (x3 : UInt64) (x5 : Int32), ∀ (H : Heap) (locs : List Loc) (ls : Array Slot), va_P D CL (w_Sm_pivot T q0 q0_problem q0_point q0_table q0_right q0_cost q0_basic Rq0_table vq0_rows vq0_variables vq0_columns vq0_stepsDone vq0_table vq0_right vq0_basic) H → va_D A (w_Sm_pivot T q0 q0_problem q0_point q0_table q0_right q0_cost q0_basic Rq0_table vq0_rows vq0_variables vq0_columns vq0_stepsDone vq0_table vq0_right vq0_basic) → va_S A s.heap H locs → lv_has ls 6 [(0, .ref q0), (1, .int x1), (2, .int x2), (3, .double x3), (5, .int x5)] → s_Sm_pivot_L12 vq0_rows vq0_variables vq0_columns vq0_stepsDone vq0_table vq0_right vq0_basic x1 x2 x3 x5 = some rm → W p l e (rmk 1 25) s m args below meth c H locs 0 0 Q (F0 m 12 ls []) := by
    intro vq0_table vq0_right vq0_basic x1 x2 x3 x5 H locs ls hP hD hS hl h
    unfold s_Sm_pivot_L12 at h
    obtain ⟨u12, hu12, h⟩ := bi_some h
    refine loopO_W (Wh := fun (st : (Nat → Nat → UInt64) × Int32) => ∀ (H : Heap) (locs : List Loc) (ls : Array Slot), va_P D CL (w_Sm_pivot T q0 q0_problem q0_point q0_table q0_right q0_cost q0_basic Rq0_table vq0_rows vq0_variables vq0_columns vq0_stepsDone st.1 vq0_right vq0_basic) H → va_D A (w_Sm_pivot T q0 q0_problem q0_point q0_table q0_right q0_cost q0_basic Rq0_table vq0_rows vq0_variables vq0_columns vq0_stepsDone st.1 vq0_right vq0_basic) → va_S A s.heap H locs → lv_has ls 6 [(0, .ref q0), (1, .int x1), (2, .int x2), (3, .double x3), (5, .int st.2)] → W p l e (rmk 1 25) s m args below meth c H locs 0 0 Q (F0 m 12 ls [])) (Wx := fun (e1 : (Nat → Nat → UInt64)) => ∀ (H : Heap) (locs : List Loc) (ls : Array Slot), va_P D CL (w_Sm_pivot T q0 q0_problem q0_point q0_table q0_right q0_cost q0_basic Rq0_table vq0_rows vq0_variables vq0_columns vq0_stepsDone e1 vq0_right vq0_basic) H → va_D A (w_Sm_pivot T q0 q0_problem q0_point q0_table q0_right q0_cost q0_basic Rq0_table vq0_rows vq0_variables vq0_columns vq0_stepsDone e1 vq0_right vq0_basic) → va_S A s.heap H locs → lv_has ls 6 [(0, .ref q0), (1, .int x1), (2, .int x2), (3, .double x3)] → W p l e (rmk 1 25) s m args below meth c H locs 0 0 Q (F0 m 47 ls [])) ?_ 2000 _ u12 hu12 ?_ H locs ls hP hD hS hl
    · intro st rb12 h kc12 kx12 H locs ls hP hD hS hl
      obtain ⟨vq0_table, x5⟩ := st
      have h : s_Sm_pivot_B12 vq0_rows vq0_variables vq0_columns vq0_stepsDone vq0_right vq0_basic x1 x2 x3 vq0_table x5 = some rb12 := h
      unfold s_Sm_pivot_B12 at h
      refine lv_iload hx hb d_Sm_pivot_12 (lv_at hl 4 rfl) ?_
      refine lv_aload_n hx hb d_Sm_pivot_14 rfl (lv_at hl 0 rfl) ?_
      refine va_get (D := D) (ci := 6) (v := .int vq0_columns) (C := "ConeForge$SimplexMethod") (T := FSm) (N := 10) hx hb hts iSm hown hK hP 0 rfl rfl 8 (by decide) (hts _ (bgc bw248)) (fun _ h9 => h9) rfl d_Sm_pivot_15 ?_
      refine lv_icmp_ge (tgt := 47) hx hb d_Sm_pivot_18 (by decide) (fun c7 => ?_) (fun c7 => ?_)
      · have h := it_t c7 h
        exact kx12 _ (Option.some.inj h).symm H locs ls hP hD hS (lv_sub hl [0, 1, 2, 3] rfl)
      · have h := it_f c7 h
        refine lv_aload_n hx hb d_Sm_pivot_21 rfl (lv_at hl 0 rfl) ?_
        refine va_get (D := D) (ci := 6) (v := .ref q0_table) (C := "ConeForge$SimplexMethod") (T := FSm) (N := 10) hx hb hts iSm hown hK hP 0 rfl rfl 2 (by decide) (hts _ (bgc bw242)) (fun _ h9 => h9) rfl d_Sm_pivot_22 ?_
        refine lv_iload_n hx hb d_Sm_pivot_25 rfl (lv_at hl 1 rfl) ?_
        obtain ⟨g8, h⟩ := gd_some h
        refine va_aldg (f := Rq0_table) hx hb hK hP 1 3 rfl rfl (inb_in g8) d_Sm_pivot_26 ?_
        refine lv_iload hx hb d_Sm_pivot_27 (lv_at hl 4 rfl) ?_
        refine lv_aload_n hx hb d_Sm_pivot_29 rfl (lv_at hl 0 rfl) ?_
        refine va_get (D := D) (ci := 6) (v := .ref q0_table) (C := "ConeForge$SimplexMethod") (T := FSm) (N := 10) hx hb hts iSm hown hK hP 0 rfl rfl 2 (by decide) (hts _ (bgc bw242)) (fun _ h9 => h9) rfl d_Sm_pivot_30 ?_
        refine lv_iload_n hx hb d_Sm_pivot_33 rfl (lv_at hl 1 rfl) ?_
        obtain ⟨g9, h⟩ := gd_some h
        refine va_aldg (f := Rq0_table) hx hb hK hP 1 3 rfl rfl (inb_in g9) d_Sm_pivot_34 ?_
        refine lv_iload hx hb d_Sm_pivot_35 (lv_at hl 4 rfl) ?_
        obtain ⟨g10, h⟩ := gd_some h
        refine va_dald hx hb hK hP (2 + x1.toNatClampNeg) 0 (gk5 (P := fun k => (w_Sm_pivot T q0 q0_problem q0_point q0_table q0_right q0_cost q0_basic Rq0_table vq0_rows vq0_variables vq0_columns vq0_stepsDone vq0_table vq0_right vq0_basic)[2 + k]? = some (Rq0_table k, .inl (T 0, 13, .inr (.inr (.inr (.inl (vq0_table k))))))) rfl rfl rfl rfl rfl _ (inb_lt g9)) rfl (inb_in g10) d_Sm_pivot_37 ?_
        refine lv_dload_n hx hb d_Sm_pivot_38 rfl (lv_at hl 3 rfl) ?_
        obtain ⟨g11, h⟩ := gd_some h
        refine lv_ddiv hx hb d_Sm_pivot_39 (isn_n g11) ?_
        obtain ⟨g12, h⟩ := gd_some h
        refine va_dast hx hb hK hP hD hS (2 + x1.toNatClampNeg) 0 (gk5 (P := fun k => (w_Sm_pivot T q0 q0_problem q0_point q0_table q0_right q0_cost q0_basic Rq0_table vq0_rows vq0_variables vq0_columns vq0_stepsDone vq0_table vq0_right vq0_basic)[2 + k]? = some (Rq0_table k, .inl (T 0, 13, .inr (.inr (.inr (.inl (vq0_table k))))))) rfl rfl rfl rfl rfl _ (inb_lt g9)) rfl (inb_in g12) d_Sm_pivot_40 (fun H locs hP hD hS => ?_)
        have e13 : ∀ zz : Nat → UInt64, (w_Sm_pivot T q0 q0_problem q0_point q0_table q0_right q0_cost q0_basic Rq0_table vq0_rows vq0_variables vq0_columns vq0_stepsDone vq0_table vq0_right vq0_basic).set (2 + x1.toNatClampNeg) (Rq0_table x1.toNatClampNeg, .inl (T 0, 13, .inr (.inr (.inr (.inl zz))))) = (w_Sm_pivot T q0 q0_problem q0_point q0_table q0_right q0_cost q0_basic Rq0_table vq0_rows vq0_variables vq0_columns vq0_stepsDone (gset vq0_table x1.toNatClampNeg zz) vq0_right vq0_basic) := fun zz => gk5 (P := fun k => (w_Sm_pivot T q0 q0_problem q0_point q0_table q0_right q0_cost q0_basic Rq0_table vq0_rows vq0_variables vq0_columns vq0_stepsDone vq0_table vq0_right vq0_basic).set (2 + k) (Rq0_table k, .inl (T 0, 13, .inr (.inr (.inr (.inl zz))))) = (w_Sm_pivot T q0 q0_problem q0_point q0_table q0_right q0_cost q0_basic Rq0_table vq0_rows vq0_variables vq0_columns vq0_stepsDone (gset vq0_table k zz) vq0_right vq0_basic)) rfl rfl rfl rfl rfl _ (inb_lt g9)
        have hP : va_P D CL (w_Sm_pivot T q0 q0_problem q0_point q0_table q0_right q0_cost q0_basic Rq0_table vq0_rows vq0_variables vq0_columns vq0_stepsDone (gset vq0_table x1.toNatClampNeg (vf_upd (vq0_table x1.toNatClampNeg) x5.toNatClampNeg (FP.ddiv (vq0_table x1.toNatClampNeg x5.toNatClampNeg) x3))) vq0_right vq0_basic) H := (e13 _) ▸ hP
        have hD : va_D A (w_Sm_pivot T q0 q0_problem q0_point q0_table q0_right q0_cost q0_basic Rq0_table vq0_rows vq0_variables vq0_columns vq0_stepsDone (gset vq0_table x1.toNatClampNeg (vf_upd (vq0_table x1.toNatClampNeg) x5.toNatClampNeg (FP.ddiv (vq0_table x1.toNatClampNeg x5.toNatClampNeg) x3))) vq0_right vq0_basic) := (e13 _) ▸ hD
        refine lv_iinc (v := x5 + 1) (lv' := [(5, .int (x5 + 1)), (0, .ref q0), (1, .int x1), (2, .int x2), (3, .double x3)]) hx hb d_Sm_pivot_41 hl (k := 4) rfl rfl (by decide) rfl (fun ls hl => ?_)
        refine lv_goto (tgt := 12) hx hb d_Sm_pivot_44 (by decide) ?_
        exact kc12 _ (Option.some.inj h).symm H locs ls hP hD hS (lv_sub hl [1, 2, 3, 4, 0] rfl)
    · intro H locs ls hP hD hS hl
      refine lv_aload_n hx hb d_Sm_pivot_47 rfl (lv_at hl 0 rfl) ?_
      refine va_get (D := D) (ci := 6) (v := .ref q0_right) (C := "ConeForge$SimplexMethod") (T := FSm) (N := 10) hx hb hts iSm hown hK hP 0 rfl rfl 3 (by decide) (hts _ (bgc bw243)) (fun _ h9 => h9) rfl d_Sm_pivot_48 ?_
      refine lv_iload_n hx hb d_Sm_pivot_51 rfl (lv_at hl 1 rfl) ?_
      refine lv_aload_n hx hb d_Sm_pivot_52 rfl (lv_at hl 0 rfl) ?_
      refine va_get (D := D) (ci := 6) (v := .ref q0_right) (C := "ConeForge$SimplexMethod") (T := FSm) (N := 10) hx hb hts iSm hown hK hP 0 rfl rfl 3 (by decide) (hts _ (bgc bw243)) (fun _ h9 => h9) rfl d_Sm_pivot_53 ?_
      refine lv_iload_n hx hb d_Sm_pivot_56 rfl (lv_at hl 1 rfl) ?_
      obtain ⟨g14, h⟩ := gd_some h
      refine va_dald hx hb hK hP 7 0 rfl rfl (inb_in g14) d_Sm_pivot_57 ?_
      refine lv_dload_n hx hb d_Sm_pivot_58 rfl (lv_at hl 3 rfl) ?_
      obtain ⟨g15, h⟩ := gd_some h
      refine lv_ddiv hx hb d_Sm_pivot_59 (isn_n g15) ?_
      obtain ⟨g16, h⟩ := gd_some h
      refine va_dast hx hb hK hP hD hS 7 0 rfl rfl (inb_in g16) d_Sm_pivot_60 (fun H locs hP hD hS => ?_)
      have hP : va_P D CL (w_Sm_pivot T q0 q0_problem q0_point q0_table q0_right q0_cost q0_basic Rq0_table vq0_rows vq0_variables vq0_columns vq0_stepsDone u12 (vf_upd vq0_right x1.toNatClampNeg (FP.ddiv (vq0_right x1.toNatClampNeg) x3)) vq0_basic) H := hP
      have hD : va_D A (w_Sm_pivot T q0 q0_problem q0_point q0_table q0_right q0_cost q0_basic Rq0_table vq0_rows vq0_variables vq0_columns vq0_stepsDone u12 (vf_upd vq0_right x1.toNatClampNeg (FP.ddiv (vq0_right x1.toNatClampNeg) x3)) vq0_basic) := hD
      refine lv_iconst (v := 0) hx hb d_Sm_pivot_61 (by decide) ?_
      refine lv_istore (lv' := [(5, .int 0), (0, .ref q0), (1, .int x1), (2, .int x2), (3, .double x3)]) hx hb d_Sm_pivot_62 hl (by decide) rfl (fun ls hl => ?_)
      exact L64 u12 (vf_upd vq0_right x1.toNatClampNeg (FP.ddiv (vq0_right x1.toNatClampNeg) x3)) vq0_basic x1 x2 0 H locs ls hP hD hS (lv_sub hl [1, 2, 3, 0] rfl) h
  unfold s_Sm_pivot at h
  refine lv_aload_n hx hb d_Sm_pivot_0 rfl (lv_at hl 0 rfl) ?_
  refine va_get (D := D) (ci := 6) (v := .ref q0_table) (C := "ConeForge$SimplexMethod") (T := FSm) (N := 10) hx hb hts iSm hown hK hP 0 rfl rfl 2 (by decide) (hts _ (bgc bw242)) (fun _ h9 => h9) rfl d_Sm_pivot_1 ?_
  refine lv_iload_n hx hb d_Sm_pivot_4 rfl (lv_at hl 1 rfl) ?_
  obtain ⟨g17, h⟩ := gd_some h
  refine va_aldg (f := Rq0_table) hx hb hK hP 1 3 rfl rfl (inb_in g17) d_Sm_pivot_5 ?_
  refine lv_iload_n hx hb d_Sm_pivot_6 rfl (lv_at hl 2 rfl) ?_
  obtain ⟨g18, h⟩ := gd_some h
  refine va_dald hx hb hK hP (2 + x1.toNatClampNeg) 0 (gk5 (P := fun k => (w_Sm_pivot T q0 q0_problem q0_point q0_table q0_right q0_cost q0_basic Rq0_table vq0_rows vq0_variables vq0_columns vq0_stepsDone vq0_table vq0_right vq0_basic)[2 + k]? = some (Rq0_table k, .inl (T 0, 13, .inr (.inr (.inr (.inl (vq0_table k))))))) rfl rfl rfl rfl rfl _ (inb_lt g17)) rfl (inb_in g18) d_Sm_pivot_7 ?_
  refine lv_dstore_n (lv' := [(3, .double (vq0_table x1.toNatClampNeg x2.toNatClampNeg)), (0, .ref q0), (1, .int x1), (2, .int x2)]) hx hb d_Sm_pivot_8 rfl hl (by decide) rfl (fun ls hl => ?_)
  refine lv_iconst (v := 0) hx hb d_Sm_pivot_9 (by decide) ?_
  refine lv_istore (lv' := [(5, .int 0), (3, .double (vq0_table x1.toNatClampNeg x2.toNatClampNeg)), (0, .ref q0), (1, .int x1), (2, .int x2)]) hx hb d_Sm_pivot_10 hl (by decide) rfl (fun ls hl => ?_)
  exact L12 vq0_table vq0_right vq0_basic x1 x2 (vq0_table x1.toNatClampNeg x2.toNatClampNeg) 0 H locs ls hP hD hS (lv_sub hl [2, 3, 4, 1, 0] rfl) h
theorem d_Sm_isOvergrown_0 : decode prog_7_method_13_code 0 = .ok (.iconst 0, 1) := by decide +kernel
theorem d_Sm_isOvergrown_1 : decode prog_7_method_13_code 1 = .ok (.istore_n 1, 1) := by decide +kernel
theorem d_Sm_isOvergrown_2 : decode prog_7_method_13_code 2 = .ok (.iload_n 1, 1) := by decide +kernel
theorem d_Sm_isOvergrown_3 : decode prog_7_method_13_code 3 = .ok (.aload_n 0, 1) := by decide +kernel
theorem d_Sm_isOvergrown_4 : decode prog_7_method_13_code 4 = .ok (.getfield 41, 3) := by decide +kernel
theorem d_Sm_isOvergrown_7 : decode prog_7_method_13_code 7 = .ok (.if_icmp .ge 31, 3) := by decide +kernel
theorem d_Sm_isOvergrown_10 : decode prog_7_method_13_code 10 = .ok (.aload_n 0, 1) := by decide +kernel
theorem d_Sm_isOvergrown_11 : decode prog_7_method_13_code 11 = .ok (.getfield 27, 3) := by decide +kernel
theorem d_Sm_isOvergrown_14 : decode prog_7_method_13_code 14 = .ok (.iload_n 1, 1) := by decide +kernel
theorem d_Sm_isOvergrown_15 : decode prog_7_method_13_code 15 = .ok (.aaload, 1) := by decide +kernel
theorem d_Sm_isOvergrown_16 : decode prog_7_method_13_code 16 = .ok (.aload_n 0, 1) := by decide +kernel
theorem d_Sm_isOvergrown_17 : decode prog_7_method_13_code 17 = .ok (.getfield 48, 3) := by decide +kernel
theorem d_Sm_isOvergrown_20 : decode prog_7_method_13_code 20 = .ok (.invokestatic 137, 3) := by decide +kernel
theorem d_Sm_isOvergrown_23 : decode prog_7_method_13_code 23 = .ok (.ldc2_w 141, 3) := by decide +kernel
theorem d_Sm_isOvergrown_26 : decode prog_7_method_13_code 26 = .ok (.dcmp .l, 1) := by decide +kernel
theorem d_Sm_isOvergrown_27 : decode prog_7_method_13_code 27 = .ok (.ifCond .le 5, 3) := by decide +kernel
theorem d_Sm_isOvergrown_30 : decode prog_7_method_13_code 30 = .ok (.iconst 1, 1) := by decide +kernel
theorem d_Sm_isOvergrown_31 : decode prog_7_method_13_code 31 = .ok (.ireturn, 1) := by decide +kernel
theorem d_Sm_isOvergrown_32 : decode prog_7_method_13_code 32 = .ok (.iinc 1 1, 3) := by decide +kernel
theorem d_Sm_isOvergrown_35 : decode prog_7_method_13_code 35 = .ok (.goto (-33), 3) := by decide +kernel
theorem d_Sm_isOvergrown_38 : decode prog_7_method_13_code 38 = .ok (.aload_n 0, 1) := by decide +kernel
theorem d_Sm_isOvergrown_39 : decode prog_7_method_13_code 39 = .ok (.getfield 30, 3) := by decide +kernel
theorem d_Sm_isOvergrown_42 : decode prog_7_method_13_code 42 = .ok (.aload_n 0, 1) := by decide +kernel
theorem d_Sm_isOvergrown_43 : decode prog_7_method_13_code 43 = .ok (.getfield 41, 3) := by decide +kernel
theorem d_Sm_isOvergrown_46 : decode prog_7_method_13_code 46 = .ok (.invokestatic 137, 3) := by decide +kernel
theorem d_Sm_isOvergrown_49 : decode prog_7_method_13_code 49 = .ok (.ldc2_w 141, 3) := by decide +kernel
theorem d_Sm_isOvergrown_52 : decode prog_7_method_13_code 52 = .ok (.dcmp .l, 1) := by decide +kernel
theorem d_Sm_isOvergrown_53 : decode prog_7_method_13_code 53 = .ok (.ifCond .le 7, 3) := by decide +kernel
theorem d_Sm_isOvergrown_56 : decode prog_7_method_13_code 56 = .ok (.iconst 1, 1) := by decide +kernel
theorem d_Sm_isOvergrown_57 : decode prog_7_method_13_code 57 = .ok (.goto 4, 3) := by decide +kernel
theorem d_Sm_isOvergrown_60 : decode prog_7_method_13_code 60 = .ok (.iconst 0, 1) := by decide +kernel
theorem d_Sm_isOvergrown_61 : decode prog_7_method_13_code 61 = .ok (.ireturn, 1) := by decide +kernel
abbrev w_Sm_isOvergrown (T : Nat → ClassId) (q0 : Nat) (q0_problem : Nat) (q0_point : Nat) (q0_table : Nat) (q0_right : Nat) (q0_cost : Nat) (q0_basic : Nat) (Rq0_table : Nat → Nat) (vq0_rows : Int32) (vq0_variables : Int32) (vq0_columns : Int32) (vq0_stepsDone : Int32) (vq0_table : Nat → Nat → UInt64) (vq0_right : Nat → UInt64) : va_W := [(q0, .inr (6, [.ref q0_problem, .ref q0_point, .ref q0_table, .ref q0_right, .ref q0_cost, .ref q0_basic, .int vq0_rows, .int vq0_variables, .int vq0_columns, .int vq0_stepsDone])), (q0_table, .inl (T 3, 5, .inr (.inr (.inr (.inr (fun i => some (Rq0_table i))))))), (Rq0_table 0, .inl (T 0, 13, .inr (.inr (.inr (.inl (vq0_table 0)))))), (Rq0_table 1, .inl (T 0, 13, .inr (.inr (.inr (.inl (vq0_table 1)))))), (Rq0_table 2, .inl (T 0, 13, .inr (.inr (.inr (.inl (vq0_table 2)))))), (Rq0_table 3, .inl (T 0, 13, .inr (.inr (.inr (.inl (vq0_table 3)))))), (Rq0_table 4, .inl (T 0, 13, .inr (.inr (.inr (.inl (vq0_table 4)))))), (q0_right, .inl (T 0, 5, .inr (.inr (.inr (.inl vq0_right)))))]
def s_Sm_isOvergrown_B2 (vq0_rows : Int32) (vq0_variables : Int32) (vq0_columns : Int32) (vq0_stepsDone : Int32) (vq0_table : Nat → Nat → UInt64) (vq0_right : Nat → UInt64) (x1 : Int32) : Option ((Int32) ⊕ ((Unit) ⊕ (Int32))) :=
  if vq0_rows ≤ x1 then (some (.inr (.inl ()))) else (gd (inb x1 5) <| (s_C_greatestOf 13 (vq0_table x1.toNatClampNeg) vq0_columns).bind fun u3 => if (Op.cmpValue (FP.dcmp u3 4786511204640096256) .l) ≤ 0 then (some (.inl (x1 + 1))) else (gd (isb 1) <| some (.inr (.inr 1))))
def s_Sm_isOvergrown_L2 (vq0_rows : Int32) (vq0_variables : Int32) (vq0_columns : Int32) (vq0_stepsDone : Int32) (vq0_table : Nat → Nat → UInt64) (vq0_right : Nat → UInt64) (x1 : Int32) : Option (Int32) :=
  (loopO (fun (st : Int32) => s_Sm_isOvergrown_B2 vq0_rows vq0_variables vq0_columns vq0_stepsDone vq0_table vq0_right st) 2000 x1).bind fun u2 => Sum.elim (fun w2 => (s_C_greatestOf 5 vq0_right vq0_rows).bind fun u7 => if (Op.cmpValue (FP.dcmp u7 4786511204640096256) .l) ≤ 0 then (gd (isb 0) <| some 0) else (gd (isb 1) <| some 1)) (fun w2 => some w2) u2
def s_Sm_isOvergrown (vq0_rows : Int32) (vq0_variables : Int32) (vq0_columns : Int32) (vq0_stepsDone : Int32) (vq0_table : Nat → Nat → UInt64) (vq0_right : Nat → UInt64) : Option (Int32) :=
  s_Sm_isOvergrown_L2 vq0_rows vq0_variables vq0_columns vq0_stepsDone vq0_table vq0_right 0
set_option maxHeartbeats 4000000 in
set_option maxRecDepth 100000 in
theorem c_Sm_isOvergrown (l : Launch) (D : va_G) (T : Nat → ClassId) (q0 : Nat) (q0_problem : Nat) (q0_point : Nat) (q0_table : Nat) (q0_right : Nat) (q0_cost : Nat) (q0_basic : Nat) (Rq0_table : Nat → Nat) (vq0_rows : Int32) (vq0_variables : Int32) (vq0_columns : Int32) (vq0_stepsDone : Int32) (vq0_table : Nat → Nat → UInt64) (vq0_right : Nat → UInt64) (rm : Int32) (h : s_Sm_isOvergrown vq0_rows vq0_variables vq0_columns vq0_stepsDone vq0_table vq0_right = some rm) : CtI l y_Sm_isOvergrown (Cond.code y_Sm_isOvergrown prog_7_method_13_code 2 (some .boolean) :: BIG) 2 47 D T [.ref q0] (w_Sm_isOvergrown T q0 q0_problem q0_point q0_table q0_right q0_cost q0_basic Rq0_table vq0_rows vq0_variables vq0_columns vq0_stepsDone vq0_table vq0_right) (fun r => r) (fun r => (w_Sm_isOvergrown T q0 q0_problem q0_point q0_table q0_right q0_cost q0_basic Rq0_table vq0_rows vq0_variables vq0_columns vq0_stepsDone vq0_table vq0_right)) rm := by
  refine cf_entry (y := y_Sm_isOvergrown) (cc := prog_7_method_13_code) (nL := 2) (ret := (some .boolean)) (fr := 2) (lo := 47) (T := T) (av := [.ref q0]) (w := (w_Sm_isOvergrown T q0 q0_problem q0_point q0_table q0_right q0_cost q0_basic Rq0_table vq0_rows vq0_variables vq0_columns vq0_stepsDone vq0_table vq0_right)) (Qc := cfQi D (fun r => r) (fun r => (w_Sm_isOvergrown T q0 q0_problem q0_point q0_table q0_right q0_cost q0_basic Rq0_table vq0_rows vq0_variables vq0_columns vq0_stepsDone vq0_table vq0_right)) rm) (by decide) rfl (Nat.le_of_ble_eq_true rfl) ?_
  intro p e s m args below meth c A Q H locs ls hx hb hr hlocks hml hown hts hNW hK hA hQ hP hD hS hl
  have hown : s.vm.findClass "ConeForge$SimplexMethod" = some m.cls := hown
  have hl : lv_has ls 2 [(0, .ref q0)] := hl
  have L2 : ∀ (x1 : Int32), ∀ (H : Heap) (locs : List Loc) (ls : Array Slot), va_P D CL (w_Sm_isOvergrown T q0 q0_problem q0_point q0_table q0_right q0_cost q0_basic Rq0_table vq0_rows vq0_variables vq0_columns vq0_stepsDone vq0_table vq0_right) H → va_D A (w_Sm_isOvergrown T q0 q0_problem q0_point q0_table q0_right q0_cost q0_basic Rq0_table vq0_rows vq0_variables vq0_columns vq0_stepsDone vq0_table vq0_right) → va_S A s.heap H locs → lv_has ls 2 [(0, .ref q0), (1, .int x1)] → s_Sm_isOvergrown_L2 vq0_rows vq0_variables vq0_columns vq0_stepsDone vq0_table vq0_right x1 = some rm → W p l e (rmk 2 47) s m args below meth c H locs 0 0 Q (F0 m 2 ls []) := by
    intro x1 H locs ls hP hD hS hl h
    unfold s_Sm_isOvergrown_L2 at h
    obtain ⟨u2, hu2, h⟩ := bi_some h
    refine loopO_W (Wh := fun (st : Int32) => ∀ (H : Heap) (locs : List Loc) (ls : Array Slot), va_P D CL (w_Sm_isOvergrown T q0 q0_problem q0_point q0_table q0_right q0_cost q0_basic Rq0_table vq0_rows vq0_variables vq0_columns vq0_stepsDone vq0_table vq0_right) H → va_D A (w_Sm_isOvergrown T q0 q0_problem q0_point q0_table q0_right q0_cost q0_basic Rq0_table vq0_rows vq0_variables vq0_columns vq0_stepsDone vq0_table vq0_right) → va_S A s.heap H locs → lv_has ls 2 [(0, .ref q0), (1, .int st)] → W p l e (rmk 2 47) s m args below meth c H locs 0 0 Q (F0 m 2 ls [])) (Wx := fun (e0 : (Unit) ⊕ (Int32)) => Sum.elim (fun (e1 : Unit) => ∀ (H : Heap) (locs : List Loc) (ls : Array Slot), va_P D CL (w_Sm_isOvergrown T q0 q0_problem q0_point q0_table q0_right q0_cost q0_basic Rq0_table vq0_rows vq0_variables vq0_columns vq0_stepsDone vq0_table vq0_right) H → va_D A (w_Sm_isOvergrown T q0 q0_problem q0_point q0_table q0_right q0_cost q0_basic Rq0_table vq0_rows vq0_variables vq0_columns vq0_stepsDone vq0_table vq0_right) → va_S A s.heap H locs → lv_has ls 2 [(0, .ref q0)] → W p l e (rmk 2 47) s m args below meth c H locs 0 0 Q (F0 m 38 ls [])) (fun e2 => e2 = rm) e0) ?_ 2000 _ u2 hu2 ?_ H locs ls hP hD hS hl
    · intro st rb2 h kc2 kx2 H locs ls hP hD hS hl
      obtain ⟨x1, rfl⟩ : ∃ z, z = st := ⟨_, rfl⟩
      have h : s_Sm_isOvergrown_B2 vq0_rows vq0_variables vq0_columns vq0_stepsDone vq0_table vq0_right x1 = some rb2 := h
      unfold s_Sm_isOvergrown_B2 at h
      refine lv_iload_n hx hb d_Sm_isOvergrown_2 rfl (lv_at hl 1 rfl) ?_
      refine lv_aload_n hx hb d_Sm_isOvergrown_3 rfl (lv_at hl 0 rfl) ?_
      refine va_get (D := D) (ci := 6) (v := .int vq0_rows) (C := "ConeForge$SimplexMethod") (T := FSm) (N := 10) hx hb hts iSm hown hK hP 0 rfl rfl 6 (by decide) (hts _ (bgc bw246)) (fun _ h9 => h9) rfl d_Sm_isOvergrown_4 ?_
      refine lv_icmp_ge (tgt := 38) hx hb d_Sm_isOvergrown_7 (by decide) (fun c1 => ?_) (fun c1 => ?_)
      · have h := it_t c1 h
        exact kx2 _ (Option.some.inj h).symm H locs ls hP hD hS (lv_sub hl [0] rfl)
      · have h := it_f c1 h
        refine lv_aload_n hx hb d_Sm_isOvergrown_10 rfl (lv_at hl 0 rfl) ?_
        refine va_get (D := D) (ci := 6) (v := .ref q0_table) (C := "ConeForge$SimplexMethod") (T := FSm) (N := 10) hx hb hts iSm hown hK hP 0 rfl rfl 2 (by decide) (hts _ (bgc bw242)) (fun _ h9 => h9) rfl d_Sm_isOvergrown_11 ?_
        refine lv_iload_n hx hb d_Sm_isOvergrown_14 rfl (lv_at hl 1 rfl) ?_
        obtain ⟨g2, h⟩ := gd_some h
        refine va_aldg (f := Rq0_table) hx hb hK hP 1 3 rfl rfl (inb_in g2) d_Sm_isOvergrown_15 ?_
        refine lv_aload_n hx hb d_Sm_isOvergrown_16 rfl (lv_at hl 0 rfl) ?_
        refine va_get (D := D) (ci := 6) (v := .int vq0_columns) (C := "ConeForge$SimplexMethod") (T := FSm) (N := 10) hx hb hts iSm hown hK hP 0 rfl rfl 8 (by decide) (hts _ (bgc bw248)) (fun _ h9 => h9) rfl d_Sm_isOvergrown_17 ?_
        obtain ⟨u3, hu3, h⟩ := bi_some h
        refine kD (v := u3) (wc := (w_C_greatestOf T (Rq0_table x1.toNatClampNeg) 13 (vq0_table x1.toNatClampNeg))) (wc' := (w_C_greatestOf T (Rq0_table x1.toNatClampNeg) 13 (vq0_table x1.toNatClampNeg))) (runNS (As := [.ref (Rq0_table x1.toNatClampNeg), .int vq0_columns]) (rest := []) ((c_C_greatestOf l D T (Rq0_table x1.toNatClampNeg) 13 (vq0_table x1.toNatClampNeg) vq0_columns u3 hu3) H.size) ⟨hx, hb, hml, hown, hts⟩ (cwNS nw72 bw301 bw97 bw302 dd_C_greatestOf hts hNW ⟨Nat.le_of_ble_eq_true rfl, Nat.le_of_ble_eq_true rfl⟩)  hNW hK hP hD [2 + x1.toNatClampNeg] (congrArg (fun z => [z]) (gk5 (P := fun k => (w_Sm_isOvergrown T q0 q0_problem q0_point q0_table q0_right q0_cost q0_basic Rq0_table vq0_rows vq0_variables vq0_columns vq0_stepsDone vq0_table vq0_right)[2 + k]? = some (Rq0_table k, .inl (T 0, 13, .inr (.inr (.inr (.inl (vq0_table k))))))) rfl rfl rfl rfl rfl _ (inb_lt g2))) rfl rfl hl.1 rfl (lv_room (Nat.le_of_ble_eq_true rfl)) d_Sm_isOvergrown_20 ⟨Nat.le_of_ble_eq_true rfl, Nat.le_of_ble_eq_true rfl⟩) hP hD hS hA [2 + x1.toNatClampNeg] (congrArg (fun z => [z]) (gk5 (P := fun k => (w_Sm_isOvergrown T q0 q0_problem q0_point q0_table q0_right q0_cost q0_basic Rq0_table vq0_rows vq0_variables vq0_columns vq0_stepsDone vq0_table vq0_right)[2 + k]? = some (Rq0_table k, .inl (T 0, 13, .inr (.inr (.inr (.inl (vq0_table k))))))) rfl rfl rfl rfl rfl _ (inb_lt g2))) rfl (fun H locs hP hD hS => ?_)
        have e4 : (w_Sm_isOvergrown T q0 q0_problem q0_point q0_table q0_right q0_cost q0_basic Rq0_table vq0_rows vq0_variables vq0_columns vq0_stepsDone vq0_table vq0_right).set (2 + x1.toNatClampNeg) (Rq0_table x1.toNatClampNeg, .inl (T 0, 13, .inr (.inr (.inr (.inl (vq0_table x1.toNatClampNeg)))))) = (w_Sm_isOvergrown T q0 q0_problem q0_point q0_table q0_right q0_cost q0_basic Rq0_table vq0_rows vq0_variables vq0_columns vq0_stepsDone vq0_table vq0_right) := gk5 (P := fun k => (w_Sm_isOvergrown T q0 q0_problem q0_point q0_table q0_right q0_cost q0_basic Rq0_table vq0_rows vq0_variables vq0_columns vq0_stepsDone vq0_table vq0_right).set (2 + k) (Rq0_table k, .inl (T 0, 13, .inr (.inr (.inr (.inl (vq0_table k)))))) = (w_Sm_isOvergrown T q0 q0_problem q0_point q0_table q0_right q0_cost q0_basic Rq0_table vq0_rows vq0_variables vq0_columns vq0_stepsDone vq0_table vq0_right)) rfl rfl rfl rfl rfl _ (inb_lt g2)
        have hP : va_P D CL (w_Sm_isOvergrown T q0 q0_problem q0_point q0_table q0_right q0_cost q0_basic Rq0_table vq0_rows vq0_variables vq0_columns vq0_stepsDone vq0_table vq0_right) H := e4 ▸ hP
        have hD : va_D A (w_Sm_isOvergrown T q0 q0_problem q0_point q0_table q0_right q0_cost q0_basic Rq0_table vq0_rows vq0_variables vq0_columns vq0_stepsDone vq0_table vq0_right) := e4 ▸ hD
        refine lv_ldc2d (v := 4786511204640096256) hx hb hown (hts _ (bgc bw365)) d_Sm_isOvergrown_23 ?_
        refine lv_dcmp hx hb d_Sm_isOvergrown_26 ?_
        refine lv_if_le (tgt := 32) hx hb d_Sm_isOvergrown_27 (by decide) (fun c5 => ?_) (fun c5 => ?_)
        · have h := it_t c5 h
          refine lv_iinc (v := x1 + 1) (lv' := [(1, .int (x1 + 1)), (0, .ref q0)]) hx hb d_Sm_isOvergrown_32 hl (k := 1) rfl rfl (by decide) rfl (fun ls hl => ?_)
          refine lv_goto (tgt := 2) hx hb d_Sm_isOvergrown_35 (by decide) ?_
          exact kc2 _ (Option.some.inj h).symm H locs ls hP hD hS (lv_sub hl [1, 0] rfl)
        · have h := it_f c5 h
          refine lv_iconst (v := 1) hx hb d_Sm_isOvergrown_30 (by decide) ?_
          obtain ⟨g6, h⟩ := gd_some h
          exact rtZ hx hb hr hlocks g6 hQ (kx2 _ (Option.some.inj h).symm) hP hS d_Sm_isOvergrown_31 rfl rfl
    · cases u2 with
      | inl w2 =>
        intro H locs ls hP hD hS hl
        refine lv_aload_n hx hb d_Sm_isOvergrown_38 rfl (lv_at hl 0 rfl) ?_
        refine va_get (D := D) (ci := 6) (v := .ref q0_right) (C := "ConeForge$SimplexMethod") (T := FSm) (N := 10) hx hb hts iSm hown hK hP 0 rfl rfl 3 (by decide) (hts _ (bgc bw243)) (fun _ h9 => h9) rfl d_Sm_isOvergrown_39 ?_
        refine lv_aload_n hx hb d_Sm_isOvergrown_42 rfl (lv_at hl 0 rfl) ?_
        refine va_get (D := D) (ci := 6) (v := .int vq0_rows) (C := "ConeForge$SimplexMethod") (T := FSm) (N := 10) hx hb hts iSm hown hK hP 0 rfl rfl 6 (by decide) (hts _ (bgc bw246)) (fun _ h9 => h9) rfl d_Sm_isOvergrown_43 ?_
        obtain ⟨u7, hu7, h⟩ := bi_some h
        refine kD (v := u7) (wc := (w_C_greatestOf T q0_right 5 vq0_right)) (wc' := (w_C_greatestOf T q0_right 5 vq0_right)) (runNS (As := [.ref q0_right, .int vq0_rows]) (rest := []) ((c_C_greatestOf l D T q0_right 5 vq0_right vq0_rows u7 hu7) H.size) ⟨hx, hb, hml, hown, hts⟩ (cwNS nw72 bw301 bw97 bw302 dd_C_greatestOf hts hNW ⟨Nat.le_of_ble_eq_true rfl, Nat.le_of_ble_eq_true rfl⟩)  hNW hK hP hD [7] rfl (by decide) rfl hl.1 rfl (lv_room (Nat.le_of_ble_eq_true rfl)) d_Sm_isOvergrown_46 ⟨Nat.le_of_ble_eq_true rfl, Nat.le_of_ble_eq_true rfl⟩) hP hD hS hA [7] rfl rfl (fun H locs hP hD hS => ?_)
        have hP : va_P D CL (w_Sm_isOvergrown T q0 q0_problem q0_point q0_table q0_right q0_cost q0_basic Rq0_table vq0_rows vq0_variables vq0_columns vq0_stepsDone vq0_table vq0_right) H := hP
        have hD : va_D A (w_Sm_isOvergrown T q0 q0_problem q0_point q0_table q0_right q0_cost q0_basic Rq0_table vq0_rows vq0_variables vq0_columns vq0_stepsDone vq0_table vq0_right) := hD
        refine lv_ldc2d (v := 4786511204640096256) hx hb hown (hts _ (bgc bw365)) d_Sm_isOvergrown_49 ?_
        refine lv_dcmp hx hb d_Sm_isOvergrown_52 ?_
        refine lv_if_le (tgt := 60) hx hb d_Sm_isOvergrown_53 (by decide) (fun c8 => ?_) (fun c8 => ?_)
        · have h := it_t c8 h
          refine lv_iconst (v := 0) hx hb d_Sm_isOvergrown_60 (by decide) ?_
          obtain ⟨g9, h⟩ := gd_some h
          exact rtZ hx hb hr hlocks g9 hQ (Option.some.inj h) hP hS d_Sm_isOvergrown_61 rfl rfl
        · have h := it_f c8 h
          refine lv_iconst (v := 1) hx hb d_Sm_isOvergrown_56 (by decide) ?_
          refine lv_goto (tgt := 61) hx hb d_Sm_isOvergrown_57 (by decide) ?_
          obtain ⟨g10, h⟩ := gd_some h
          exact rtZ hx hb hr hlocks g10 hQ (Option.some.inj h) hP hS d_Sm_isOvergrown_61 rfl rfl
      | inr w2 => exact Option.some.inj h
  unfold s_Sm_isOvergrown at h
  refine lv_iconst (v := 0) hx hb d_Sm_isOvergrown_0 (by decide) ?_
  refine lv_istore_n (lv' := [(1, .int 0), (0, .ref q0)]) hx hb d_Sm_isOvergrown_1 rfl hl (by decide) rfl (fun ls hl => ?_)
  exact L2 0 H locs ls hP hD hS (lv_sub hl [1, 0] rfl) h
theorem d_Sm_runPhase_0 : decode prog_7_method_6_code 0 = .ok (.iconst 0, 1) := by decide +kernel
theorem d_Sm_runPhase_1 : decode prog_7_method_6_code 1 = .ok (.istore_n 2, 1) := by decide +kernel
theorem d_Sm_runPhase_2 : decode prog_7_method_6_code 2 = .ok (.iload_n 2, 1) := by decide +kernel
theorem d_Sm_runPhase_3 : decode prog_7_method_6_code 3 = .ok (.sipush 200, 3) := by decide +kernel
theorem d_Sm_runPhase_6 : decode prog_7_method_6_code 6 = .ok (.if_icmp .gt 79, 3) := by decide +kernel
theorem d_Sm_runPhase_9 : decode prog_7_method_6_code 9 = .ok (.aload_n 0, 1) := by decide +kernel
theorem d_Sm_runPhase_10 : decode prog_7_method_6_code 10 = .ok (.invokevirtual 98, 3) := by decide +kernel
theorem d_Sm_runPhase_13 : decode prog_7_method_6_code 13 = .ok (.istore_n 3, 1) := by decide +kernel
theorem d_Sm_runPhase_14 : decode prog_7_method_6_code 14 = .ok (.iload_n 3, 1) := by decide +kernel
theorem d_Sm_runPhase_15 : decode prog_7_method_6_code 15 = .ok (.ifCond .ge 6, 3) := by decide +kernel
theorem d_Sm_runPhase_18 : decode prog_7_method_6_code 18 = .ok (.bipush 6, 2) := by decide +kernel
theorem d_Sm_runPhase_20 : decode prog_7_method_6_code 20 = .ok (.ireturn, 1) := by decide +kernel
theorem d_Sm_runPhase_21 : decode prog_7_method_6_code 21 = .ok (.aload_n 0, 1) := by decide +kernel
theorem d_Sm_runPhase_22 : decode prog_7_method_6_code 22 = .ok (.iload_n 3, 1) := by decide +kernel
theorem d_Sm_runPhase_23 : decode prog_7_method_6_code 23 = .ok (.iload_n 1, 1) := by decide +kernel
theorem d_Sm_runPhase_24 : decode prog_7_method_6_code 24 = .ok (.invokevirtual 102, 3) := by decide +kernel
theorem d_Sm_runPhase_27 : decode prog_7_method_6_code 27 = .ok (.istore 4, 2) := by decide +kernel
theorem d_Sm_runPhase_29 : decode prog_7_method_6_code 29 = .ok (.iload 4, 2) := by decide +kernel
theorem d_Sm_runPhase_31 : decode prog_7_method_6_code 31 = .ok (.ifCond .ge 10, 3) := by decide +kernel
theorem d_Sm_runPhase_34 : decode prog_7_method_6_code 34 = .ok (.aload_n 0, 1) := by decide +kernel
theorem d_Sm_runPhase_35 : decode prog_7_method_6_code 35 = .ok (.iload_n 3, 1) := by decide +kernel
theorem d_Sm_runPhase_36 : decode prog_7_method_6_code 36 = .ok (.invokevirtual 106, 3) := by decide +kernel
theorem d_Sm_runPhase_39 : decode prog_7_method_6_code 39 = .ok (.iconst 2, 1) := by decide +kernel
theorem d_Sm_runPhase_40 : decode prog_7_method_6_code 40 = .ok (.ireturn, 1) := by decide +kernel
theorem d_Sm_runPhase_41 : decode prog_7_method_6_code 41 = .ok (.aload_n 0, 1) := by decide +kernel
theorem d_Sm_runPhase_42 : decode prog_7_method_6_code 42 = .ok (.getfield 51, 3) := by decide +kernel
theorem d_Sm_runPhase_45 : decode prog_7_method_6_code 45 = .ok (.sipush 200, 3) := by decide +kernel
theorem d_Sm_runPhase_48 : decode prog_7_method_6_code 48 = .ok (.if_icmp .lt 5, 3) := by decide +kernel
theorem d_Sm_runPhase_51 : decode prog_7_method_6_code 51 = .ok (.iconst 3, 1) := by decide +kernel
theorem d_Sm_runPhase_52 : decode prog_7_method_6_code 52 = .ok (.ireturn, 1) := by decide +kernel
theorem d_Sm_runPhase_53 : decode prog_7_method_6_code 53 = .ok (.aload_n 0, 1) := by decide +kernel
theorem d_Sm_runPhase_54 : decode prog_7_method_6_code 54 = .ok (.iload 4, 2) := by decide +kernel
theorem d_Sm_runPhase_56 : decode prog_7_method_6_code 56 = .ok (.iload_n 3, 1) := by decide +kernel
theorem d_Sm_runPhase_57 : decode prog_7_method_6_code 57 = .ok (.invokevirtual 110, 3) := by decide +kernel
theorem d_Sm_runPhase_60 : decode prog_7_method_6_code 60 = .ok (.aload_n 0, 1) := by decide +kernel
theorem d_Sm_runPhase_61 : decode prog_7_method_6_code 61 = .ok (.dup, 1) := by decide +kernel
theorem d_Sm_runPhase_62 : decode prog_7_method_6_code 62 = .ok (.getfield 51, 3) := by decide +kernel
theorem d_Sm_runPhase_65 : decode prog_7_method_6_code 65 = .ok (.iconst 1, 1) := by decide +kernel
theorem d_Sm_runPhase_66 : decode prog_7_method_6_code 66 = .ok (.iadd, 1) := by decide +kernel
theorem d_Sm_runPhase_67 : decode prog_7_method_6_code 67 = .ok (.putfield 51, 3) := by decide +kernel
theorem d_Sm_runPhase_70 : decode prog_7_method_6_code 70 = .ok (.aload_n 0, 1) := by decide +kernel
theorem d_Sm_runPhase_71 : decode prog_7_method_6_code 71 = .ok (.invokevirtual 114, 3) := by decide +kernel
theorem d_Sm_runPhase_74 : decode prog_7_method_6_code 74 = .ok (.ifCond .eq 5, 3) := by decide +kernel
theorem d_Sm_runPhase_77 : decode prog_7_method_6_code 77 = .ok (.iconst 3, 1) := by decide +kernel
theorem d_Sm_runPhase_78 : decode prog_7_method_6_code 78 = .ok (.ireturn, 1) := by decide +kernel
theorem d_Sm_runPhase_79 : decode prog_7_method_6_code 79 = .ok (.iinc 2 1, 3) := by decide +kernel
theorem d_Sm_runPhase_82 : decode prog_7_method_6_code 82 = .ok (.goto (-80), 3) := by decide +kernel
theorem d_Sm_runPhase_85 : decode prog_7_method_6_code 85 = .ok (.iconst 3, 1) := by decide +kernel
theorem d_Sm_runPhase_86 : decode prog_7_method_6_code 86 = .ok (.ireturn, 1) := by decide +kernel
abbrev w_Sm_runPhase (T : Nat → ClassId) (q0 : Nat) (q0_problem : Nat) (q0_point : Nat) (q0_table : Nat) (q0_right : Nat) (q0_cost : Nat) (q0_basic : Nat) (q0_point_x : Nat) (q0_point_s : Nat) (q0_point_y : Nat) (Rq0_table : Nat → Nat) (vq0_rows : Int32) (vq0_variables : Int32) (vq0_columns : Int32) (vq0_stepsDone : Int32) (vq0_point_x : Nat → UInt64) (vq0_table : Nat → Nat → UInt64) (vq0_right : Nat → UInt64) (vq0_cost : Nat → UInt64) (vq0_basic : Nat → Int32) : va_W := [(q0, .inr (6, [.ref q0_problem, .ref q0_point, .ref q0_table, .ref q0_right, .ref q0_cost, .ref q0_basic, .int vq0_rows, .int vq0_variables, .int vq0_columns, .int vq0_stepsDone])), (q0_point, .inr (1, [.ref q0_point_x, .ref q0_point_s, .ref q0_point_y])), (q0_point_x, .inl (T 0, 8, .inr (.inr (.inr (.inl vq0_point_x))))), (q0_table, .inl (T 3, 5, .inr (.inr (.inr (.inr (fun i => some (Rq0_table i))))))), (Rq0_table 0, .inl (T 0, 13, .inr (.inr (.inr (.inl (vq0_table 0)))))), (Rq0_table 1, .inl (T 0, 13, .inr (.inr (.inr (.inl (vq0_table 1)))))), (Rq0_table 2, .inl (T 0, 13, .inr (.inr (.inr (.inl (vq0_table 2)))))), (Rq0_table 3, .inl (T 0, 13, .inr (.inr (.inr (.inl (vq0_table 3)))))), (Rq0_table 4, .inl (T 0, 13, .inr (.inr (.inr (.inl (vq0_table 4)))))), (q0_right, .inl (T 0, 5, .inr (.inr (.inr (.inl vq0_right))))), (q0_cost, .inl (T 0, 13, .inr (.inr (.inr (.inl vq0_cost))))), (q0_basic, .inl (T 1, 5, .inl vq0_basic))]
def s_Sm_runPhase_B2 (vq0_rows : Int32) (vq0_variables : Int32) (vq0_columns : Int32) (vq0_point_x : Nat → UInt64) (vq0_cost : Nat → UInt64) (x1 : Int32) (vq0_stepsDone : Int32) (vq0_table : Nat → Nat → UInt64) (vq0_right : Nat → UInt64) (vq0_basic : Nat → Int32) (x2 : Int32) : Option ((Int32 × (Nat → Nat → UInt64) × (Nat → UInt64) × (Nat → Int32) × Int32) ⊕ ((Int32 × (Nat → Nat → UInt64) × (Nat → UInt64) × (Nat → Int32)) ⊕ (Int32 × Int32 × (Nat → UInt64) × (Nat → Nat → UInt64) × (Nat → UInt64) × (Nat → Int32)))) :=
  if 200 < x2 then (some (.inr (.inl (vq0_stepsDone, vq0_table, vq0_right, vq0_basic)))) else ((s_Sm_incoming vq0_rows vq0_variables vq0_columns vq0_stepsDone vq0_table vq0_cost vq0_basic).bind fun u2 => if 0 ≤ u2 then ((s_Sm_outgoing vq0_rows vq0_variables vq0_columns vq0_stepsDone vq0_table vq0_right vq0_basic u2 x1).bind fun u4 => if 0 ≤ u4 then (if vq0_stepsDone < 200 then ((s_Sm_pivot vq0_rows vq0_variables vq0_columns vq0_stepsDone vq0_table vq0_right vq0_basic u4 u2).bind fun u7 => (s_Sm_isOvergrown vq0_rows vq0_variables vq0_columns (vq0_stepsDone + 1) u7.1 u7.2.1).bind fun u8 => if u8 = 0 then (some (.inl (vq0_stepsDone + 1, u7.1, u7.2.1, u7.2.2, x2 + 1))) else (some (.inr (.inr (3, vq0_stepsDone + 1, vq0_point_x, u7.1, u7.2.1, u7.2.2))))) else (some (.inr (.inr (3, vq0_stepsDone, vq0_point_x, vq0_table, vq0_right, vq0_basic))))) else ((s_Sm_tellRay vq0_rows vq0_variables vq0_columns vq0_stepsDone vq0_point_x vq0_table vq0_basic u2).bind fun u10 => some (.inr (.inr (2, vq0_stepsDone, u10, vq0_table, vq0_right, vq0_basic))))) else (some (.inr (.inr (6, vq0_stepsDone, vq0_point_x, vq0_table, vq0_right, vq0_basic)))))
def s_Sm_runPhase_L2 (vq0_rows : Int32) (vq0_variables : Int32) (vq0_columns : Int32) (vq0_stepsDone : Int32) (vq0_point_x : Nat → UInt64) (vq0_table : Nat → Nat → UInt64) (vq0_right : Nat → UInt64) (vq0_cost : Nat → UInt64) (vq0_basic : Nat → Int32) (x1 : Int32) (x2 : Int32) : Option (Int32 × Int32 × (Nat → UInt64) × (Nat → Nat → UInt64) × (Nat → UInt64) × (Nat → Int32)) :=
  (loopO (fun (st : Int32 × (Nat → Nat → UInt64) × (Nat → UInt64) × (Nat → Int32) × Int32) => s_Sm_runPhase_B2 vq0_rows vq0_variables vq0_columns vq0_point_x vq0_cost x1 st.1 st.2.1 st.2.2.1 st.2.2.2.1 st.2.2.2.2) 2000 (vq0_stepsDone, vq0_table, vq0_right, vq0_basic, x2)).bind fun u2 => Sum.elim (fun w2 => some (3, w2.1, vq0_point_x, w2.2.1, w2.2.2.1, w2.2.2.2)) (fun w2 => some w2) u2
def s_Sm_runPhase (vq0_rows : Int32) (vq0_variables : Int32) (vq0_columns : Int32) (vq0_stepsDone : Int32) (vq0_point_x : Nat → UInt64) (vq0_table : Nat → Nat → UInt64) (vq0_right : Nat → UInt64) (vq0_cost : Nat → UInt64) (vq0_basic : Nat → Int32) (x1 : Int32) : Option (Int32 × Int32 × (Nat → UInt64) × (Nat → Nat → UInt64) × (Nat → UInt64) × (Nat → Int32)) :=
  s_Sm_runPhase_L2 vq0_rows vq0_variables vq0_columns vq0_stepsDone vq0_point_x vq0_table vq0_right vq0_cost vq0_basic x1 0
set_option maxHeartbeats 4000000 in
set_option maxRecDepth 100000 in
theorem c_Sm_runPhase (l : Launch) (D : va_G) (T : Nat → ClassId) (q0 : Nat) (q0_problem : Nat) (q0_point : Nat) (q0_table : Nat) (q0_right : Nat) (q0_cost : Nat) (q0_basic : Nat) (q0_point_x : Nat) (q0_point_s : Nat) (q0_point_y : Nat) (Rq0_table : Nat → Nat) (vq0_rows : Int32) (vq0_variables : Int32) (vq0_columns : Int32) (vq0_stepsDone : Int32) (vq0_point_x : Nat → UInt64) (vq0_table : Nat → Nat → UInt64) (vq0_right : Nat → UInt64) (vq0_cost : Nat → UInt64) (vq0_basic : Nat → Int32) (x1 : Int32) (rm : Int32 × Int32 × (Nat → UInt64) × (Nat → Nat → UInt64) × (Nat → UInt64) × (Nat → Int32)) (h : s_Sm_runPhase vq0_rows vq0_variables vq0_columns vq0_stepsDone vq0_point_x vq0_table vq0_right vq0_cost vq0_basic x1 = some rm) : CtI l y_Sm_runPhase (Cond.code y_Sm_runPhase prog_7_method_6_code 5 (some .int) :: BIG) 3 68 D T [.ref q0, .int x1] (w_Sm_runPhase T q0 q0_problem q0_point q0_table q0_right q0_cost q0_basic q0_point_x q0_point_s q0_point_y Rq0_table vq0_rows vq0_variables vq0_columns vq0_stepsDone vq0_point_x vq0_table vq0_right vq0_cost vq0_basic) (fun r => r.1) (fun r => (w_Sm_runPhase T q0 q0_problem q0_point q0_table q0_right q0_cost q0_basic q0_point_x q0_point_s q0_point_y Rq0_table vq0_rows vq0_variables vq0_columns r.2.1 r.2.2.1 r.2.2.2.1 r.2.2.2.2.1 vq0_cost r.2.2.2.2.2)) rm := by
  refine cf_entry (y := y_Sm_runPhase) (cc := prog_7_method_6_code) (nL := 5) (ret := (some .int)) (fr := 3) (lo := 68) (T := T) (av := [.ref q0, .int x1]) (w := (w_Sm_runPhase T q0 q0_problem q0_point q0_table q0_right q0_cost q0_basic q0_point_x q0_point_s q0_point_y Rq0_table vq0_rows vq0_variables vq0_columns vq0_stepsDone vq0_point_x vq0_table vq0_right vq0_cost vq0_basic)) (Qc := cfQi D (fun r => r.1) (fun r => (w_Sm_runPhase T q0 q0_problem q0_point q0_table q0_right q0_cost q0_basic q0_point_x q0_point_s q0_point_y Rq0_table vq0_rows vq0_variables vq0_columns r.2.1 r.2.2.1 r.2.2.2.1 r.2.2.2.2.1 vq0_cost r.2.2.2.2.2)) rm) (by decide) rfl (Nat.le_of_ble_eq_true rfl) ?_
  intro p e s m args below meth c A Q H locs ls hx hb hr hlocks hml hown hts hNW hK hA hQ hP hD hS hl
  have hown : s.vm.findClass "ConeForge$SimplexMethod" = some m.cls := hown
  have hl : lv_has ls 5 [(0, .ref q0), (1, .int x1)] := hl
  have L2 : ∀ (vq0_stepsDone : Int32) (vq0_point_x : Nat → UInt64) (vq0_table : Nat → Nat → UInt64) (vq0_right : Nat → UInt64) (vq0_basic : Nat → Int32) (x1 : Int32) (x2 : Int32), ∀ (H : Heap) (locs : List Loc) (ls : Array Slot), va_P D CL (w_Sm_runPhase T q0 q0_problem q0_point q0_table q0_right q0_cost q0_basic q0_point_x q0_point_s q0_point_y Rq0_table vq0_rows vq0_variables vq0_columns vq0_stepsDone vq0_point_x vq0_table vq0_right vq0_cost vq0_basic) H → va_D A (w_Sm_runPhase T q0 q0_problem q0_point q0_table q0_right q0_cost q0_basic q0_point_x q0_point_s q0_point_y Rq0_table vq0_rows vq0_variables vq0_columns vq0_stepsDone vq0_point_x vq0_table vq0_right vq0_cost vq0_basic) → va_S A s.heap H locs → lv_has ls 5 [(0, .ref q0), (1, .int x1), (2, .int x2)] → s_Sm_runPhase_L2 vq0_rows vq0_variables vq0_columns vq0_stepsDone vq0_point_x vq0_table vq0_right vq0_cost vq0_basic x1 x2 = some rm → W p l e (rmk 3 68) s m args below meth c H locs 0 0 Q (F0 m 2 ls []) := by
    intro vq0_stepsDone vq0_point_x vq0_table vq0_right vq0_basic x1 x2 H locs ls hP hD hS hl h
    unfold s_Sm_runPhase_L2 at h
    obtain ⟨u2, hu2, h⟩ := bi_some h
    refine loopO_W (Wh := fun (st : Int32 × (Nat → Nat → UInt64) × (Nat → UInt64) × (Nat → Int32) × Int32) => ∀ (H : Heap) (locs : List Loc) (ls : Array Slot), va_P D CL (w_Sm_runPhase T q0 q0_problem q0_point q0_table q0_right q0_cost q0_basic q0_point_x q0_point_s q0_point_y Rq0_table vq0_rows vq0_variables vq0_columns st.1 vq0_point_x st.2.1 st.2.2.1 vq0_cost st.2.2.2.1) H → va_D A (w_Sm_runPhase T q0 q0_problem q0_point q0_table q0_right q0_cost q0_basic q0_point_x q0_point_s q0_point_y Rq0_table vq0_rows vq0_variables vq0_columns st.1 vq0_point_x st.2.1 st.2.2.1 vq0_cost st.2.2.2.1) → va_S A s.heap H locs → lv_has ls 5 [(0, .ref q0), (1, .int x1), (2, .int st.2.2.2.2)] → W p l e (rmk 3 68) s m args below meth c H locs 0 0 Q (F0 m 2 ls [])) (Wx := fun (e0 : (Int32 × (Nat → Nat → UInt64) × (Nat → UInt64) × (Nat → Int32)) ⊕ (Int32 × Int32 × (Nat → UInt64) × (Nat → Nat → UInt64) × (Nat → UInt64) × (Nat → Int32))) => Sum.elim (fun (e1 : Int32 × (Nat → Nat → UInt64) × (Nat → UInt64) × (Nat → Int32)) => ∀ (H : Heap) (locs : List Loc) (ls : Array Slot), va_P D CL (w_Sm_runPhase T q0 q0_problem q0_point q0_table q0_right q0_cost q0_basic q0_point_x q0_point_s q0_point_y Rq0_table vq0_rows vq0_variables vq0_columns e1.1 vq0_point_x e1.2.1 e1.2.2.1 vq0_cost e1.2.2.2) H → va_D A (w_Sm_runPhase T q0 q0_problem q0_point q0_table q0_right q0_cost q0_basic q0_point_x q0_point_s q0_point_y Rq0_table vq0_rows vq0_variables vq0_columns e1.1 vq0_point_x e1.2.1 e1.2.2.1 vq0_cost e1.2.2.2) → va_S A s.heap H locs → lv_has ls 5 [] → W p l e (rmk 3 68) s m args below meth c H locs 0 0 Q (F0 m 85 ls [])) (fun e2 => e2 = rm) e0) ?_ 2000 _ u2 hu2 ?_ H locs ls hP hD hS hl
    · intro st rb2 h kc2 kx2 H locs ls hP hD hS hl
      obtain ⟨vq0_stepsDone, vq0_table, vq0_right, vq0_basic, x2⟩ := st
      have h : s_Sm_runPhase_B2 vq0_rows vq0_variables vq0_columns vq0_point_x vq0_cost x1 vq0_stepsDone vq0_table vq0_right vq0_basic x2 = some rb2 := h
      unfold s_Sm_runPhase_B2 at h
      refine lv_iload_n hx hb d_Sm_runPhase_2 rfl (lv_at hl 2 rfl) ?_
      refine lv_sipush (v := 200) hx hb d_Sm_runPhase_3 (by decide) ?_
      refine lv_icmp_gt (tgt := 85) hx hb d_Sm_runPhase_6 (by decide) (fun c1 => ?_) (fun c1 => ?_)
      · have h := it_t c1 h
        exact kx2 _ (Option.some.inj h).symm H locs ls hP hD hS (lv_sub hl [] rfl)
      · have h := it_f c1 h
        refine lv_aload_n hx hb d_Sm_runPhase_9 rfl (lv_at hl 0 rfl) ?_
        obtain ⟨u2, hu2, h⟩ := bi_some h
        refine kI (v := u2) (wc := (w_Sm_incoming T q0 q0_problem q0_point q0_table q0_right q0_cost q0_basic Rq0_table vq0_rows vq0_variables vq0_columns vq0_stepsDone vq0_table vq0_cost vq0_basic)) (wc' := (w_Sm_incoming T q0 q0_problem q0_point q0_table q0_right q0_cost q0_basic Rq0_table vq0_rows vq0_variables vq0_columns vq0_stepsDone vq0_table vq0_cost vq0_basic)) (runOV (As := []) (rest := []) ((c_Sm_incoming l D T q0 q0_problem q0_point q0_table q0_right q0_cost q0_basic Rq0_table vq0_rows vq0_variables vq0_columns vq0_stepsDone vq0_table vq0_cost vq0_basic  u2 hu2) H.size) ⟨hx, hb, hml, hown, hts⟩ (cwOV bw339 bw340 bw11 bw104 bw341 dd_Sm_incoming hts ⟨Nat.le_of_ble_eq_true rfl, Nat.le_of_ble_eq_true rfl⟩) (va_recv hK hP (ci := 6) (q0 := 0) rfl rfl) hNW hK hP hD [0, 3, 4, 5, 6, 7, 8, 10, 11] rfl (by decide) rfl hl.1 rfl (lv_room (Nat.le_of_ble_eq_true rfl)) d_Sm_runPhase_10 ⟨Nat.le_of_ble_eq_true rfl, Nat.le_of_ble_eq_true rfl⟩) hP hD hS hA [0, 3, 4, 5, 6, 7, 8, 10, 11] rfl rfl (fun H locs hP hD hS => ?_)
        have hP : va_P D CL (w_Sm_runPhase T q0 q0_problem q0_point q0_table q0_right q0_cost q0_basic q0_point_x q0_point_s q0_point_y Rq0_table vq0_rows vq0_variables vq0_columns vq0_stepsDone vq0_point_x vq0_table vq0_right vq0_cost vq0_basic) H := hP
        have hD : va_D A (w_Sm_runPhase T q0 q0_problem q0_point q0_table q0_right q0_cost q0_basic q0_point_x q0_point_s q0_point_y Rq0_table vq0_rows vq0_variables vq0_columns vq0_stepsDone vq0_point_x vq0_table vq0_right vq0_cost vq0_basic) := hD
        refine lv_istore_n (lv' := [(3, .int u2), (0, .ref q0), (1, .int x1), (2, .int x2)]) hx hb d_Sm_runPhase_13 rfl hl (by decide) rfl (fun ls hl => ?_)
        refine lv_iload_n hx hb d_Sm_runPhase_14 rfl (lv_at hl 0 rfl) ?_
        refine lv_if_ge (tgt := 21) hx hb d_Sm_runPhase_15 (by decide) (fun c3 => ?_) (fun c3 => ?_)
        · have h := it_t c3 h
          refine lv_aload_n hx hb d_Sm_runPhase_21 rfl (lv_at hl 1 rfl) ?_
          refine lv_iload_n hx hb d_Sm_runPhase_22 rfl (lv_at hl 0 rfl) ?_
          refine lv_iload_n hx hb d_Sm_runPhase_23 rfl (lv_at hl 2 rfl) ?_
          obtain ⟨u4, hu4, h⟩ := bi_some h
          refine kI (v := u4) (wc := (w_Sm_outgoing T q0 q0_problem q0_point q0_table q0_right q0_cost q0_basic Rq0_table vq0_rows vq0_variables vq0_columns vq0_stepsDone vq0_table vq0_right vq0_basic)) (wc' := (w_Sm_outgoing T q0 q0_problem q0_point q0_table q0_right q0_cost q0_basic Rq0_table vq0_rows vq0_variables vq0_columns vq0_stepsDone vq0_table vq0_right vq0_basic)) (runOV (As := [.int u2, .int x1]) (rest := []) ((c_Sm_outgoing l D T q0 q0_problem q0_point q0_table q0_right q0_cost q0_basic Rq0_table vq0_rows vq0_variables vq0_columns vq0_stepsDone vq0_table vq0_right vq0_basic u2 x1 u4 hu4) H.size) ⟨hx, hb, hml, hown, hts⟩ (cwOV bw343 bw344 bw12 bw104 bw345 dd_Sm_outgoing hts ⟨Nat.le_of_ble_eq_true rfl, Nat.le_of_ble_eq_true rfl⟩) (va_recv hK hP (ci := 6) (q0 := 0) rfl rfl) hNW hK hP hD [0, 3, 4, 5, 6, 7, 8, 9, 11] rfl (by decide) rfl hl.1 rfl (lv_room (Nat.le_of_ble_eq_true rfl)) d_Sm_runPhase_24 ⟨Nat.le_of_ble_eq_true rfl, Nat.le_of_ble_eq_true rfl⟩) hP hD hS hA [0, 3, 4, 5, 6, 7, 8, 9, 11] rfl rfl (fun H locs hP hD hS => ?_)
          have hP : va_P D CL (w_Sm_runPhase T q0 q0_problem q0_point q0_table q0_right q0_cost q0_basic q0_point_x q0_point_s q0_point_y Rq0_table vq0_rows vq0_variables vq0_columns vq0_stepsDone vq0_point_x vq0_table vq0_right vq0_cost vq0_basic) H := hP
          have hD : va_D A (w_Sm_runPhase T q0 q0_problem q0_point q0_table q0_right q0_cost q0_basic q0_point_x q0_point_s q0_point_y Rq0_table vq0_rows vq0_variables vq0_columns vq0_stepsDone vq0_point_x vq0_table vq0_right vq0_cost vq0_basic) := hD
          refine lv_istore (lv' := [(4, .int u4), (3, .int u2), (0, .ref q0), (1, .int x1), (2, .int x2)]) hx hb d_Sm_runPhase_27 hl (by decide) rfl (fun ls hl => ?_)
          refine lv_iload hx hb d_Sm_runPhase_29 (lv_at hl 0 rfl) ?_
          refine lv_if_ge (tgt := 41) hx hb d_Sm_runPhase_31 (by decide) (fun c5 => ?_) (fun c5 => ?_)
          · have h := it_t c5 h
            refine lv_aload_n hx hb d_Sm_runPhase_41 rfl (lv_at hl 2 rfl) ?_
            refine va_get (D := D) (ci := 6) (v := .int vq0_stepsDone) (C := "ConeForge$SimplexMethod") (T := FSm) (N := 10) hx hb hts iSm hown hK hP 0 rfl rfl 9 (by decide) (hts _ (bgc bw249)) (fun _ h9 => h9) rfl d_Sm_runPhase_42 ?_
            refine lv_sipush (v := 200) hx hb d_Sm_runPhase_45 (by decide) ?_
            refine lv_icmp_lt (tgt := 53) hx hb d_Sm_runPhase_48 (by decide) (fun c6 => ?_) (fun c6 => ?_)
            · have h := it_t c6 h
              refine lv_aload_n hx hb d_Sm_runPhase_53 rfl (lv_at hl 2 rfl) ?_
              refine lv_iload hx hb d_Sm_runPhase_54 (lv_at hl 0 rfl) ?_
              refine lv_iload_n hx hb d_Sm_runPhase_56 rfl (lv_at hl 1 rfl) ?_
              obtain ⟨u7, hu7, h⟩ := bi_some h
              refine kV (wc := (w_Sm_pivot T q0 q0_problem q0_point q0_table q0_right q0_cost q0_basic Rq0_table vq0_rows vq0_variables vq0_columns vq0_stepsDone vq0_table vq0_right vq0_basic)) (wc' := (w_Sm_pivot T q0 q0_problem q0_point q0_table q0_right q0_cost q0_basic Rq0_table vq0_rows vq0_variables vq0_columns vq0_stepsDone u7.1 u7.2.1 u7.2.2)) (runOV (As := [.int u4, .int u2]) (rest := []) ((c_Sm_pivot l D T q0 q0_problem q0_point q0_table q0_right q0_cost q0_basic Rq0_table vq0_rows vq0_variables vq0_columns vq0_stepsDone vq0_table vq0_right vq0_basic u4 u2 u7 hu7) H.size) ⟨hx, hb, hml, hown, hts⟩ (cwOV bw356 bw357 bw16 bw104 bw358 dd_Sm_pivot hts ⟨Nat.le_of_ble_eq_true rfl, Nat.le_of_ble_eq_true rfl⟩) (va_recv hK hP (ci := 6) (q0 := 0) rfl rfl) hNW hK hP hD [0, 3, 4, 5, 6, 7, 8, 9, 11] rfl (by decide) rfl hl.1 rfl (lv_room (Nat.le_of_ble_eq_true rfl)) d_Sm_runPhase_57 ⟨Nat.le_of_ble_eq_true rfl, Nat.le_of_ble_eq_true rfl⟩) hP hD hS hA [0, 3, 4, 5, 6, 7, 8, 9, 11] rfl rfl (fun H locs hP hD hS => ?_)
              have hP : va_P D CL (w_Sm_runPhase T q0 q0_problem q0_point q0_table q0_right q0_cost q0_basic q0_point_x q0_point_s q0_point_y Rq0_table vq0_rows vq0_variables vq0_columns vq0_stepsDone vq0_point_x u7.1 u7.2.1 vq0_cost u7.2.2) H := hP
              have hD : va_D A (w_Sm_runPhase T q0 q0_problem q0_point q0_table q0_right q0_cost q0_basic q0_point_x q0_point_s q0_point_y Rq0_table vq0_rows vq0_variables vq0_columns vq0_stepsDone vq0_point_x u7.1 u7.2.1 vq0_cost u7.2.2) := hD
              refine lv_aload_n hx hb d_Sm_runPhase_60 rfl (lv_at hl 2 rfl) ?_
              refine lv_dup hx hb d_Sm_runPhase_61 rfl ?_
              refine va_get (D := D) (ci := 6) (v := .int vq0_stepsDone) (C := "ConeForge$SimplexMethod") (T := FSm) (N := 10) hx hb hts iSm hown hK hP 0 rfl rfl 9 (by decide) (hts _ (bgc bw249)) (fun _ h9 => h9) rfl d_Sm_runPhase_62 ?_
              refine lv_iconst (v := 1) hx hb d_Sm_runPhase_65 (by decide) ?_
              refine lv_iadd hx hb d_Sm_runPhase_66 ?_
              refine va_put (D := D) (ci := 6) (v := .int (vq0_stepsDone + 1)) (ty := .int) (C := "ConeForge$SimplexMethod") (T := FSm) (N := 10) hx hb hts iSm tSm tSm_ok nmSm hown hK hP hD hS 0 rfl rfl 9 (by decide) (hts _ (bgc bw249)) (fun _ h9 => h9) rfl (by decide +kernel) rfl rfl (Nat.le_of_ble_eq_true rfl) d_Sm_runPhase_67 (fun H locs hP hD hS => ?_)
              have hP : va_P D CL (w_Sm_runPhase T q0 q0_problem q0_point q0_table q0_right q0_cost q0_basic q0_point_x q0_point_s q0_point_y Rq0_table vq0_rows vq0_variables vq0_columns (vq0_stepsDone + 1) vq0_point_x u7.1 u7.2.1 vq0_cost u7.2.2) H := hP
              have hD : va_D A (w_Sm_runPhase T q0 q0_problem q0_point q0_table q0_right q0_cost q0_basic q0_point_x q0_point_s q0_point_y Rq0_table vq0_rows vq0_variables vq0_columns (vq0_stepsDone + 1) vq0_point_x u7.1 u7.2.1 vq0_cost u7.2.2) := hD
              refine lv_aload_n hx hb d_Sm_runPhase_70 rfl (lv_at hl 2 rfl) ?_
              obtain ⟨u8, hu8, h⟩ := bi_some h
              refine kI (v := u8) (wc := (w_Sm_isOvergrown T q0 q0_problem q0_point q0_table q0_right q0_cost q0_basic Rq0_table vq0_rows vq0_variables vq0_columns (vq0_stepsDone + 1) u7.1 u7.2.1)) (wc' := (w_Sm_isOvergrown T q0 q0_problem q0_point q0_table q0_right q0_cost q0_basic Rq0_table vq0_rows vq0_variables vq0_columns (vq0_stepsDone + 1) u7.1 u7.2.1)) (runOV (As := []) (rest := []) ((c_Sm_isOvergrown l D T q0 q0_problem q0_point q0_table q0_right q0_cost q0_basic Rq0_table vq0_rows vq0_variables vq0_columns (vq0_stepsDone + 1) u7.1 u7.2.1  u8 hu8) H.size) ⟨hx, hb, hml, hown, hts⟩ (cwOV bw362 bw363 bw18 bw104 bw364 dd_Sm_isOvergrown hts ⟨Nat.le_of_ble_eq_true rfl, Nat.le_of_ble_eq_true rfl⟩) (va_recv hK hP (ci := 6) (q0 := 0) rfl rfl) hNW hK hP hD [0, 3, 4, 5, 6, 7, 8, 9] rfl (by decide) rfl hl.1 rfl (lv_room (Nat.le_of_ble_eq_true rfl)) d_Sm_runPhase_71 ⟨Nat.le_of_ble_eq_true rfl, Nat.le_of_ble_eq_true rfl⟩) hP hD hS hA [0, 3, 4, 5, 6, 7, 8, 9] rfl rfl (fun H locs hP hD hS => ?_)
              have hP : va_P D CL (w_Sm_runPhase T q0 q0_problem q0_point q0_table q0_right q0_cost q0_basic q0_point_x q0_point_s q0_point_y Rq0_table vq0_rows vq0_variables vq0_columns (vq0_stepsDone + 1) vq0_point_x u7.1 u7.2.1 vq0_cost u7.2.2) H := hP
              have hD : va_D A (w_Sm_runPhase T q0 q0_problem q0_point q0_table q0_right q0_cost q0_basic q0_point_x q0_point_s q0_point_y Rq0_table vq0_rows vq0_variables vq0_columns (vq0_stepsDone + 1) vq0_point_x u7.1 u7.2.1 vq0_cost u7.2.2) := hD
              refine lv_if_eq (tgt := 79) hx hb d_Sm_runPhase_74 (by decide) (fun c9 => ?_) (fun c9 => ?_)
              · have h := it_t c9 h
                refine lv_iinc (v := x2 + 1) (lv' := [(2, .int (x2 + 1)), (4, .int u4), (3, .int u2), (0, .ref q0), (1, .int x1)]) hx hb d_Sm_runPhase_79 hl (k := 4) rfl rfl (by decide) rfl (fun ls hl => ?_)
                refine lv_goto (tgt := 2) hx hb d_Sm_runPhase_82 (by decide) ?_
                exact kc2 _ (Option.some.inj h).symm H locs ls hP hD hS (lv_sub hl [3, 4, 0] rfl)
              · have h := it_f c9 h
                refine lv_iconst (v := 3) hx hb d_Sm_runPhase_77 (by decide) ?_
                exact rtI hx hb hr hlocks hQ (kx2 _ (Option.some.inj h).symm) hP hS d_Sm_runPhase_78 rfl rfl
            · have h := it_f c6 h
              refine lv_iconst (v := 3) hx hb d_Sm_runPhase_51 (by decide) ?_
              exact rtI hx hb hr hlocks hQ (kx2 _ (Option.some.inj h).symm) hP hS d_Sm_runPhase_52 rfl rfl
          · have h := it_f c5 h
            refine lv_aload_n hx hb d_Sm_runPhase_34 rfl (lv_at hl 2 rfl) ?_
            refine lv_iload_n hx hb d_Sm_runPhase_35 rfl (lv_at hl 1 rfl) ?_
            obtain ⟨u10, hu10, h⟩ := bi_some h
            refine kV (wc := (w_Sm_tellRay T q0 q0_problem q0_point q0_table q0_right q0_cost q0_basic q0_point_x q0_point_s q0_point_y Rq0_table vq0_rows vq0_variables vq0_columns vq0_stepsDone vq0_point_x vq0_table vq0_basic)) (wc' := (w_Sm_tellRay T q0 q0_problem q0_point q0_table q0_right q0_cost q0_basic q0_point_x q0_point_s q0_point_y Rq0_table vq0_rows vq0_variables vq0_columns vq0_stepsDone u10 vq0_table vq0_basic)) (runOV (As := [.int u2]) (rest := []) ((c_Sm_tellRay l D T q0 q0_problem q0_point q0_table q0_right q0_cost q0_basic q0_point_x q0_point_s q0_point_y Rq0_table vq0_rows vq0_variables vq0_columns vq0_stepsDone vq0_point_x vq0_table vq0_basic u2 u10 hu10) H.size) ⟨hx, hb, hml, hown, hts⟩ (cwOV bw353 bw354 bw15 bw104 bw355 dd_Sm_tellRay hts ⟨Nat.le_of_ble_eq_true rfl, Nat.le_of_ble_eq_true rfl⟩) (va_recv hK hP (ci := 6) (q0 := 0) rfl rfl) hNW hK hP hD [0, 1, 2, 3, 4, 5, 6, 7, 8, 11] rfl (by decide) rfl hl.1 rfl (lv_room (Nat.le_of_ble_eq_true rfl)) d_Sm_runPhase_36 ⟨Nat.le_of_ble_eq_true rfl, Nat.le_of_ble_eq_true rfl⟩) hP hD hS hA [0, 1, 2, 3, 4, 5, 6, 7, 8, 11] rfl rfl (fun H locs hP hD hS => ?_)
            have hP : va_P D CL (w_Sm_runPhase T q0 q0_problem q0_point q0_table q0_right q0_cost q0_basic q0_point_x q0_point_s q0_point_y Rq0_table vq0_rows vq0_variables vq0_columns vq0_stepsDone u10 vq0_table vq0_right vq0_cost vq0_basic) H := hP
            have hD : va_D A (w_Sm_runPhase T q0 q0_problem q0_point q0_table q0_right q0_cost q0_basic q0_point_x q0_point_s q0_point_y Rq0_table vq0_rows vq0_variables vq0_columns vq0_stepsDone u10 vq0_table vq0_right vq0_cost vq0_basic) := hD
            refine lv_iconst (v := 2) hx hb d_Sm_runPhase_39 (by decide) ?_
            exact rtI hx hb hr hlocks hQ (kx2 _ (Option.some.inj h).symm) hP hS d_Sm_runPhase_40 rfl rfl
        · have h := it_f c3 h
          refine lv_bipush (v := 6) hx hb d_Sm_runPhase_18 (by decide) ?_
          exact rtI hx hb hr hlocks hQ (kx2 _ (Option.some.inj h).symm) hP hS d_Sm_runPhase_20 rfl rfl
    · cases u2 with
      | inl w2 =>
        intro H locs ls hP hD hS hl
        refine lv_iconst (v := 3) hx hb d_Sm_runPhase_85 (by decide) ?_
        exact rtI hx hb hr hlocks hQ (Option.some.inj h) hP hS d_Sm_runPhase_86 rfl rfl
      | inr w2 => exact Option.some.inj h
  unfold s_Sm_runPhase at h
  refine lv_iconst (v := 0) hx hb d_Sm_runPhase_0 (by decide) ?_
  refine lv_istore_n (lv' := [(2, .int 0), (0, .ref q0), (1, .int x1)]) hx hb d_Sm_runPhase_1 rfl hl (by decide) rfl (fun ls hl => ?_)
  exact L2 vq0_stepsDone vq0_point_x vq0_table vq0_right vq0_basic x1 0 H locs ls hP hD hS (lv_sub hl [1, 2, 0] rfl) h
theorem d_Sm_costOfBasis_0 : decode prog_7_method_14_code 0 = .ok (.dconst 0, 1) := by decide +kernel
theorem d_Sm_costOfBasis_1 : decode prog_7_method_14_code 1 = .ok (.dstore_n 1, 1) := by decide +kernel
theorem d_Sm_costOfBasis_2 : decode prog_7_method_14_code 2 = .ok (.iconst 0, 1) := by decide +kernel
theorem d_Sm_costOfBasis_3 : decode prog_7_method_14_code 3 = .ok (.istore_n 3, 1) := by decide +kernel
theorem d_Sm_costOfBasis_4 : decode prog_7_method_14_code 4 = .ok (.iload_n 3, 1) := by decide +kernel
theorem d_Sm_costOfBasis_5 : decode prog_7_method_14_code 5 = .ok (.aload_n 0, 1) := by decide +kernel
theorem d_Sm_costOfBasis_6 : decode prog_7_method_14_code 6 = .ok (.getfield 41, 3) := by decide +kernel
theorem d_Sm_costOfBasis_9 : decode prog_7_method_14_code 9 = .ok (.if_icmp .ge 30, 3) := by decide +kernel
theorem d_Sm_costOfBasis_12 : decode prog_7_method_14_code 12 = .ok (.dload_n 1, 1) := by decide +kernel
theorem d_Sm_costOfBasis_13 : decode prog_7_method_14_code 13 = .ok (.aload_n 0, 1) := by decide +kernel
theorem d_Sm_costOfBasis_14 : decode prog_7_method_14_code 14 = .ok (.getfield 34, 3) := by decide +kernel
theorem d_Sm_costOfBasis_17 : decode prog_7_method_14_code 17 = .ok (.aload_n 0, 1) := by decide +kernel
theorem d_Sm_costOfBasis_18 : decode prog_7_method_14_code 18 = .ok (.getfield 37, 3) := by decide +kernel
theorem d_Sm_costOfBasis_21 : decode prog_7_method_14_code 21 = .ok (.iload_n 3, 1) := by decide +kernel
theorem d_Sm_costOfBasis_22 : decode prog_7_method_14_code 22 = .ok (.iaload, 1) := by decide +kernel
theorem d_Sm_costOfBasis_23 : decode prog_7_method_14_code 23 = .ok (.daload, 1) := by decide +kernel
theorem d_Sm_costOfBasis_24 : decode prog_7_method_14_code 24 = .ok (.aload_n 0, 1) := by decide +kernel
theorem d_Sm_costOfBasis_25 : decode prog_7_method_14_code 25 = .ok (.getfield 30, 3) := by decide +kernel
theorem d_Sm_costOfBasis_28 : decode prog_7_method_14_code 28 = .ok (.iload_n 3, 1) := by decide +kernel
theorem d_Sm_costOfBasis_29 : decode prog_7_method_14_code 29 = .ok (.daload, 1) := by decide +kernel
theorem d_Sm_costOfBasis_30 : decode prog_7_method_14_code 30 = .ok (.dmul, 1) := by decide +kernel
theorem d_Sm_costOfBasis_31 : decode prog_7_method_14_code 31 = .ok (.dadd, 1) := by decide +kernel
theorem d_Sm_costOfBasis_32 : decode prog_7_method_14_code 32 = .ok (.dstore_n 1, 1) := by decide +kernel
theorem d_Sm_costOfBasis_33 : decode prog_7_method_14_code 33 = .ok (.iinc 3 1, 3) := by decide +kernel
theorem d_Sm_costOfBasis_36 : decode prog_7_method_14_code 36 = .ok (.goto (-32), 3) := by decide +kernel
theorem d_Sm_costOfBasis_39 : decode prog_7_method_14_code 39 = .ok (.dload_n 1, 1) := by decide +kernel
theorem d_Sm_costOfBasis_40 : decode prog_7_method_14_code 40 = .ok (.dreturn, 1) := by decide +kernel
abbrev w_Sm_costOfBasis (T : Nat → ClassId) (q0 : Nat) (q0_problem : Nat) (q0_point : Nat) (q0_table : Nat) (q0_right : Nat) (q0_cost : Nat) (q0_basic : Nat) (vq0_rows : Int32) (vq0_variables : Int32) (vq0_columns : Int32) (vq0_stepsDone : Int32) (vq0_right : Nat → UInt64) (vq0_cost : Nat → UInt64) (vq0_basic : Nat → Int32) : va_W := [(q0, .inr (6, [.ref q0_problem, .ref q0_point, .ref q0_table, .ref q0_right, .ref q0_cost, .ref q0_basic, .int vq0_rows, .int vq0_variables, .int vq0_columns, .int vq0_stepsDone])), (q0_right, .inl (T 0, 5, .inr (.inr (.inr (.inl vq0_right))))), (q0_cost, .inl (T 0, 13, .inr (.inr (.inr (.inl vq0_cost))))), (q0_basic, .inl (T 1, 5, .inl vq0_basic))]
def s_Sm_costOfBasis_B4 (vq0_rows : Int32) (vq0_variables : Int32) (vq0_columns : Int32) (vq0_stepsDone : Int32) (vq0_right : Nat → UInt64) (vq0_cost : Nat → UInt64) (vq0_basic : Nat → Int32) (x1 : UInt64) (x3 : Int32) : Option ((UInt64 × Int32) ⊕ (UInt64)) :=
  if vq0_rows ≤ x3 then (some (.inr x1)) else (gd (inb x3 5) <| gd (inb (vq0_basic x3.toNatClampNeg) 13) <| gd (inb x3 5) <| gd (isn (FP.dmul (vq0_cost (vq0_basic x3.toNatClampNeg).toNatClampNeg) (vq0_right x3.toNatClampNeg))) <| gd (isn (FP.dadd x1 (FP.dmul (vq0_cost (vq0_basic x3.toNatClampNeg).toNatClampNeg) (vq0_right x3.toNatClampNeg)))) <| some (.inl (FP.dadd x1 (FP.dmul (vq0_cost (vq0_basic x3.toNatClampNeg).toNatClampNeg) (vq0_right x3.toNatClampNeg)), x3 + 1)))
def s_Sm_costOfBasis_L4 (vq0_rows : Int32) (vq0_variables : Int32) (vq0_columns : Int32) (vq0_stepsDone : Int32) (vq0_right : Nat → UInt64) (vq0_cost : Nat → UInt64) (vq0_basic : Nat → Int32) (x1 : UInt64) (x3 : Int32) : Option (UInt64) :=
  (loopO (fun (st : UInt64 × Int32) => s_Sm_costOfBasis_B4 vq0_rows vq0_variables vq0_columns vq0_stepsDone vq0_right vq0_cost vq0_basic st.1 st.2) 2000 (x1, x3)).bind fun u4 => some u4
def s_Sm_costOfBasis (vq0_rows : Int32) (vq0_variables : Int32) (vq0_columns : Int32) (vq0_stepsDone : Int32) (vq0_right : Nat → UInt64) (vq0_cost : Nat → UInt64) (vq0_basic : Nat → Int32) : Option (UInt64) :=
  s_Sm_costOfBasis_L4 vq0_rows vq0_variables vq0_columns vq0_stepsDone vq0_right vq0_cost vq0_basic FP.dconst0 0
set_option maxHeartbeats 4000000 in
set_option maxRecDepth 100000 in
theorem c_Sm_costOfBasis (l : Launch) (D : va_G) (T : Nat → ClassId) (q0 : Nat) (q0_problem : Nat) (q0_point : Nat) (q0_table : Nat) (q0_right : Nat) (q0_cost : Nat) (q0_basic : Nat) (vq0_rows : Int32) (vq0_variables : Int32) (vq0_columns : Int32) (vq0_stepsDone : Int32) (vq0_right : Nat → UInt64) (vq0_cost : Nat → UInt64) (vq0_basic : Nat → Int32) (rm : UInt64) (h : s_Sm_costOfBasis vq0_rows vq0_variables vq0_columns vq0_stepsDone vq0_right vq0_cost vq0_basic = some rm) : CtD l y_Sm_costOfBasis (Cond.code y_Sm_costOfBasis prog_7_method_14_code 4 (some .double) :: BIG) 0 0 D T [.ref q0] (w_Sm_costOfBasis T q0 q0_problem q0_point q0_table q0_right q0_cost q0_basic vq0_rows vq0_variables vq0_columns vq0_stepsDone vq0_right vq0_cost vq0_basic) (fun r => r) (fun r => (w_Sm_costOfBasis T q0 q0_problem q0_point q0_table q0_right q0_cost q0_basic vq0_rows vq0_variables vq0_columns vq0_stepsDone vq0_right vq0_cost vq0_basic)) rm := by
  refine cf_entry (y := y_Sm_costOfBasis) (cc := prog_7_method_14_code) (nL := 4) (ret := (some .double)) (fr := 0) (lo := 0) (T := T) (av := [.ref q0]) (w := (w_Sm_costOfBasis T q0 q0_problem q0_point q0_table q0_right q0_cost q0_basic vq0_rows vq0_variables vq0_columns vq0_stepsDone vq0_right vq0_cost vq0_basic)) (Qc := cfQd D (fun r => r) (fun r => (w_Sm_costOfBasis T q0 q0_problem q0_point q0_table q0_right q0_cost q0_basic vq0_rows vq0_variables vq0_columns vq0_stepsDone vq0_right vq0_cost vq0_basic)) rm) (by decide) rfl (Nat.le_of_ble_eq_true rfl) ?_
  intro p e s m args below meth c A Q H locs ls hx hb hr hlocks hml hown hts hNW hK hA hQ hP hD hS hl
  have hown : s.vm.findClass "ConeForge$SimplexMethod" = some m.cls := hown
  have hl : lv_has ls 4 [(0, .ref q0)] := hl
  have L4 : ∀ (x1 : UInt64) (x3 : Int32), ∀ (H : Heap) (locs : List Loc) (ls : Array Slot), va_P D CL (w_Sm_costOfBasis T q0 q0_problem q0_point q0_table q0_right q0_cost q0_basic vq0_rows vq0_variables vq0_columns vq0_stepsDone vq0_right vq0_cost vq0_basic) H → va_D A (w_Sm_costOfBasis T q0 q0_problem q0_point q0_table q0_right q0_cost q0_basic vq0_rows vq0_variables vq0_columns vq0_stepsDone vq0_right vq0_cost vq0_basic) → va_S A s.heap H locs → lv_has ls 4 [(0, .ref q0), (1, .double x1), (3, .int x3)] → s_Sm_costOfBasis_L4 vq0_rows vq0_variables vq0_columns vq0_stepsDone vq0_right vq0_cost vq0_basic x1 x3 = some rm → W p l e (rmk 0 0) s m args below meth c H locs 0 0 Q (F0 m 4 ls []) := by
    intro x1 x3 H locs ls hP hD hS hl h
    unfold s_Sm_costOfBasis_L4 at h
    obtain ⟨u4, hu4, h⟩ := bi_some h
    refine loopO_W (Wh := fun (st : UInt64 × Int32) => ∀ (H : Heap) (locs : List Loc) (ls : Array Slot), va_P D CL (w_Sm_costOfBasis T q0 q0_problem q0_point q0_table q0_right q0_cost q0_basic vq0_rows vq0_variables vq0_columns vq0_stepsDone vq0_right vq0_cost vq0_basic) H → va_D A (w_Sm_costOfBasis T q0 q0_problem q0_point q0_table q0_right q0_cost q0_basic vq0_rows vq0_variables vq0_columns vq0_stepsDone vq0_right vq0_cost vq0_basic) → va_S A s.heap H locs → lv_has ls 4 [(0, .ref q0), (1, .double st.1), (3, .int st.2)] → W p l e (rmk 0 0) s m args below meth c H locs 0 0 Q (F0 m 4 ls [])) (Wx := fun (e1 : UInt64) => ∀ (H : Heap) (locs : List Loc) (ls : Array Slot), va_P D CL (w_Sm_costOfBasis T q0 q0_problem q0_point q0_table q0_right q0_cost q0_basic vq0_rows vq0_variables vq0_columns vq0_stepsDone vq0_right vq0_cost vq0_basic) H → va_D A (w_Sm_costOfBasis T q0 q0_problem q0_point q0_table q0_right q0_cost q0_basic vq0_rows vq0_variables vq0_columns vq0_stepsDone vq0_right vq0_cost vq0_basic) → va_S A s.heap H locs → lv_has ls 4 [(1, .double e1)] → W p l e (rmk 0 0) s m args below meth c H locs 0 0 Q (F0 m 39 ls [])) ?_ 2000 _ u4 hu4 ?_ H locs ls hP hD hS hl
    · intro st rb4 h kc4 kx4 H locs ls hP hD hS hl
      obtain ⟨x1, x3⟩ := st
      have h : s_Sm_costOfBasis_B4 vq0_rows vq0_variables vq0_columns vq0_stepsDone vq0_right vq0_cost vq0_basic x1 x3 = some rb4 := h
      unfold s_Sm_costOfBasis_B4 at h
      refine lv_iload_n hx hb d_Sm_costOfBasis_4 rfl (lv_at hl 2 rfl) ?_
      refine lv_aload_n hx hb d_Sm_costOfBasis_5 rfl (lv_at hl 0 rfl) ?_
      refine va_get (D := D) (ci := 6) (v := .int vq0_rows) (C := "ConeForge$SimplexMethod") (T := FSm) (N := 10) hx hb hts iSm hown hK hP 0 rfl rfl 6 (by decide) (hts _ (bgc bw246)) (fun _ h9 => h9) rfl d_Sm_costOfBasis_6 ?_
      refine lv_icmp_ge (tgt := 39) hx hb d_Sm_costOfBasis_9 (by decide) (fun c1 => ?_) (fun c1 => ?_)
      · have h := it_t c1 h
        exact kx4 _ (Option.some.inj h).symm H locs ls hP hD hS (lv_sub hl [1] rfl)
      · have h := it_f c1 h
        refine lv_dload_n hx hb d_Sm_costOfBasis_12 rfl (lv_at hl 1 rfl) ?_
        refine lv_aload_n hx hb d_Sm_costOfBasis_13 rfl (lv_at hl 0 rfl) ?_
        refine va_get (D := D) (ci := 6) (v := .ref q0_cost) (C := "ConeForge$SimplexMethod") (T := FSm) (N := 10) hx hb hts iSm hown hK hP 0 rfl rfl 4 (by decide) (hts _ (bgc bw244)) (fun _ h9 => h9) rfl d_Sm_costOfBasis_14 ?_
        refine lv_aload_n hx hb d_Sm_costOfBasis_17 rfl (lv_at hl 0 rfl) ?_
        refine va_get (D := D) (ci := 6) (v := .ref q0_basic) (C := "ConeForge$SimplexMethod") (T := FSm) (N := 10) hx hb hts iSm hown hK hP 0 rfl rfl 5 (by decide) (hts _ (bgc bw245)) (fun _ h9 => h9) rfl d_Sm_costOfBasis_18 ?_
        refine lv_iload_n hx hb d_Sm_costOfBasis_21 rfl (lv_at hl 2 rfl) ?_
        obtain ⟨g2, h⟩ := gd_some h
        refine va_iald hx hb hK hP 3 1 rfl rfl (inb_in g2) d_Sm_costOfBasis_22 ?_
        obtain ⟨g3, h⟩ := gd_some h
        refine va_dald hx hb hK hP 2 0 rfl rfl (inb_in g3) d_Sm_costOfBasis_23 ?_
        refine lv_aload_n hx hb d_Sm_costOfBasis_24 rfl (lv_at hl 0 rfl) ?_
        refine va_get (D := D) (ci := 6) (v := .ref q0_right) (C := "ConeForge$SimplexMethod") (T := FSm) (N := 10) hx hb hts iSm hown hK hP 0 rfl rfl 3 (by decide) (hts _ (bgc bw243)) (fun _ h9 => h9) rfl d_Sm_costOfBasis_25 ?_
        refine lv_iload_n hx hb d_Sm_costOfBasis_28 rfl (lv_at hl 2 rfl) ?_
        obtain ⟨g4, h⟩ := gd_some h
        refine va_dald hx hb hK hP 1 0 rfl rfl (inb_in g4) d_Sm_costOfBasis_29 ?_
        obtain ⟨g5, h⟩ := gd_some h
        refine lv_dmul hx hb d_Sm_costOfBasis_30 (isn_n g5) ?_
        obtain ⟨g6, h⟩ := gd_some h
        refine lv_dadd hx hb d_Sm_costOfBasis_31 (isn_n g6) ?_
        refine lv_dstore_n (lv' := [(1, .double (FP.dadd x1 (FP.dmul (vq0_cost (vq0_basic x3.toNatClampNeg).toNatClampNeg) (vq0_right x3.toNatClampNeg)))), (0, .ref q0), (3, .int x3)]) hx hb d_Sm_costOfBasis_32 rfl hl (by decide) rfl (fun ls hl => ?_)
        refine lv_iinc (v := x3 + 1) (lv' := [(3, .int (x3 + 1)), (1, .double (FP.dadd x1 (FP.dmul (vq0_cost (vq0_basic x3.toNatClampNeg).toNatClampNeg) (vq0_right x3.toNatClampNeg)))), (0, .ref q0)]) hx hb d_Sm_costOfBasis_33 hl (k := 2) rfl rfl (by decide) rfl (fun ls hl => ?_)
        refine lv_goto (tgt := 4) hx hb d_Sm_costOfBasis_36 (by decide) ?_
        exact kc4 _ (Option.some.inj h).symm H locs ls hP hD hS (lv_sub hl [2, 1, 0] rfl)
    · intro H locs ls hP hD hS hl
      refine lv_dload_n hx hb d_Sm_costOfBasis_39 rfl (lv_at hl 0 rfl) ?_
      exact rtD hx hb hr hlocks hQ (Option.some.inj h) hP hS d_Sm_costOfBasis_40 rfl rfl
  unfold s_Sm_costOfBasis at h
  refine lv_dconst0 hx hb d_Sm_costOfBasis_0 ?_
  refine lv_dstore_n (lv' := [(1, .double FP.dconst0), (0, .ref q0)]) hx hb d_Sm_costOfBasis_1 rfl hl (by decide) rfl (fun ls hl => ?_)
  refine lv_iconst (v := 0) hx hb d_Sm_costOfBasis_2 (by decide) ?_
  refine lv_istore_n (lv' := [(3, .int 0), (1, .double FP.dconst0), (0, .ref q0)]) hx hb d_Sm_costOfBasis_3 rfl hl (by decide) rfl (fun ls hl => ?_)
  exact L4 FP.dconst0 0 H locs ls hP hD hS (lv_sub hl [2, 1, 0] rfl) h
theorem d_Sm_tellPrices_0 : decode prog_7_method_15_code 0 = .ok (.iconst 0, 1) := by decide +kernel
theorem d_Sm_tellPrices_1 : decode prog_7_method_15_code 1 = .ok (.istore_n 1, 1) := by decide +kernel
theorem d_Sm_tellPrices_2 : decode prog_7_method_15_code 2 = .ok (.iload_n 1, 1) := by decide +kernel
theorem d_Sm_tellPrices_3 : decode prog_7_method_15_code 3 = .ok (.aload_n 0, 1) := by decide +kernel
theorem d_Sm_tellPrices_4 : decode prog_7_method_15_code 4 = .ok (.getfield 41, 3) := by decide +kernel
theorem d_Sm_tellPrices_7 : decode prog_7_method_15_code 7 = .ok (.if_icmp .ge 75, 3) := by decide +kernel
theorem d_Sm_tellPrices_10 : decode prog_7_method_15_code 10 = .ok (.dconst 0, 1) := by decide +kernel
theorem d_Sm_tellPrices_11 : decode prog_7_method_15_code 11 = .ok (.dstore_n 2, 1) := by decide +kernel
theorem d_Sm_tellPrices_12 : decode prog_7_method_15_code 12 = .ok (.iconst 0, 1) := by decide +kernel
theorem d_Sm_tellPrices_13 : decode prog_7_method_15_code 13 = .ok (.istore 4, 2) := by decide +kernel
theorem d_Sm_tellPrices_15 : decode prog_7_method_15_code 15 = .ok (.iload 4, 2) := by decide +kernel
theorem d_Sm_tellPrices_17 : decode prog_7_method_15_code 17 = .ok (.aload_n 0, 1) := by decide +kernel
theorem d_Sm_tellPrices_18 : decode prog_7_method_15_code 18 = .ok (.getfield 41, 3) := by decide +kernel
theorem d_Sm_tellPrices_21 : decode prog_7_method_15_code 21 = .ok (.if_icmp .ge 39, 3) := by decide +kernel
theorem d_Sm_tellPrices_24 : decode prog_7_method_15_code 24 = .ok (.dload_n 2, 1) := by decide +kernel
theorem d_Sm_tellPrices_25 : decode prog_7_method_15_code 25 = .ok (.aload_n 0, 1) := by decide +kernel
theorem d_Sm_tellPrices_26 : decode prog_7_method_15_code 26 = .ok (.getfield 34, 3) := by decide +kernel
theorem d_Sm_tellPrices_29 : decode prog_7_method_15_code 29 = .ok (.aload_n 0, 1) := by decide +kernel
theorem d_Sm_tellPrices_30 : decode prog_7_method_15_code 30 = .ok (.getfield 37, 3) := by decide +kernel
theorem d_Sm_tellPrices_33 : decode prog_7_method_15_code 33 = .ok (.iload 4, 2) := by decide +kernel
theorem d_Sm_tellPrices_35 : decode prog_7_method_15_code 35 = .ok (.iaload, 1) := by decide +kernel
theorem d_Sm_tellPrices_36 : decode prog_7_method_15_code 36 = .ok (.daload, 1) := by decide +kernel
theorem d_Sm_tellPrices_37 : decode prog_7_method_15_code 37 = .ok (.aload_n 0, 1) := by decide +kernel
theorem d_Sm_tellPrices_38 : decode prog_7_method_15_code 38 = .ok (.getfield 27, 3) := by decide +kernel
theorem d_Sm_tellPrices_41 : decode prog_7_method_15_code 41 = .ok (.iload 4, 2) := by decide +kernel
theorem d_Sm_tellPrices_43 : decode prog_7_method_15_code 43 = .ok (.aaload, 1) := by decide +kernel
theorem d_Sm_tellPrices_44 : decode prog_7_method_15_code 44 = .ok (.aload_n 0, 1) := by decide +kernel
theorem d_Sm_tellPrices_45 : decode prog_7_method_15_code 45 = .ok (.getfield 45, 3) := by decide +kernel
theorem d_Sm_tellPrices_48 : decode prog_7_method_15_code 48 = .ok (.iload_n 1, 1) := by decide +kernel
theorem d_Sm_tellPrices_49 : decode prog_7_method_15_code 49 = .ok (.iadd, 1) := by decide +kernel
theorem d_Sm_tellPrices_50 : decode prog_7_method_15_code 50 = .ok (.daload, 1) := by decide +kernel
theorem d_Sm_tellPrices_51 : decode prog_7_method_15_code 51 = .ok (.dmul, 1) := by decide +kernel
theorem d_Sm_tellPrices_52 : decode prog_7_method_15_code 52 = .ok (.dadd, 1) := by decide +kernel
theorem d_Sm_tellPrices_53 : decode prog_7_method_15_code 53 = .ok (.dstore_n 2, 1) := by decide +kernel
theorem d_Sm_tellPrices_54 : decode prog_7_method_15_code 54 = .ok (.iinc 4 1, 3) := by decide +kernel
theorem d_Sm_tellPrices_57 : decode prog_7_method_15_code 57 = .ok (.goto (-42), 3) := by decide +kernel
theorem d_Sm_tellPrices_60 : decode prog_7_method_15_code 60 = .ok (.aload_n 0, 1) := by decide +kernel
theorem d_Sm_tellPrices_61 : decode prog_7_method_15_code 61 = .ok (.getfield 21, 3) := by decide +kernel
theorem d_Sm_tellPrices_64 : decode prog_7_method_15_code 64 = .ok (.getfield 143, 3) := by decide +kernel
theorem d_Sm_tellPrices_67 : decode prog_7_method_15_code 67 = .ok (.iload_n 1, 1) := by decide +kernel
theorem d_Sm_tellPrices_68 : decode prog_7_method_15_code 68 = .ok (.dload_n 2, 1) := by decide +kernel
theorem d_Sm_tellPrices_69 : decode prog_7_method_15_code 69 = .ok (.aload_n 0, 1) := by decide +kernel
theorem d_Sm_tellPrices_70 : decode prog_7_method_15_code 70 = .ok (.iload_n 1, 1) := by decide +kernel
theorem d_Sm_tellPrices_71 : decode prog_7_method_15_code 71 = .ok (.invokevirtual 83, 3) := by decide +kernel
theorem d_Sm_tellPrices_74 : decode prog_7_method_15_code 74 = .ok (.dmul, 1) := by decide +kernel
theorem d_Sm_tellPrices_75 : decode prog_7_method_15_code 75 = .ok (.dastore, 1) := by decide +kernel
theorem d_Sm_tellPrices_76 : decode prog_7_method_15_code 76 = .ok (.iinc 1 1, 3) := by decide +kernel
theorem d_Sm_tellPrices_79 : decode prog_7_method_15_code 79 = .ok (.goto (-77), 3) := by decide +kernel
theorem d_Sm_tellPrices_82 : decode prog_7_method_15_code 82 = .ok (.return_, 1) := by decide +kernel
abbrev w_Sm_tellPrices (T : Nat → ClassId) (q0 : Nat) (q0_problem : Nat) (q0_point : Nat) (q0_table : Nat) (q0_right : Nat) (q0_cost : Nat) (q0_basic : Nat) (q0_problem_a : Nat) (q0_problem_b : Nat) (q0_problem_c : Nat) (q0_point_x : Nat) (q0_point_s : Nat) (q0_point_y : Nat) (Rq0_table : Nat → Nat) (vq0_rows : Int32) (vq0_variables : Int32) (vq0_columns : Int32) (vq0_stepsDone : Int32) (vq0_problem_rows : Int32) (vq0_problem_variables : Int32) (vq0_problem_b : Nat → UInt64) (vq0_point_y : Nat → UInt64) (vq0_table : Nat → Nat → UInt64) (vq0_cost : Nat → UInt64) (vq0_basic : Nat → Int32) : va_W := [(q0, .inr (6, [.ref q0_problem, .ref q0_point, .ref q0_table, .ref q0_right, .ref q0_cost, .ref q0_basic, .int vq0_rows, .int vq0_variables, .int vq0_columns, .int vq0_stepsDone])), (q0_problem, .inr (0, [.int vq0_problem_rows, .int vq0_problem_variables, .ref q0_problem_a, .ref q0_problem_b, .ref q0_problem_c])), (q0_problem_b, .inl (T 0, 5, .inr (.inr (.inr (.inl vq0_problem_b))))), (q0_point, .inr (1, [.ref q0_point_x, .ref q0_point_s, .ref q0_point_y])), (q0_point_y, .inl (T 0, 5, .inr (.inr (.inr (.inl vq0_point_y))))), (q0_table, .inl (T 3, 5, .inr (.inr (.inr (.inr (fun i => some (Rq0_table i))))))), (Rq0_table 0, .inl (T 0, 13, .inr (.inr (.inr (.inl (vq0_table 0)))))), (Rq0_table 1, .inl (T 0, 13, .inr (.inr (.inr (.inl (vq0_table 1)))))), (Rq0_table 2, .inl (T 0, 13, .inr (.inr (.inr (.inl (vq0_table 2)))))), (Rq0_table 3, .inl (T 0, 13, .inr (.inr (.inr (.inl (vq0_table 3)))))), (Rq0_table 4, .inl (T 0, 13, .inr (.inr (.inr (.inl (vq0_table 4)))))), (q0_cost, .inl (T 0, 13, .inr (.inr (.inr (.inl vq0_cost))))), (q0_basic, .inl (T 1, 5, .inl vq0_basic))]
def s_Sm_tellPrices_B15 (vq0_rows : Int32) (vq0_variables : Int32) (vq0_columns : Int32) (vq0_stepsDone : Int32) (vq0_problem_rows : Int32) (vq0_problem_variables : Int32) (vq0_problem_b : Nat → UInt64) (vq0_point_y : Nat → UInt64) (vq0_table : Nat → Nat → UInt64) (vq0_cost : Nat → UInt64) (vq0_basic : Nat → Int32) (x1 : Int32) (x2 : UInt64) (x4 : Int32) : Option ((UInt64 × Int32) ⊕ (UInt64)) :=
  if vq0_rows ≤ x4 then (some (.inr x2)) else (gd (inb x4 5) <| gd (inb (vq0_basic x4.toNatClampNeg) 13) <| gd (inb x4 5) <| gd (inb (vq0_variables + x1) 13) <| gd (isn (FP.dmul (vq0_cost (vq0_basic x4.toNatClampNeg).toNatClampNeg) (vq0_table x4.toNatClampNeg (vq0_variables + x1).toNatClampNeg))) <| gd (isn (FP.dadd x2 (FP.dmul (vq0_cost (vq0_basic x4.toNatClampNeg).toNatClampNeg) (vq0_table x4.toNatClampNeg (vq0_variables + x1).toNatClampNeg)))) <| some (.inl (FP.dadd x2 (FP.dmul (vq0_cost (vq0_basic x4.toNatClampNeg).toNatClampNeg) (vq0_table x4.toNatClampNeg (vq0_variables + x1).toNatClampNeg)), x4 + 1)))
def s_Sm_tellPrices_L15 (vq0_rows : Int32) (vq0_variables : Int32) (vq0_columns : Int32) (vq0_stepsDone : Int32) (vq0_problem_rows : Int32) (vq0_problem_variables : Int32) (vq0_problem_b : Nat → UInt64) (vq0_point_y : Nat → UInt64) (vq0_table : Nat → Nat → UInt64) (vq0_cost : Nat → UInt64) (vq0_basic : Nat → Int32) (x1 : Int32) (x2 : UInt64) (x4 : Int32) : Option (((Nat → UInt64) × Int32) ⊕ ((Nat → UInt64))) :=
  (loopO (fun (st : UInt64 × Int32) => s_Sm_tellPrices_B15 vq0_rows vq0_variables vq0_columns vq0_stepsDone vq0_problem_rows vq0_problem_variables vq0_problem_b vq0_point_y vq0_table vq0_cost vq0_basic x1 st.1 st.2) 2000 (x2, x4)).bind fun u15 => (s_Sm_signOf vq0_rows vq0_variables vq0_columns vq0_stepsDone vq0_problem_rows vq0_problem_variables vq0_problem_b x1).bind fun u8 => gd (isn (FP.dmul u15 u8)) <| gd (inb x1 5) <| some (.inl (vf_upd vq0_point_y x1.toNatClampNeg (FP.dmul u15 u8), x1 + 1))
def s_Sm_tellPrices_B2 (vq0_rows : Int32) (vq0_variables : Int32) (vq0_columns : Int32) (vq0_stepsDone : Int32) (vq0_problem_rows : Int32) (vq0_problem_variables : Int32) (vq0_problem_b : Nat → UInt64) (vq0_table : Nat → Nat → UInt64) (vq0_cost : Nat → UInt64) (vq0_basic : Nat → Int32) (vq0_point_y : Nat → UInt64) (x1 : Int32) : Option (((Nat → UInt64) × Int32) ⊕ ((Nat → UInt64))) :=
  if vq0_rows ≤ x1 then (some (.inr vq0_point_y)) else (s_Sm_tellPrices_L15 vq0_rows vq0_variables vq0_columns vq0_stepsDone vq0_problem_rows vq0_problem_variables vq0_problem_b vq0_point_y vq0_table vq0_cost vq0_basic x1 FP.dconst0 0)
def s_Sm_tellPrices_L2 (vq0_rows : Int32) (vq0_variables : Int32) (vq0_columns : Int32) (vq0_stepsDone : Int32) (vq0_problem_rows : Int32) (vq0_problem_variables : Int32) (vq0_problem_b : Nat → UInt64) (vq0_point_y : Nat → UInt64) (vq0_table : Nat → Nat → UInt64) (vq0_cost : Nat → UInt64) (vq0_basic : Nat → Int32) (x1 : Int32) : Option ((Nat → UInt64)) :=
  (loopO (fun (st : (Nat → UInt64) × Int32) => s_Sm_tellPrices_B2 vq0_rows vq0_variables vq0_columns vq0_stepsDone vq0_problem_rows vq0_problem_variables vq0_problem_b vq0_table vq0_cost vq0_basic st.1 st.2) 2000 (vq0_point_y, x1)).bind fun u2 => some u2
def s_Sm_tellPrices (vq0_rows : Int32) (vq0_variables : Int32) (vq0_columns : Int32) (vq0_stepsDone : Int32) (vq0_problem_rows : Int32) (vq0_problem_variables : Int32) (vq0_problem_b : Nat → UInt64) (vq0_point_y : Nat → UInt64) (vq0_table : Nat → Nat → UInt64) (vq0_cost : Nat → UInt64) (vq0_basic : Nat → Int32) : Option ((Nat → UInt64)) :=
  s_Sm_tellPrices_L2 vq0_rows vq0_variables vq0_columns vq0_stepsDone vq0_problem_rows vq0_problem_variables vq0_problem_b vq0_point_y vq0_table vq0_cost vq0_basic 0
set_option maxHeartbeats 4000000 in
set_option maxRecDepth 100000 in
theorem c_Sm_tellPrices (l : Launch) (D : va_G) (T : Nat → ClassId) (q0 : Nat) (q0_problem : Nat) (q0_point : Nat) (q0_table : Nat) (q0_right : Nat) (q0_cost : Nat) (q0_basic : Nat) (q0_problem_a : Nat) (q0_problem_b : Nat) (q0_problem_c : Nat) (q0_point_x : Nat) (q0_point_s : Nat) (q0_point_y : Nat) (Rq0_table : Nat → Nat) (vq0_rows : Int32) (vq0_variables : Int32) (vq0_columns : Int32) (vq0_stepsDone : Int32) (vq0_problem_rows : Int32) (vq0_problem_variables : Int32) (vq0_problem_b : Nat → UInt64) (vq0_point_y : Nat → UInt64) (vq0_table : Nat → Nat → UInt64) (vq0_cost : Nat → UInt64) (vq0_basic : Nat → Int32) (rm : (Nat → UInt64)) (h : s_Sm_tellPrices vq0_rows vq0_variables vq0_columns vq0_stepsDone vq0_problem_rows vq0_problem_variables vq0_problem_b vq0_point_y vq0_table vq0_cost vq0_basic = some rm) : CtV l y_Sm_tellPrices (Cond.code y_Sm_tellPrices prog_7_method_15_code 5 none :: BIG) 1 21 D T [.ref q0] (w_Sm_tellPrices T q0 q0_problem q0_point q0_table q0_right q0_cost q0_basic q0_problem_a q0_problem_b q0_problem_c q0_point_x q0_point_s q0_point_y Rq0_table vq0_rows vq0_variables vq0_columns vq0_stepsDone vq0_problem_rows vq0_problem_variables vq0_problem_b vq0_point_y vq0_table vq0_cost vq0_basic) (fun r => (w_Sm_tellPrices T q0 q0_problem q0_point q0_table q0_right q0_cost q0_basic q0_problem_a q0_problem_b q0_problem_c q0_point_x q0_point_s q0_point_y Rq0_table vq0_rows vq0_variables vq0_columns vq0_stepsDone vq0_problem_rows vq0_problem_variables vq0_problem_b r vq0_table vq0_cost vq0_basic)) rm := by
  refine cf_entry (y := y_Sm_tellPrices) (cc := prog_7_method_15_code) (nL := 5) (ret := none) (fr := 1) (lo := 21) (T := T) (av := [.ref q0]) (w := (w_Sm_tellPrices T q0 q0_problem q0_point q0_table q0_right q0_cost q0_basic q0_problem_a q0_problem_b q0_problem_c q0_point_x q0_point_s q0_point_y Rq0_table vq0_rows vq0_variables vq0_columns vq0_stepsDone vq0_problem_rows vq0_problem_variables vq0_problem_b vq0_point_y vq0_table vq0_cost vq0_basic)) (Qc := cfQv D (fun r => (w_Sm_tellPrices T q0 q0_problem q0_point q0_table q0_right q0_cost q0_basic q0_problem_a q0_problem_b q0_problem_c q0_point_x q0_point_s q0_point_y Rq0_table vq0_rows vq0_variables vq0_columns vq0_stepsDone vq0_problem_rows vq0_problem_variables vq0_problem_b r vq0_table vq0_cost vq0_basic)) rm) (by decide) rfl (Nat.le_of_ble_eq_true rfl) ?_
  intro p e s m args below meth c A Q H locs ls hx hb hr hlocks hml hown hts hNW hK hA hQ hP hD hS hl
  have hown : s.vm.findClass "ConeForge$SimplexMethod" = some m.cls := hown
  have hl : lv_has ls 5 [(0, .ref q0)] := hl
  have L2 : ∀ (vq0_point_y : Nat → UInt64) (x1 : Int32), ∀ (H : Heap) (locs : List Loc) (ls : Array Slot), va_P D CL (w_Sm_tellPrices T q0 q0_problem q0_point q0_table q0_right q0_cost q0_basic q0_problem_a q0_problem_b q0_problem_c q0_point_x q0_point_s q0_point_y Rq0_table vq0_rows vq0_variables vq0_columns vq0_stepsDone vq0_problem_rows vq0_problem_variables vq0_problem_b vq0_point_y vq0_table vq0_cost vq0_basic) H → va_D A (w_Sm_tellPrices T q0 q0_problem q0_point q0_table q0_right q0_cost q0_basic q0_problem_a q0_problem_b q0_problem_c q0_point_x q0_point_s q0_point_y Rq0_table vq0_rows vq0_variables vq0_columns vq0_stepsDone vq0_problem_rows vq0_problem_variables vq0_problem_b vq0_point_y vq0_table vq0_cost vq0_basic) → va_S A s.heap H locs → lv_has ls 5 [(0, .ref q0), (1, .int x1)] → s_Sm_tellPrices_L2 vq0_rows vq0_variables vq0_columns vq0_stepsDone vq0_problem_rows vq0_problem_variables vq0_problem_b vq0_point_y vq0_table vq0_cost vq0_basic x1 = some rm → W p l e (rmk 1 21) s m args below meth c H locs 0 0 Q (F0 m 2 ls []) := by
    intro vq0_point_y x1 H locs ls hP hD hS hl h
    unfold s_Sm_tellPrices_L2 at h
    obtain ⟨u2, hu2, h⟩ := bi_some h
    refine loopO_W (Wh := fun (st : (Nat → UInt64) × Int32) => ∀ (H : Heap) (locs : List Loc) (ls : Array Slot), va_P D CL (w_Sm_tellPrices T q0 q0_problem q0_point q0_table q0_right q0_cost q0_basic q0_problem_a q0_problem_b q0_problem_c q0_point_x q0_point_s q0_point_y Rq0_table vq0_rows vq0_variables vq0_columns vq0_stepsDone vq0_problem_rows vq0_problem_variables vq0_problem_b st.1 vq0_table vq0_cost vq0_basic) H → va_D A (w_Sm_tellPrices T q0 q0_problem q0_point q0_table q0_right q0_cost q0_basic q0_problem_a q0_problem_b q0_problem_c q0_point_x q0_point_s q0_point_y Rq0_table vq0_rows vq0_variables vq0_columns vq0_stepsDone vq0_problem_rows vq0_problem_variables vq0_problem_b st.1 vq0_table vq0_cost vq0_basic) → va_S A s.heap H locs → lv_has ls 5 [(0, .ref q0), (1, .int st.2)] → W p l e (rmk 1 21) s m args below meth c H locs 0 0 Q (F0 m 2 ls [])) (Wx := fun (e1 : (Nat → UInt64)) => ∀ (H : Heap) (locs : List Loc) (ls : Array Slot), va_P D CL (w_Sm_tellPrices T q0 q0_problem q0_point q0_table q0_right q0_cost q0_basic q0_problem_a q0_problem_b q0_problem_c q0_point_x q0_point_s q0_point_y Rq0_table vq0_rows vq0_variables vq0_columns vq0_stepsDone vq0_problem_rows vq0_problem_variables vq0_problem_b e1 vq0_table vq0_cost vq0_basic) H → va_D A (w_Sm_tellPrices T q0 q0_problem q0_point q0_table q0_right q0_cost q0_basic q0_problem_a q0_problem_b q0_problem_c q0_point_x q0_point_s q0_point_y Rq0_table vq0_rows vq0_variables vq0_columns vq0_stepsDone vq0_problem_rows vq0_problem_variables vq0_problem_b e1 vq0_table vq0_cost vq0_basic) → va_S A s.heap H locs → lv_has ls 5 [] → W p l e (rmk 1 21) s m args below meth c H locs 0 0 Q (F0 m 82 ls [])) ?_ 2000 _ u2 hu2 ?_ H locs ls hP hD hS hl
    · intro st rb2 h kc2 kx2 H locs ls hP hD hS hl
      obtain ⟨vq0_point_y, x1⟩ := st
      have h : s_Sm_tellPrices_B2 vq0_rows vq0_variables vq0_columns vq0_stepsDone vq0_problem_rows vq0_problem_variables vq0_problem_b vq0_table vq0_cost vq0_basic vq0_point_y x1 = some rb2 := h
      have L15 : ∀ (vq0_point_y : Nat → UInt64) (x1 : Int32) (x2 : UInt64) (x4 : Int32), ∀ (H : Heap) (locs : List Loc) (ls : Array Slot), va_P D CL (w_Sm_tellPrices T q0 q0_problem q0_point q0_table q0_right q0_cost q0_basic q0_problem_a q0_problem_b q0_problem_c q0_point_x q0_point_s q0_point_y Rq0_table vq0_rows vq0_variables vq0_columns vq0_stepsDone vq0_problem_rows vq0_problem_variables vq0_problem_b vq0_point_y vq0_table vq0_cost vq0_basic) H → va_D A (w_Sm_tellPrices T q0 q0_problem q0_point q0_table q0_right q0_cost q0_basic q0_problem_a q0_problem_b q0_problem_c q0_point_x q0_point_s q0_point_y Rq0_table vq0_rows vq0_variables vq0_columns vq0_stepsDone vq0_problem_rows vq0_problem_variables vq0_problem_b vq0_point_y vq0_table vq0_cost vq0_basic) → va_S A s.heap H locs → lv_has ls 5 [(0, .ref q0), (1, .int x1), (2, .double x2), (4, .int x4)] → s_Sm_tellPrices_L15 vq0_rows vq0_variables vq0_columns vq0_stepsDone vq0_problem_rows vq0_problem_variables vq0_problem_b vq0_point_y vq0_table vq0_cost vq0_basic x1 x2 x4 = some rb2 → W p l e (rmk 1 21) s m args below meth c H locs 0 0 Q (F0 m 15 ls []) := by
        intro vq0_point_y x1 x2 x4 H locs ls hP hD hS hl h
        unfold s_Sm_tellPrices_L15 at h
        obtain ⟨u15, hu15, h⟩ := bi_some h
        refine loopO_W (Wh := fun (st : UInt64 × Int32) => ∀ (H : Heap) (locs : List Loc) (ls : Array Slot), va_P D CL (w_Sm_tellPrices T q0 q0_problem q0_point q0_table q0_right q0_cost q0_basic q0_problem_a q0_problem_b q0_problem_c q0_point_x q0_point_s q0_point_y Rq0_table vq0_rows vq0_variables vq0_columns vq0_stepsDone vq0_problem_rows vq0_problem_variables vq0_problem_b vq0_point_y vq0_table vq0_cost vq0_basic) H → va_D A (w_Sm_tellPrices T q0 q0_problem q0_point q0_table q0_right q0_cost q0_basic q0_problem_a q0_problem_b q0_problem_c q0_point_x q0_point_s q0_point_y Rq0_table vq0_rows vq0_variables vq0_columns vq0_stepsDone vq0_problem_rows vq0_problem_variables vq0_problem_b vq0_point_y vq0_table vq0_cost vq0_basic) → va_S A s.heap H locs → lv_has ls 5 [(0, .ref q0), (1, .int x1), (2, .double st.1), (4, .int st.2)] → W p l e (rmk 1 21) s m args below meth c H locs 0 0 Q (F0 m 15 ls [])) (Wx := fun (e1 : UInt64) => ∀ (H : Heap) (locs : List Loc) (ls : Array Slot), va_P D CL (w_Sm_tellPrices T q0 q0_problem q0_point q0_table q0_right q0_cost q0_basic q0_problem_a q0_problem_b q0_problem_c q0_point_x q0_point_s q0_point_y Rq0_table vq0_rows vq0_variables vq0_columns vq0_stepsDone vq0_problem_rows vq0_problem_variables vq0_problem_b vq0_point_y vq0_table vq0_cost vq0_basic) H → va_D A (w_Sm_tellPrices T q0 q0_problem q0_point q0_table q0_right q0_cost q0_basic q0_problem_a q0_problem_b q0_problem_c q0_point_x q0_point_s q0_point_y Rq0_table vq0_rows vq0_variables vq0_columns vq0_stepsDone vq0_problem_rows vq0_problem_variables vq0_problem_b vq0_point_y vq0_table vq0_cost vq0_basic) → va_S A s.heap H locs → lv_has ls 5 [(0, .ref q0), (1, .int x1), (2, .double e1)] → W p l e (rmk 1 21) s m args below meth c H locs 0 0 Q (F0 m 60 ls [])) ?_ 2000 _ u15 hu15 ?_ H locs ls hP hD hS hl
        · intro st rb15 h kc15 kx15 H locs ls hP hD hS hl
          obtain ⟨x2, x4⟩ := st
          have h : s_Sm_tellPrices_B15 vq0_rows vq0_variables vq0_columns vq0_stepsDone vq0_problem_rows vq0_problem_variables vq0_problem_b vq0_point_y vq0_table vq0_cost vq0_basic x1 x2 x4 = some rb15 := h
          unfold s_Sm_tellPrices_B15 at h
          refine lv_iload hx hb d_Sm_tellPrices_15 (lv_at hl 3 rfl) ?_
          refine lv_aload_n hx hb d_Sm_tellPrices_17 rfl (lv_at hl 0 rfl) ?_
          refine va_get (D := D) (ci := 6) (v := .int vq0_rows) (C := "ConeForge$SimplexMethod") (T := FSm) (N := 10) hx hb hts iSm hown hK hP 0 rfl rfl 6 (by decide) (hts _ (bgc bw246)) (fun _ h9 => h9) rfl d_Sm_tellPrices_18 ?_
          refine lv_icmp_ge (tgt := 60) hx hb d_Sm_tellPrices_21 (by decide) (fun c1 => ?_) (fun c1 => ?_)
          · have h := it_t c1 h
            exact kx15 _ (Option.some.inj h).symm H locs ls hP hD hS (lv_sub hl [0, 1, 2] rfl)
          · have h := it_f c1 h
            refine lv_dload_n hx hb d_Sm_tellPrices_24 rfl (lv_at hl 2 rfl) ?_
            refine lv_aload_n hx hb d_Sm_tellPrices_25 rfl (lv_at hl 0 rfl) ?_
            refine va_get (D := D) (ci := 6) (v := .ref q0_cost) (C := "ConeForge$SimplexMethod") (T := FSm) (N := 10) hx hb hts iSm hown hK hP 0 rfl rfl 4 (by decide) (hts _ (bgc bw244)) (fun _ h9 => h9) rfl d_Sm_tellPrices_26 ?_
            refine lv_aload_n hx hb d_Sm_tellPrices_29 rfl (lv_at hl 0 rfl) ?_
            refine va_get (D := D) (ci := 6) (v := .ref q0_basic) (C := "ConeForge$SimplexMethod") (T := FSm) (N := 10) hx hb hts iSm hown hK hP 0 rfl rfl 5 (by decide) (hts _ (bgc bw245)) (fun _ h9 => h9) rfl d_Sm_tellPrices_30 ?_
            refine lv_iload hx hb d_Sm_tellPrices_33 (lv_at hl 3 rfl) ?_
            obtain ⟨g2, h⟩ := gd_some h
            refine va_iald hx hb hK hP 12 1 rfl rfl (inb_in g2) d_Sm_tellPrices_35 ?_
            obtain ⟨g3, h⟩ := gd_some h
            refine va_dald hx hb hK hP 11 0 rfl rfl (inb_in g3) d_Sm_tellPrices_36 ?_
            refine lv_aload_n hx hb d_Sm_tellPrices_37 rfl (lv_at hl 0 rfl) ?_
            refine va_get (D := D) (ci := 6) (v := .ref q0_table) (C := "ConeForge$SimplexMethod") (T := FSm) (N := 10) hx hb hts iSm hown hK hP 0 rfl rfl 2 (by decide) (hts _ (bgc bw242)) (fun _ h9 => h9) rfl d_Sm_tellPrices_38 ?_
            refine lv_iload hx hb d_Sm_tellPrices_41 (lv_at hl 3 rfl) ?_
            obtain ⟨g4, h⟩ := gd_some h
            refine va_aldg (f := Rq0_table) hx hb hK hP 5 3 rfl rfl (inb_in g4) d_Sm_tellPrices_43 ?_
            refine lv_aload_n hx hb d_Sm_tellPrices_44 rfl (lv_at hl 0 rfl) ?_
            refine va_get (D := D) (ci := 6) (v := .int vq0_variables) (C := "ConeForge$SimplexMethod") (T := FSm) (N := 10) hx hb hts iSm hown hK hP 0 rfl rfl 7 (by decide) (hts _ (bgc bw247)) (fun _ h9 => h9) rfl d_Sm_tellPrices_45 ?_
            refine lv_iload_n hx hb d_Sm_tellPrices_48 rfl (lv_at hl 1 rfl) ?_
            refine lv_iadd hx hb d_Sm_tellPrices_49 ?_
            obtain ⟨g5, h⟩ := gd_some h
            refine va_dald hx hb hK hP (6 + x4.toNatClampNeg) 0 (gk5 (P := fun k => (w_Sm_tellPrices T q0 q0_problem q0_point q0_table q0_right q0_cost q0_basic q0_problem_a q0_problem_b q0_problem_c q0_point_x q0_point_s q0_point_y Rq0_table vq0_rows vq0_variables vq0_columns vq0_stepsDone vq0_problem_rows vq0_problem_variables vq0_problem_b vq0_point_y vq0_table vq0_cost vq0_basic)[6 + k]? = some (Rq0_table k, .inl (T 0, 13, .inr (.inr (.inr (.inl (vq0_table k))))))) rfl rfl rfl rfl rfl _ (inb_lt g4)) rfl (inb_in g5) d_Sm_tellPrices_50 ?_
            obtain ⟨g6, h⟩ := gd_some h
            refine lv_dmul hx hb d_Sm_tellPrices_51 (isn_n g6) ?_
            obtain ⟨g7, h⟩ := gd_some h
            refine lv_dadd hx hb d_Sm_tellPrices_52 (isn_n g7) ?_
            refine lv_dstore_n (lv' := [(2, .double (FP.dadd x2 (FP.dmul (vq0_cost (vq0_basic x4.toNatClampNeg).toNatClampNeg) (vq0_table x4.toNatClampNeg (vq0_variables + x1).toNatClampNeg)))), (0, .ref q0), (1, .int x1), (4, .int x4)]) hx hb d_Sm_tellPrices_53 rfl hl (by decide) rfl (fun ls hl => ?_)
            refine lv_iinc (v := x4 + 1) (lv' := [(4, .int (x4 + 1)), (2, .double (FP.dadd x2 (FP.dmul (vq0_cost (vq0_basic x4.toNatClampNeg).toNatClampNeg) (vq0_table x4.toNatClampNeg (vq0_variables + x1).toNatClampNeg)))), (0, .ref q0), (1, .int x1)]) hx hb d_Sm_tellPrices_54 hl (k := 3) rfl rfl (by decide) rfl (fun ls hl => ?_)
            refine lv_goto (tgt := 15) hx hb d_Sm_tellPrices_57 (by decide) ?_
            exact kc15 _ (Option.some.inj h).symm H locs ls hP hD hS (lv_sub hl [2, 3, 1, 0] rfl)
        · intro H locs ls hP hD hS hl
          refine lv_aload_n hx hb d_Sm_tellPrices_60 rfl (lv_at hl 0 rfl) ?_
          refine va_get (D := D) (ci := 6) (v := .ref q0_point) (C := "ConeForge$SimplexMethod") (T := FSm) (N := 10) hx hb hts iSm hown hK hP 0 rfl rfl 1 (by decide) (hts _ (bgc bw241)) (fun _ h9 => h9) rfl d_Sm_tellPrices_61 ?_
          refine va_getN (D := D) (ci := 1) (v := .ref q0_point_y) (C := "ConeForge$Point") (T := FPt) (N := 3) hx hb hts iPt hown hK hP 3 rfl rfl 2 (by decide) (hNW.use nw43) (fun _ h9 => h9) rfl d_Sm_tellPrices_64 ?_
          refine lv_iload_n hx hb d_Sm_tellPrices_67 rfl (lv_at hl 1 rfl) ?_
          refine lv_dload_n hx hb d_Sm_tellPrices_68 rfl (lv_at hl 2 rfl) ?_
          refine lv_aload_n hx hb d_Sm_tellPrices_69 rfl (lv_at hl 0 rfl) ?_
          refine lv_iload_n hx hb d_Sm_tellPrices_70 rfl (lv_at hl 1 rfl) ?_
          obtain ⟨u8, hu8, h⟩ := bi_some h
          refine kD (v := u8) (wc := (w_Sm_signOf T q0 q0_problem q0_point q0_table q0_right q0_cost q0_basic q0_problem_a q0_problem_b q0_problem_c vq0_rows vq0_variables vq0_columns vq0_stepsDone vq0_problem_rows vq0_problem_variables vq0_problem_b)) (wc' := (w_Sm_signOf T q0 q0_problem q0_point q0_table q0_right q0_cost q0_basic q0_problem_a q0_problem_b q0_problem_c vq0_rows vq0_variables vq0_columns vq0_stepsDone vq0_problem_rows vq0_problem_variables vq0_problem_b)) (runOV (As := [.int x1]) (rest := [.double u15, .int x1, .ref q0_point_y]) ((c_Sm_signOf l D T q0 q0_problem q0_point q0_table q0_right q0_cost q0_basic q0_problem_a q0_problem_b q0_problem_c vq0_rows vq0_variables vq0_columns vq0_stepsDone vq0_problem_rows vq0_problem_variables vq0_problem_b x1 u8 hu8) H.size) ⟨hx, hb, hml, hown, hts⟩ (cwOV bw329 bw330 bw8 bw104 bw331 dd_Sm_signOf hts ⟨Nat.le_of_ble_eq_true rfl, Nat.le_of_ble_eq_true rfl⟩) (va_recv hK hP (ci := 6) (q0 := 0) rfl rfl) hNW hK hP hD [0, 1, 2] rfl (by decide) rfl hl.1 rfl (lv_room (Nat.le_of_ble_eq_true rfl)) d_Sm_tellPrices_71 ⟨Nat.le_of_ble_eq_true rfl, Nat.le_of_ble_eq_true rfl⟩) hP hD hS hA [0, 1, 2] rfl rfl (fun H locs hP hD hS => ?_)
          have hP : va_P D CL (w_Sm_tellPrices T q0 q0_problem q0_point q0_table q0_right q0_cost q0_basic q0_problem_a q0_problem_b q0_problem_c q0_point_x q0_point_s q0_point_y Rq0_table vq0_rows vq0_variables vq0_columns vq0_stepsDone vq0_problem_rows vq0_problem_variables vq0_problem_b vq0_point_y vq0_table vq0_cost vq0_basic) H := hP
          have hD : va_D A (w_Sm_tellPrices T q0 q0_problem q0_point q0_table q0_right q0_cost q0_basic q0_problem_a q0_problem_b q0_problem_c q0_point_x q0_point_s q0_point_y Rq0_table vq0_rows vq0_variables vq0_columns vq0_stepsDone vq0_problem_rows vq0_problem_variables vq0_problem_b vq0_point_y vq0_table vq0_cost vq0_basic) := hD
          obtain ⟨g9, h⟩ := gd_some h
          refine lv_dmul hx hb d_Sm_tellPrices_74 (isn_n g9) ?_
          obtain ⟨g10, h⟩ := gd_some h
          refine va_dast hx hb hK hP hD hS 4 0 rfl rfl (inb_in g10) d_Sm_tellPrices_75 (fun H locs hP hD hS => ?_)
          have hP : va_P D CL (w_Sm_tellPrices T q0 q0_problem q0_point q0_table q0_right q0_cost q0_basic q0_problem_a q0_problem_b q0_problem_c q0_point_x q0_point_s q0_point_y Rq0_table vq0_rows vq0_variables vq0_columns vq0_stepsDone vq0_problem_rows vq0_problem_variables vq0_problem_b (vf_upd vq0_point_y x1.toNatClampNeg (FP.dmul u15 u8)) vq0_table vq0_cost vq0_basic) H := hP
          have hD : va_D A (w_Sm_tellPrices T q0 q0_problem q0_point q0_table q0_right q0_cost q0_basic q0_problem_a q0_problem_b q0_problem_c q0_point_x q0_point_s q0_point_y Rq0_table vq0_rows vq0_variables vq0_columns vq0_stepsDone vq0_problem_rows vq0_problem_variables vq0_problem_b (vf_upd vq0_point_y x1.toNatClampNeg (FP.dmul u15 u8)) vq0_table vq0_cost vq0_basic) := hD
          refine lv_iinc (v := x1 + 1) (lv' := [(1, .int (x1 + 1)), (0, .ref q0), (2, .double u15)]) hx hb d_Sm_tellPrices_76 hl (k := 1) rfl rfl (by decide) rfl (fun ls hl => ?_)
          refine lv_goto (tgt := 2) hx hb d_Sm_tellPrices_79 (by decide) ?_
          exact kc2 _ (Option.some.inj h).symm H locs ls hP hD hS (lv_sub hl [1, 0] rfl)
      unfold s_Sm_tellPrices_B2 at h
      refine lv_iload_n hx hb d_Sm_tellPrices_2 rfl (lv_at hl 1 rfl) ?_
      refine lv_aload_n hx hb d_Sm_tellPrices_3 rfl (lv_at hl 0 rfl) ?_
      refine va_get (D := D) (ci := 6) (v := .int vq0_rows) (C := "ConeForge$SimplexMethod") (T := FSm) (N := 10) hx hb hts iSm hown hK hP 0 rfl rfl 6 (by decide) (hts _ (bgc bw246)) (fun _ h9 => h9) rfl d_Sm_tellPrices_4 ?_
      refine lv_icmp_ge (tgt := 82) hx hb d_Sm_tellPrices_7 (by decide) (fun c11 => ?_) (fun c11 => ?_)
      · have h := it_t c11 h
        exact kx2 _ (Option.some.inj h).symm H locs ls hP hD hS (lv_sub hl [] rfl)
      · have h := it_f c11 h
        refine lv_dconst0 hx hb d_Sm_tellPrices_10 ?_
        refine lv_dstore_n (lv' := [(2, .double FP.dconst0), (0, .ref q0), (1, .int x1)]) hx hb d_Sm_tellPrices_11 rfl hl (by decide) rfl (fun ls hl => ?_)
        refine lv_iconst (v := 0) hx hb d_Sm_tellPrices_12 (by decide) ?_
        refine lv_istore (lv' := [(4, .int 0), (2, .double FP.dconst0), (0, .ref q0), (1, .int x1)]) hx hb d_Sm_tellPrices_13 hl (by decide) rfl (fun ls hl => ?_)
        exact L15 vq0_point_y x1 FP.dconst0 0 H locs ls hP hD hS (lv_sub hl [2, 3, 1, 0] rfl) h
    · intro H locs ls hP hD hS hl
      exact rtV hx hb hr hlocks hQ (Option.some.inj h) hP hS d_Sm_tellPrices_82 rfl
  unfold s_Sm_tellPrices at h
  refine lv_iconst (v := 0) hx hb d_Sm_tellPrices_0 (by decide) ?_
  refine lv_istore_n (lv' := [(1, .int 0), (0, .ref q0)]) hx hb d_Sm_tellPrices_1 rfl hl (by decide) rfl (fun ls hl => ?_)
  exact L2 vq0_point_y 0 H locs ls hP hD hS (lv_sub hl [1, 0] rfl) h
theorem d_Sm_tellSolution_0 : decode prog_7_method_16_code 0 = .ok (.iconst 0, 1) := by decide +kernel
theorem d_Sm_tellSolution_1 : decode prog_7_method_16_code 1 = .ok (.istore_n 1, 1) := by decide +kernel
theorem d_Sm_tellSolution_2 : decode prog_7_method_16_code 2 = .ok (.iload_n 1, 1) := by decide +kernel
theorem d_Sm_tellSolution_3 : decode prog_7_method_16_code 3 = .ok (.aload_n 0, 1) := by decide +kernel
theorem d_Sm_tellSolution_4 : decode prog_7_method_16_code 4 = .ok (.getfield 41, 3) := by decide +kernel
theorem d_Sm_tellSolution_7 : decode prog_7_method_16_code 7 = .ok (.if_icmp .ge 42, 3) := by decide +kernel
theorem d_Sm_tellSolution_10 : decode prog_7_method_16_code 10 = .ok (.aload_n 0, 1) := by decide +kernel
theorem d_Sm_tellSolution_11 : decode prog_7_method_16_code 11 = .ok (.getfield 37, 3) := by decide +kernel
theorem d_Sm_tellSolution_14 : decode prog_7_method_16_code 14 = .ok (.iload_n 1, 1) := by decide +kernel
theorem d_Sm_tellSolution_15 : decode prog_7_method_16_code 15 = .ok (.iaload, 1) := by decide +kernel
theorem d_Sm_tellSolution_16 : decode prog_7_method_16_code 16 = .ok (.aload_n 0, 1) := by decide +kernel
theorem d_Sm_tellSolution_17 : decode prog_7_method_16_code 17 = .ok (.getfield 45, 3) := by decide +kernel
theorem d_Sm_tellSolution_20 : decode prog_7_method_16_code 20 = .ok (.if_icmp .ge 23, 3) := by decide +kernel
theorem d_Sm_tellSolution_23 : decode prog_7_method_16_code 23 = .ok (.aload_n 0, 1) := by decide +kernel
theorem d_Sm_tellSolution_24 : decode prog_7_method_16_code 24 = .ok (.getfield 21, 3) := by decide +kernel
theorem d_Sm_tellSolution_27 : decode prog_7_method_16_code 27 = .ok (.getfield 146, 3) := by decide +kernel
theorem d_Sm_tellSolution_30 : decode prog_7_method_16_code 30 = .ok (.aload_n 0, 1) := by decide +kernel
theorem d_Sm_tellSolution_31 : decode prog_7_method_16_code 31 = .ok (.getfield 37, 3) := by decide +kernel
theorem d_Sm_tellSolution_34 : decode prog_7_method_16_code 34 = .ok (.iload_n 1, 1) := by decide +kernel
theorem d_Sm_tellSolution_35 : decode prog_7_method_16_code 35 = .ok (.iaload, 1) := by decide +kernel
theorem d_Sm_tellSolution_36 : decode prog_7_method_16_code 36 = .ok (.aload_n 0, 1) := by decide +kernel
theorem d_Sm_tellSolution_37 : decode prog_7_method_16_code 37 = .ok (.getfield 30, 3) := by decide +kernel
theorem d_Sm_tellSolution_40 : decode prog_7_method_16_code 40 = .ok (.iload_n 1, 1) := by decide +kernel
theorem d_Sm_tellSolution_41 : decode prog_7_method_16_code 41 = .ok (.daload, 1) := by decide +kernel
theorem d_Sm_tellSolution_42 : decode prog_7_method_16_code 42 = .ok (.dastore, 1) := by decide +kernel
theorem d_Sm_tellSolution_43 : decode prog_7_method_16_code 43 = .ok (.iinc 1 1, 3) := by decide +kernel
theorem d_Sm_tellSolution_46 : decode prog_7_method_16_code 46 = .ok (.goto (-44), 3) := by decide +kernel
theorem d_Sm_tellSolution_49 : decode prog_7_method_16_code 49 = .ok (.aload_n 0, 1) := by decide +kernel
theorem d_Sm_tellSolution_50 : decode prog_7_method_16_code 50 = .ok (.invokevirtual 75, 3) := by decide +kernel
theorem d_Sm_tellSolution_53 : decode prog_7_method_16_code 53 = .ok (.iconst 0, 1) := by decide +kernel
theorem d_Sm_tellSolution_54 : decode prog_7_method_16_code 54 = .ok (.istore_n 1, 1) := by decide +kernel
theorem d_Sm_tellSolution_55 : decode prog_7_method_16_code 55 = .ok (.iload_n 1, 1) := by decide +kernel
theorem d_Sm_tellSolution_56 : decode prog_7_method_16_code 56 = .ok (.aload_n 0, 1) := by decide +kernel
theorem d_Sm_tellSolution_57 : decode prog_7_method_16_code 57 = .ok (.getfield 45, 3) := by decide +kernel
theorem d_Sm_tellSolution_60 : decode prog_7_method_16_code 60 = .ok (.if_icmp .ge 42, 3) := by decide +kernel
theorem d_Sm_tellSolution_63 : decode prog_7_method_16_code 63 = .ok (.aload_n 0, 1) := by decide +kernel
theorem d_Sm_tellSolution_64 : decode prog_7_method_16_code 64 = .ok (.getfield 21, 3) := by decide +kernel
theorem d_Sm_tellSolution_67 : decode prog_7_method_16_code 67 = .ok (.getfield 149, 3) := by decide +kernel
theorem d_Sm_tellSolution_70 : decode prog_7_method_16_code 70 = .ok (.iload_n 1, 1) := by decide +kernel
theorem d_Sm_tellSolution_71 : decode prog_7_method_16_code 71 = .ok (.aload_n 0, 1) := by decide +kernel
theorem d_Sm_tellSolution_72 : decode prog_7_method_16_code 72 = .ok (.getfield 12, 3) := by decide +kernel
theorem d_Sm_tellSolution_75 : decode prog_7_method_16_code 75 = .ok (.aload_n 0, 1) := by decide +kernel
theorem d_Sm_tellSolution_76 : decode prog_7_method_16_code 76 = .ok (.getfield 12, 3) := by decide +kernel
theorem d_Sm_tellSolution_79 : decode prog_7_method_16_code 79 = .ok (.getfield 95, 3) := by decide +kernel
theorem d_Sm_tellSolution_82 : decode prog_7_method_16_code 82 = .ok (.iload_n 1, 1) := by decide +kernel
theorem d_Sm_tellSolution_83 : decode prog_7_method_16_code 83 = .ok (.daload, 1) := by decide +kernel
theorem d_Sm_tellSolution_84 : decode prog_7_method_16_code 84 = .ok (.iload_n 1, 1) := by decide +kernel
theorem d_Sm_tellSolution_85 : decode prog_7_method_16_code 85 = .ok (.aload_n 0, 1) := by decide +kernel
theorem d_Sm_tellSolution_86 : decode prog_7_method_16_code 86 = .ok (.getfield 21, 3) := by decide +kernel
theorem d_Sm_tellSolution_89 : decode prog_7_method_16_code 89 = .ok (.getfield 143, 3) := by decide +kernel
theorem d_Sm_tellSolution_92 : decode prog_7_method_16_code 92 = .ok (.invokevirtual 152, 3) := by decide +kernel
theorem d_Sm_tellSolution_95 : decode prog_7_method_16_code 95 = .ok (.dastore, 1) := by decide +kernel
theorem d_Sm_tellSolution_96 : decode prog_7_method_16_code 96 = .ok (.iinc 1 1, 3) := by decide +kernel
theorem d_Sm_tellSolution_99 : decode prog_7_method_16_code 99 = .ok (.goto (-44), 3) := by decide +kernel
theorem d_Sm_tellSolution_102 : decode prog_7_method_16_code 102 = .ok (.return_, 1) := by decide +kernel
abbrev w_Sm_tellSolution (T : Nat → ClassId) (q0 : Nat) (q0_problem : Nat) (q0_point : Nat) (q0_table : Nat) (q0_right : Nat) (q0_cost : Nat) (q0_basic : Nat) (q0_problem_a : Nat) (q0_problem_b : Nat) (q0_problem_c : Nat) (Rq0_problem_a : Nat → Nat) (q0_point_x : Nat) (q0_point_s : Nat) (q0_point_y : Nat) (Rq0_table : Nat → Nat) (vq0_rows : Int32) (vq0_variables : Int32) (vq0_columns : Int32) (vq0_stepsDone : Int32) (vq0_problem_rows : Int32) (vq0_problem_variables : Int32) (vq0_problem_a : Nat → Nat → UInt64) (vq0_problem_b : Nat → UInt64) (vq0_problem_c : Nat → UInt64) (vq0_point_x : Nat → UInt64) (vq0_point_s : Nat → UInt64) (vq0_point_y : Nat → UInt64) (vq0_table : Nat → Nat → UInt64) (vq0_right : Nat → UInt64) (vq0_cost : Nat → UInt64) (vq0_basic : Nat → Int32) : va_W := [(q0, .inr (6, [.ref q0_problem, .ref q0_point, .ref q0_table, .ref q0_right, .ref q0_cost, .ref q0_basic, .int vq0_rows, .int vq0_variables, .int vq0_columns, .int vq0_stepsDone])), (q0_problem, .inr (0, [.int vq0_problem_rows, .int vq0_problem_variables, .ref q0_problem_a, .ref q0_problem_b, .ref q0_problem_c])), (q0_problem_a, .inl (T 3, 5, .inr (.inr (.inr (.inr (fun i => some (Rq0_problem_a i))))))), (Rq0_problem_a 0, .inl (T 0, 8, .inr (.inr (.inr (.inl (vq0_problem_a 0)))))), (Rq0_problem_a 1, .inl (T 0, 8, .inr (.inr (.inr (.inl (vq0_problem_a 1)))))), (Rq0_problem_a 2, .inl (T 0, 8, .inr (.inr (.inr (.inl (vq0_problem_a 2)))))), (Rq0_problem_a 3, .inl (T 0, 8, .inr (.inr (.inr (.inl (vq0_problem_a 3)))))), (Rq0_problem_a 4, .inl (T 0, 8, .inr (.inr (.inr (.inl (vq0_problem_a 4)))))), (q0_problem_b, .inl (T 0, 5, .inr (.inr (.inr (.inl vq0_problem_b))))), (q0_problem_c, .inl (T 0, 8, .inr (.inr (.inr (.inl vq0_problem_c))))), (q0_point, .inr (1, [.ref q0_point_x, .ref q0_point_s, .ref q0_point_y])), (q0_point_x, .inl (T 0, 8, .inr (.inr (.inr (.inl vq0_point_x))))), (q0_point_s, .inl (T 0, 8, .inr (.inr (.inr (.inl vq0_point_s))))), (q0_point_y, .inl (T 0, 5, .inr (.inr (.inr (.inl vq0_point_y))))), (q0_table, .inl (T 3, 5, .inr (.inr (.inr (.inr (fun i => some (Rq0_table i))))))), (Rq0_table 0, .inl (T 0, 13, .inr (.inr (.inr (.inl (vq0_table 0)))))), (Rq0_table 1, .inl (T 0, 13, .inr (.inr (.inr (.inl (vq0_table 1)))))), (Rq0_table 2, .inl (T 0, 13, .inr (.inr (.inr (.inl (vq0_table 2)))))), (Rq0_table 3, .inl (T 0, 13, .inr (.inr (.inr (.inl (vq0_table 3)))))), (Rq0_table 4, .inl (T 0, 13, .inr (.inr (.inr (.inl (vq0_table 4)))))), (q0_right, .inl (T 0, 5, .inr (.inr (.inr (.inl vq0_right))))), (q0_cost, .inl (T 0, 13, .inr (.inr (.inr (.inl vq0_cost))))), (q0_basic, .inl (T 1, 5, .inl vq0_basic))]
def s_Sm_tellSolution_B55 (vq0_rows : Int32) (vq0_variables : Int32) (vq0_columns : Int32) (vq0_stepsDone : Int32) (vq0_problem_rows : Int32) (vq0_problem_variables : Int32) (vq0_problem_a : Nat → Nat → UInt64) (vq0_problem_b : Nat → UInt64) (vq0_problem_c : Nat → UInt64) (vq0_point_x : Nat → UInt64) (vq0_point_y : Nat → UInt64) (vq0_table : Nat → Nat → UInt64) (vq0_right : Nat → UInt64) (vq0_cost : Nat → UInt64) (vq0_basic : Nat → Int32) (vq0_point_s : Nat → UInt64) (x1 : Int32) : Option (((Nat → UInt64) × Int32) ⊕ ((Nat → UInt64))) :=
  if vq0_variables ≤ x1 then (some (.inr vq0_point_s)) else (gd (inb x1 8) <| (s_Pb_lessColumn 5 vq0_problem_rows vq0_problem_variables vq0_problem_a vq0_point_y (vq0_problem_c x1.toNatClampNeg) x1).bind fun u3 => gd (inb x1 8) <| some (.inl (vf_upd vq0_point_s x1.toNatClampNeg u3, x1 + 1)))
def s_Sm_tellSolution_L55 (vq0_rows : Int32) (vq0_variables : Int32) (vq0_columns : Int32) (vq0_stepsDone : Int32) (vq0_problem_rows : Int32) (vq0_problem_variables : Int32) (vq0_problem_a : Nat → Nat → UInt64) (vq0_problem_b : Nat → UInt64) (vq0_problem_c : Nat → UInt64) (vq0_point_x : Nat → UInt64) (vq0_point_s : Nat → UInt64) (vq0_point_y : Nat → UInt64) (vq0_table : Nat → Nat → UInt64) (vq0_right : Nat → UInt64) (vq0_cost : Nat → UInt64) (vq0_basic : Nat → Int32) (x1 : Int32) : Option ((Nat → UInt64) × (Nat → UInt64) × (Nat → UInt64)) :=
  (loopO (fun (st : (Nat → UInt64) × Int32) => s_Sm_tellSolution_B55 vq0_rows vq0_variables vq0_columns vq0_stepsDone vq0_problem_rows vq0_problem_variables vq0_problem_a vq0_problem_b vq0_problem_c vq0_point_x vq0_point_y vq0_table vq0_right vq0_cost vq0_basic st.1 st.2) 2000 (vq0_point_s, x1)).bind fun u55 => some (vq0_point_x, u55, vq0_point_y)
def s_Sm_tellSolution_J43 (vq0_rows : Int32) (vq0_variables : Int32) (vq0_columns : Int32) (vq0_stepsDone : Int32) (vq0_problem_rows : Int32) (vq0_problem_variables : Int32) (vq0_problem_a : Nat → Nat → UInt64) (vq0_problem_b : Nat → UInt64) (vq0_problem_c : Nat → UInt64) (vq0_point_x : Nat → UInt64) (vq0_point_s : Nat → UInt64) (vq0_point_y : Nat → UInt64) (vq0_table : Nat → Nat → UInt64) (vq0_right : Nat → UInt64) (vq0_cost : Nat → UInt64) (vq0_basic : Nat → Int32) (x1 : Int32) : Option (((Nat → UInt64) × Int32) ⊕ ((Nat → UInt64))) :=
  some (.inl (vq0_point_x, x1 + 1))
def s_Sm_tellSolution_B2 (vq0_rows : Int32) (vq0_variables : Int32) (vq0_columns : Int32) (vq0_stepsDone : Int32) (vq0_problem_rows : Int32) (vq0_problem_variables : Int32) (vq0_problem_a : Nat → Nat → UInt64) (vq0_problem_b : Nat → UInt64) (vq0_problem_c : Nat → UInt64) (vq0_point_s : Nat → UInt64) (vq0_point_y : Nat → UInt64) (vq0_table : Nat → Nat → UInt64) (vq0_right : Nat → UInt64) (vq0_cost : Nat → UInt64) (vq0_basic : Nat → Int32) (vq0_point_x : Nat → UInt64) (x1 : Int32) : Option (((Nat → UInt64) × Int32) ⊕ ((Nat → UInt64))) :=
  if vq0_rows ≤ x1 then (some (.inr vq0_point_x)) else (gd (inb x1 5) <| if vq0_variables ≤ (vq0_basic x1.toNatClampNeg) then (s_Sm_tellSolution_J43 vq0_rows vq0_variables vq0_columns vq0_stepsDone vq0_problem_rows vq0_problem_variables vq0_problem_a vq0_problem_b vq0_problem_c vq0_point_x vq0_point_s vq0_point_y vq0_table vq0_right vq0_cost vq0_basic x1) else (gd (inb x1 5) <| gd (inb x1 5) <| gd (inb (vq0_basic x1.toNatClampNeg) 8) <| s_Sm_tellSolution_J43 vq0_rows vq0_variables vq0_columns vq0_stepsDone vq0_problem_rows vq0_problem_variables vq0_problem_a vq0_problem_b vq0_problem_c (vf_upd vq0_point_x (vq0_basic x1.toNatClampNeg).toNatClampNeg (vq0_right x1.toNatClampNeg)) vq0_point_s vq0_point_y vq0_table vq0_right vq0_cost vq0_basic x1))
def s_Sm_tellSolution_L2 (vq0_rows : Int32) (vq0_variables : Int32) (vq0_columns : Int32) (vq0_stepsDone : Int32) (vq0_problem_rows : Int32) (vq0_problem_variables : Int32) (vq0_problem_a : Nat → Nat → UInt64) (vq0_problem_b : Nat → UInt64) (vq0_problem_c : Nat → UInt64) (vq0_point_x : Nat → UInt64) (vq0_point_s : Nat → UInt64) (vq0_point_y : Nat → UInt64) (vq0_table : Nat → Nat → UInt64) (vq0_right : Nat → UInt64) (vq0_cost : Nat → UInt64) (vq0_basic : Nat → Int32) (x1 : Int32) : Option ((Nat → UInt64) × (Nat → UInt64) × (Nat → UInt64)) :=
  (loopO (fun (st : (Nat → UInt64) × Int32) => s_Sm_tellSolution_B2 vq0_rows vq0_variables vq0_columns vq0_stepsDone vq0_problem_rows vq0_problem_variables vq0_problem_a vq0_problem_b vq0_problem_c vq0_point_s vq0_point_y vq0_table vq0_right vq0_cost vq0_basic st.1 st.2) 2000 (vq0_point_x, x1)).bind fun u2 => (s_Sm_tellPrices vq0_rows vq0_variables vq0_columns vq0_stepsDone vq0_problem_rows vq0_problem_variables vq0_problem_b vq0_point_y vq0_table vq0_cost vq0_basic).bind fun u11 => s_Sm_tellSolution_L55 vq0_rows vq0_variables vq0_columns vq0_stepsDone vq0_problem_rows vq0_problem_variables vq0_problem_a vq0_problem_b vq0_problem_c u2 vq0_point_s u11 vq0_table vq0_right vq0_cost vq0_basic 0
def s_Sm_tellSolution (vq0_rows : Int32) (vq0_variables : Int32) (vq0_columns : Int32) (vq0_stepsDone : Int32) (vq0_problem_rows : Int32) (vq0_problem_variables : Int32) (vq0_problem_a : Nat → Nat → UInt64) (vq0_problem_b : Nat → UInt64) (vq0_problem_c : Nat → UInt64) (vq0_point_x : Nat → UInt64) (vq0_point_s : Nat → UInt64) (vq0_point_y : Nat → UInt64) (vq0_table : Nat → Nat → UInt64) (vq0_right : Nat → UInt64) (vq0_cost : Nat → UInt64) (vq0_basic : Nat → Int32) : Option ((Nat → UInt64) × (Nat → UInt64) × (Nat → UInt64)) :=
  s_Sm_tellSolution_L2 vq0_rows vq0_variables vq0_columns vq0_stepsDone vq0_problem_rows vq0_problem_variables vq0_problem_a vq0_problem_b vq0_problem_c vq0_point_x vq0_point_s vq0_point_y vq0_table vq0_right vq0_cost vq0_basic 0
set_option maxHeartbeats 4000000 in
set_option maxRecDepth 100000 in
theorem c_Sm_tellSolution (l : Launch) (D : va_G) (T : Nat → ClassId) (q0 : Nat) (q0_problem : Nat) (q0_point : Nat) (q0_table : Nat) (q0_right : Nat) (q0_cost : Nat) (q0_basic : Nat) (q0_problem_a : Nat) (q0_problem_b : Nat) (q0_problem_c : Nat) (Rq0_problem_a : Nat → Nat) (q0_point_x : Nat) (q0_point_s : Nat) (q0_point_y : Nat) (Rq0_table : Nat → Nat) (vq0_rows : Int32) (vq0_variables : Int32) (vq0_columns : Int32) (vq0_stepsDone : Int32) (vq0_problem_rows : Int32) (vq0_problem_variables : Int32) (vq0_problem_a : Nat → Nat → UInt64) (vq0_problem_b : Nat → UInt64) (vq0_problem_c : Nat → UInt64) (vq0_point_x : Nat → UInt64) (vq0_point_s : Nat → UInt64) (vq0_point_y : Nat → UInt64) (vq0_table : Nat → Nat → UInt64) (vq0_right : Nat → UInt64) (vq0_cost : Nat → UInt64) (vq0_basic : Nat → Int32) (rm : (Nat → UInt64) × (Nat → UInt64) × (Nat → UInt64)) (h : s_Sm_tellSolution vq0_rows vq0_variables vq0_columns vq0_stepsDone vq0_problem_rows vq0_problem_variables vq0_problem_a vq0_problem_b vq0_problem_c vq0_point_x vq0_point_s vq0_point_y vq0_table vq0_right vq0_cost vq0_basic = some rm) : CtV l y_Sm_tellSolution (Cond.code y_Sm_tellSolution prog_7_method_16_code 2 none :: BIG) 2 45 D T [.ref q0] (w_Sm_tellSolution T q0 q0_problem q0_point q0_table q0_right q0_cost q0_basic q0_problem_a q0_problem_b q0_problem_c Rq0_problem_a q0_point_x q0_point_s q0_point_y Rq0_table vq0_rows vq0_variables vq0_columns vq0_stepsDone vq0_problem_rows vq0_problem_variables vq0_problem_a vq0_problem_b vq0_problem_c vq0_point_x vq0_point_s vq0_point_y vq0_table vq0_right vq0_cost vq0_basic) (fun r => (w_Sm_tellSolution T q0 q0_problem q0_point q0_table q0_right q0_cost q0_basic q0_problem_a q0_problem_b q0_problem_c Rq0_problem_a q0_point_x q0_point_s q0_point_y Rq0_table vq0_rows vq0_variables vq0_columns vq0_stepsDone vq0_problem_rows vq0_problem_variables vq0_problem_a vq0_problem_b vq0_problem_c r.1 r.2.1 r.2.2 vq0_table vq0_right vq0_cost vq0_basic)) rm := by
  refine cf_entry (y := y_Sm_tellSolution) (cc := prog_7_method_16_code) (nL := 2) (ret := none) (fr := 2) (lo := 45) (T := T) (av := [.ref q0]) (w := (w_Sm_tellSolution T q0 q0_problem q0_point q0_table q0_right q0_cost q0_basic q0_problem_a q0_problem_b q0_problem_c Rq0_problem_a q0_point_x q0_point_s q0_point_y Rq0_table vq0_rows vq0_variables vq0_columns vq0_stepsDone vq0_problem_rows vq0_problem_variables vq0_problem_a vq0_problem_b vq0_problem_c vq0_point_x vq0_point_s vq0_point_y vq0_table vq0_right vq0_cost vq0_basic)) (Qc := cfQv D (fun r => (w_Sm_tellSolution T q0 q0_problem q0_point q0_table q0_right q0_cost q0_basic q0_problem_a q0_problem_b q0_problem_c Rq0_problem_a q0_point_x q0_point_s q0_point_y Rq0_table vq0_rows vq0_variables vq0_columns vq0_stepsDone vq0_problem_rows vq0_problem_variables vq0_problem_a vq0_problem_b vq0_problem_c r.1 r.2.1 r.2.2 vq0_table vq0_right vq0_cost vq0_basic)) rm) (by decide) rfl (Nat.le_of_ble_eq_true rfl) ?_
  intro p e s m args below meth c A Q H locs ls hx hb hr hlocks hml hown hts hNW hK hA hQ hP hD hS hl
  have hown : s.vm.findClass "ConeForge$SimplexMethod" = some m.cls := hown
  have hl : lv_has ls 2 [(0, .ref q0)] := hl
  have L55 : ∀ (vq0_point_x : Nat → UInt64) (vq0_point_s : Nat → UInt64) (vq0_point_y : Nat → UInt64) (x1 : Int32), ∀ (H : Heap) (locs : List Loc) (ls : Array Slot), va_P D CL (w_Sm_tellSolution T q0 q0_problem q0_point q0_table q0_right q0_cost q0_basic q0_problem_a q0_problem_b q0_problem_c Rq0_problem_a q0_point_x q0_point_s q0_point_y Rq0_table vq0_rows vq0_variables vq0_columns vq0_stepsDone vq0_problem_rows vq0_problem_variables vq0_problem_a vq0_problem_b vq0_problem_c vq0_point_x vq0_point_s vq0_point_y vq0_table vq0_right vq0_cost vq0_basic) H → va_D A (w_Sm_tellSolution T q0 q0_problem q0_point q0_table q0_right q0_cost q0_basic q0_problem_a q0_problem_b q0_problem_c Rq0_problem_a q0_point_x q0_point_s q0_point_y Rq0_table vq0_rows vq0_variables vq0_columns vq0_stepsDone vq0_problem_rows vq0_problem_variables vq0_problem_a vq0_problem_b vq0_problem_c vq0_point_x vq0_point_s vq0_point_y vq0_table vq0_right vq0_cost vq0_basic) → va_S A s.heap H locs → lv_has ls 2 [(0, .ref q0), (1, .int x1)] → s_Sm_tellSolution_L55 vq0_rows vq0_variables vq0_columns vq0_stepsDone vq0_problem_rows vq0_problem_variables vq0_problem_a vq0_problem_b vq0_problem_c vq0_point_x vq0_point_s vq0_point_y vq0_table vq0_right vq0_cost vq0_basic x1 = some rm → W p l e (rmk 2 45) s m args below meth c H locs 0 0 Q (F0 m 55 ls []) := by
    intro vq0_point_x vq0_point_s vq0_point_y x1 H locs ls hP hD hS hl h
    unfold s_Sm_tellSolution_L55 at h
    obtain ⟨u55, hu55, h⟩ := bi_some h
    refine loopO_W (Wh := fun (st : (Nat → UInt64) × Int32) => ∀ (H : Heap) (locs : List Loc) (ls : Array Slot), va_P D CL (w_Sm_tellSolution T q0 q0_problem q0_point q0_table q0_right q0_cost q0_basic q0_problem_a q0_problem_b q0_problem_c Rq0_problem_a q0_point_x q0_point_s q0_point_y Rq0_table vq0_rows vq0_variables vq0_columns vq0_stepsDone vq0_problem_rows vq0_problem_variables vq0_problem_a vq0_problem_b vq0_problem_c vq0_point_x st.1 vq0_point_y vq0_table vq0_right vq0_cost vq0_basic) H → va_D A (w_Sm_tellSolution T q0 q0_problem q0_point q0_table q0_right q0_cost q0_basic q0_problem_a q0_problem_b q0_problem_c Rq0_problem_a q0_point_x q0_point_s q0_point_y Rq0_table vq0_rows vq0_variables vq0_columns vq0_stepsDone vq0_problem_rows vq0_problem_variables vq0_problem_a vq0_problem_b vq0_problem_c vq0_point_x st.1 vq0_point_y vq0_table vq0_right vq0_cost vq0_basic) → va_S A s.heap H locs → lv_has ls 2 [(0, .ref q0), (1, .int st.2)] → W p l e (rmk 2 45) s m args below meth c H locs 0 0 Q (F0 m 55 ls [])) (Wx := fun (e1 : (Nat → UInt64)) => ∀ (H : Heap) (locs : List Loc) (ls : Array Slot), va_P D CL (w_Sm_tellSolution T q0 q0_problem q0_point q0_table q0_right q0_cost q0_basic q0_problem_a q0_problem_b q0_problem_c Rq0_problem_a q0_point_x q0_point_s q0_point_y Rq0_table vq0_rows vq0_variables vq0_columns vq0_stepsDone vq0_problem_rows vq0_problem_variables vq0_problem_a vq0_problem_b vq0_problem_c vq0_point_x e1 vq0_point_y vq0_table vq0_right vq0_cost vq0_basic) H → va_D A (w_Sm_tellSolution T q0 q0_problem q0_point q0_table q0_right q0_cost q0_basic q0_problem_a q0_problem_b q0_problem_c Rq0_problem_a q0_point_x q0_point_s q0_point_y Rq0_table vq0_rows vq0_variables vq0_columns vq0_stepsDone vq0_problem_rows vq0_problem_variables vq0_problem_a vq0_problem_b vq0_problem_c vq0_point_x e1 vq0_point_y vq0_table vq0_right vq0_cost vq0_basic) → va_S A s.heap H locs → lv_has ls 2 [] → W p l e (rmk 2 45) s m args below meth c H locs 0 0 Q (F0 m 102 ls [])) ?_ 2000 _ u55 hu55 ?_ H locs ls hP hD hS hl
    · intro st rb55 h kc55 kx55 H locs ls hP hD hS hl
      obtain ⟨vq0_point_s, x1⟩ := st
      have h : s_Sm_tellSolution_B55 vq0_rows vq0_variables vq0_columns vq0_stepsDone vq0_problem_rows vq0_problem_variables vq0_problem_a vq0_problem_b vq0_problem_c vq0_point_x vq0_point_y vq0_table vq0_right vq0_cost vq0_basic vq0_point_s x1 = some rb55 := h
      unfold s_Sm_tellSolution_B55 at h
      refine lv_iload_n hx hb d_Sm_tellSolution_55 rfl (lv_at hl 1 rfl) ?_
      refine lv_aload_n hx hb d_Sm_tellSolution_56 rfl (lv_at hl 0 rfl) ?_
      refine va_get (D := D) (ci := 6) (v := .int vq0_variables) (C := "ConeForge$SimplexMethod") (T := FSm) (N := 10) hx hb hts iSm hown hK hP 0 rfl rfl 7 (by decide) (hts _ (bgc bw247)) (fun _ h9 => h9) rfl d_Sm_tellSolution_57 ?_
      refine lv_icmp_ge (tgt := 102) hx hb d_Sm_tellSolution_60 (by decide) (fun c1 => ?_) (fun c1 => ?_)
      · have h := it_t c1 h
        exact kx55 _ (Option.some.inj h).symm H locs ls hP hD hS (lv_sub hl [] rfl)
      · have h := it_f c1 h
        refine lv_aload_n hx hb d_Sm_tellSolution_63 rfl (lv_at hl 0 rfl) ?_
        refine va_get (D := D) (ci := 6) (v := .ref q0_point) (C := "ConeForge$SimplexMethod") (T := FSm) (N := 10) hx hb hts iSm hown hK hP 0 rfl rfl 1 (by decide) (hts _ (bgc bw241)) (fun _ h9 => h9) rfl d_Sm_tellSolution_64 ?_
        refine va_getN (D := D) (ci := 1) (v := .ref q0_point_s) (C := "ConeForge$Point") (T := FPt) (N := 3) hx hb hts iPt hown hK hP 10 rfl rfl 1 (by decide) (hNW.use nw39) (fun _ h9 => h9) rfl d_Sm_tellSolution_67 ?_
        refine lv_iload_n hx hb d_Sm_tellSolution_70 rfl (lv_at hl 1 rfl) ?_
        refine lv_aload_n hx hb d_Sm_tellSolution_71 rfl (lv_at hl 0 rfl) ?_
        refine va_get (D := D) (ci := 6) (v := .ref q0_problem) (C := "ConeForge$SimplexMethod") (T := FSm) (N := 10) hx hb hts iSm hown hK hP 0 rfl rfl 0 (by decide) (hts _ (bgc bw240)) (fun _ h9 => h9) rfl d_Sm_tellSolution_72 ?_
        refine lv_aload_n hx hb d_Sm_tellSolution_75 rfl (lv_at hl 0 rfl) ?_
        refine va_get (D := D) (ci := 6) (v := .ref q0_problem) (C := "ConeForge$SimplexMethod") (T := FSm) (N := 10) hx hb hts iSm hown hK hP 0 rfl rfl 0 (by decide) (hts _ (bgc bw240)) (fun _ h9 => h9) rfl d_Sm_tellSolution_76 ?_
        refine va_getN (D := D) (ci := 0) (v := .ref q0_problem_c) (C := "ConeForge$Problem") (T := FPb) (N := 5) hx hb hts iPb hown hK hP 1 rfl rfl 4 (by decide) (hNW.use nw25) (fun _ h9 => h9) rfl d_Sm_tellSolution_79 ?_
        refine lv_iload_n hx hb d_Sm_tellSolution_82 rfl (lv_at hl 1 rfl) ?_
        obtain ⟨g2, h⟩ := gd_some h
        refine va_dald hx hb hK hP 9 0 rfl rfl (inb_in g2) d_Sm_tellSolution_83 ?_
        refine lv_iload_n hx hb d_Sm_tellSolution_84 rfl (lv_at hl 1 rfl) ?_
        refine lv_aload_n hx hb d_Sm_tellSolution_85 rfl (lv_at hl 0 rfl) ?_
        refine va_get (D := D) (ci := 6) (v := .ref q0_point) (C := "ConeForge$SimplexMethod") (T := FSm) (N := 10) hx hb hts iSm hown hK hP 0 rfl rfl 1 (by decide) (hts _ (bgc bw241)) (fun _ h9 => h9) rfl d_Sm_tellSolution_86 ?_
        refine va_getN (D := D) (ci := 1) (v := .ref q0_point_y) (C := "ConeForge$Point") (T := FPt) (N := 3) hx hb hts iPt hown hK hP 10 rfl rfl 2 (by decide) (hNW.use nw43) (fun _ h9 => h9) rfl d_Sm_tellSolution_89 ?_
        obtain ⟨u3, hu3, h⟩ := bi_some h
        refine kD (v := u3) (wc := (w_Pb_lessColumn T q0_problem q0_problem_a q0_problem_b q0_problem_c Rq0_problem_a q0_point_y 5 vq0_problem_rows vq0_problem_variables vq0_problem_a vq0_point_y)) (wc' := (w_Pb_lessColumn T q0_problem q0_problem_a q0_problem_b q0_problem_c Rq0_problem_a q0_point_y 5 vq0_problem_rows vq0_problem_variables vq0_problem_a vq0_point_y)) (runNV (As := [.double (vq0_problem_c x1.toNatClampNeg), .int x1, .ref q0_point_y]) (rest := [.int x1, .ref q0_point_s]) ((c_Pb_lessColumn l D T q0_problem q0_problem_a q0_problem_b q0_problem_c Rq0_problem_a q0_point_y 5 vq0_problem_rows vq0_problem_variables vq0_problem_a vq0_point_y (vq0_problem_c x1.toNatClampNeg) x1 u3 hu3) H.size) ⟨hx, hb, hml, hown, hts⟩ (cwNV nw73 bw376 bw22 bw98 bw377 dd_Pb_lessColumn hts hNW ⟨Nat.le_of_ble_eq_true rfl, Nat.le_of_ble_eq_true rfl⟩) (va_recv hK hP (ci := 0) (q0 := 1) rfl rfl) hNW hK hP hD [1, 2, 3, 4, 5, 6, 7, 13] rfl (by decide) rfl hl.1 rfl (lv_room (Nat.le_of_ble_eq_true rfl)) d_Sm_tellSolution_92 ⟨Nat.le_of_ble_eq_true rfl, Nat.le_of_ble_eq_true rfl⟩) hP hD hS hA [1, 2, 3, 4, 5, 6, 7, 13] rfl rfl (fun H locs hP hD hS => ?_)
        have hP : va_P D CL (w_Sm_tellSolution T q0 q0_problem q0_point q0_table q0_right q0_cost q0_basic q0_problem_a q0_problem_b q0_problem_c Rq0_problem_a q0_point_x q0_point_s q0_point_y Rq0_table vq0_rows vq0_variables vq0_columns vq0_stepsDone vq0_problem_rows vq0_problem_variables vq0_problem_a vq0_problem_b vq0_problem_c vq0_point_x vq0_point_s vq0_point_y vq0_table vq0_right vq0_cost vq0_basic) H := hP
        have hD : va_D A (w_Sm_tellSolution T q0 q0_problem q0_point q0_table q0_right q0_cost q0_basic q0_problem_a q0_problem_b q0_problem_c Rq0_problem_a q0_point_x q0_point_s q0_point_y Rq0_table vq0_rows vq0_variables vq0_columns vq0_stepsDone vq0_problem_rows vq0_problem_variables vq0_problem_a vq0_problem_b vq0_problem_c vq0_point_x vq0_point_s vq0_point_y vq0_table vq0_right vq0_cost vq0_basic) := hD
        obtain ⟨g4, h⟩ := gd_some h
        refine va_dast hx hb hK hP hD hS 12 0 rfl rfl (inb_in g4) d_Sm_tellSolution_95 (fun H locs hP hD hS => ?_)
        have hP : va_P D CL (w_Sm_tellSolution T q0 q0_problem q0_point q0_table q0_right q0_cost q0_basic q0_problem_a q0_problem_b q0_problem_c Rq0_problem_a q0_point_x q0_point_s q0_point_y Rq0_table vq0_rows vq0_variables vq0_columns vq0_stepsDone vq0_problem_rows vq0_problem_variables vq0_problem_a vq0_problem_b vq0_problem_c vq0_point_x (vf_upd vq0_point_s x1.toNatClampNeg u3) vq0_point_y vq0_table vq0_right vq0_cost vq0_basic) H := hP
        have hD : va_D A (w_Sm_tellSolution T q0 q0_problem q0_point q0_table q0_right q0_cost q0_basic q0_problem_a q0_problem_b q0_problem_c Rq0_problem_a q0_point_x q0_point_s q0_point_y Rq0_table vq0_rows vq0_variables vq0_columns vq0_stepsDone vq0_problem_rows vq0_problem_variables vq0_problem_a vq0_problem_b vq0_problem_c vq0_point_x (vf_upd vq0_point_s x1.toNatClampNeg u3) vq0_point_y vq0_table vq0_right vq0_cost vq0_basic) := hD
        refine lv_iinc (v := x1 + 1) (lv' := [(1, .int (x1 + 1)), (0, .ref q0)]) hx hb d_Sm_tellSolution_96 hl (k := 1) rfl rfl (by decide) rfl (fun ls hl => ?_)
        refine lv_goto (tgt := 55) hx hb d_Sm_tellSolution_99 (by decide) ?_
        exact kc55 _ (Option.some.inj h).symm H locs ls hP hD hS (lv_sub hl [1, 0] rfl)
    · intro H locs ls hP hD hS hl
      exact rtV hx hb hr hlocks hQ (Option.some.inj h) hP hS d_Sm_tellSolution_102 rfl
  have L2 : ∀ (vq0_point_x : Nat → UInt64) (vq0_point_s : Nat → UInt64) (vq0_point_y : Nat → UInt64) (x1 : Int32), ∀ (H : Heap) (locs : List Loc) (ls : Array Slot), va_P D CL (w_Sm_tellSolution T q0 q0_problem q0_point q0_table q0_right q0_cost q0_basic q0_problem_a q0_problem_b q0_problem_c Rq0_problem_a q0_point_x q0_point_s q0_point_y Rq0_table vq0_rows vq0_variables vq0_columns vq0_stepsDone vq0_problem_rows vq0_problem_variables vq0_problem_a vq0_problem_b vq0_problem_c vq0_point_x vq0_point_s vq0_point_y vq0_table vq0_right vq0_cost vq0_basic) H → va_D A (w_Sm_tellSolution T q0 q0_problem q0_point q0_table q0_right q0_cost q0_basic q0_problem_a q0_problem_b q0_problem_c Rq0_problem_a q0_point_x q0_point_s q0_point_y Rq0_table vq0_rows vq0_variables vq0_columns vq0_stepsDone vq0_problem_rows vq0_problem_variables vq0_problem_a vq0_problem_b vq0_problem_c vq0_point_x vq0_point_s vq0_point_y vq0_table vq0_right vq0_cost vq0_basic) → va_S A s.heap H locs → lv_has ls 2 [(0, .ref q0), (1, .int x1)] → s_Sm_tellSolution_L2 vq0_rows vq0_variables vq0_columns vq0_stepsDone vq0_problem_rows vq0_problem_variables vq0_problem_a vq0_problem_b vq0_problem_c vq0_point_x vq0_point_s vq0_point_y vq0_table vq0_right vq0_cost vq0_basic x1 = some rm → W p l e (rmk 2 45) s m args below meth c H locs 0 0 Q (F0 m 2 ls []) := by
    intro vq0_point_x vq0_point_s vq0_point_y x1 H locs ls hP hD hS hl h
    unfold s_Sm_tellSolution_L2 at h
    obtain ⟨u2, hu2, h⟩ := bi_some h
    refine loopO_W (Wh := fun (st : (Nat → UInt64) × Int32) => ∀ (H : Heap) (locs : List Loc) (ls : Array Slot), va_P D CL (w_Sm_tellSolution T q0 q0_problem q0_point q0_table q0_right q0_cost q0_basic q0_problem_a q0_problem_b q0_problem_c Rq0_problem_a q0_point_x q0_point_s q0_point_y Rq0_table vq0_rows vq0_variables vq0_columns vq0_stepsDone vq0_problem_rows vq0_problem_variables vq0_problem_a vq0_problem_b vq0_problem_c st.1 vq0_point_s vq0_point_y vq0_table vq0_right vq0_cost vq0_basic) H → va_D A (w_Sm_tellSolution T q0 q0_problem q0_point q0_table q0_right q0_cost q0_basic q0_problem_a q0_problem_b q0_problem_c Rq0_problem_a q0_point_x q0_point_s q0_point_y Rq0_table vq0_rows vq0_variables vq0_columns vq0_stepsDone vq0_problem_rows vq0_problem_variables vq0_problem_a vq0_problem_b vq0_problem_c st.1 vq0_point_s vq0_point_y vq0_table vq0_right vq0_cost vq0_basic) → va_S A s.heap H locs → lv_has ls 2 [(0, .ref q0), (1, .int st.2)] → W p l e (rmk 2 45) s m args below meth c H locs 0 0 Q (F0 m 2 ls [])) (Wx := fun (e1 : (Nat → UInt64)) => ∀ (H : Heap) (locs : List Loc) (ls : Array Slot), va_P D CL (w_Sm_tellSolution T q0 q0_problem q0_point q0_table q0_right q0_cost q0_basic q0_problem_a q0_problem_b q0_problem_c Rq0_problem_a q0_point_x q0_point_s q0_point_y Rq0_table vq0_rows vq0_variables vq0_columns vq0_stepsDone vq0_problem_rows vq0_problem_variables vq0_problem_a vq0_problem_b vq0_problem_c e1 vq0_point_s vq0_point_y vq0_table vq0_right vq0_cost vq0_basic) H → va_D A (w_Sm_tellSolution T q0 q0_problem q0_point q0_table q0_right q0_cost q0_basic q0_problem_a q0_problem_b q0_problem_c Rq0_problem_a q0_point_x q0_point_s q0_point_y Rq0_table vq0_rows vq0_variables vq0_columns vq0_stepsDone vq0_problem_rows vq0_problem_variables vq0_problem_a vq0_problem_b vq0_problem_c e1 vq0_point_s vq0_point_y vq0_table vq0_right vq0_cost vq0_basic) → va_S A s.heap H locs → lv_has ls 2 [(0, .ref q0)] → W p l e (rmk 2 45) s m args below meth c H locs 0 0 Q (F0 m 49 ls [])) ?_ 2000 _ u2 hu2 ?_ H locs ls hP hD hS hl
    · intro st rb2 h kc2 kx2 H locs ls hP hD hS hl
      obtain ⟨vq0_point_x, x1⟩ := st
      have h : s_Sm_tellSolution_B2 vq0_rows vq0_variables vq0_columns vq0_stepsDone vq0_problem_rows vq0_problem_variables vq0_problem_a vq0_problem_b vq0_problem_c vq0_point_s vq0_point_y vq0_table vq0_right vq0_cost vq0_basic vq0_point_x x1 = some rb2 := h
      have J43 : ∀ (vq0_point_x : Nat → UInt64) (x1 : Int32), ∀ (H : Heap) (locs : List Loc) (ls : Array Slot), va_P D CL (w_Sm_tellSolution T q0 q0_problem q0_point q0_table q0_right q0_cost q0_basic q0_problem_a q0_problem_b q0_problem_c Rq0_problem_a q0_point_x q0_point_s q0_point_y Rq0_table vq0_rows vq0_variables vq0_columns vq0_stepsDone vq0_problem_rows vq0_problem_variables vq0_problem_a vq0_problem_b vq0_problem_c vq0_point_x vq0_point_s vq0_point_y vq0_table vq0_right vq0_cost vq0_basic) H → va_D A (w_Sm_tellSolution T q0 q0_problem q0_point q0_table q0_right q0_cost q0_basic q0_problem_a q0_problem_b q0_problem_c Rq0_problem_a q0_point_x q0_point_s q0_point_y Rq0_table vq0_rows vq0_variables vq0_columns vq0_stepsDone vq0_problem_rows vq0_problem_variables vq0_problem_a vq0_problem_b vq0_problem_c vq0_point_x vq0_point_s vq0_point_y vq0_table vq0_right vq0_cost vq0_basic) → va_S A s.heap H locs → lv_has ls 2 [(0, .ref q0), (1, .int x1)] → s_Sm_tellSolution_J43 vq0_rows vq0_variables vq0_columns vq0_stepsDone vq0_problem_rows vq0_problem_variables vq0_problem_a vq0_problem_b vq0_problem_c vq0_point_x vq0_point_s vq0_point_y vq0_table vq0_right vq0_cost vq0_basic x1 = some rb2 → W p l e (rmk 2 45) s m args below meth c H locs 0 0 Q (F0 m 43 ls []) := by
        intro vq0_point_x x1 H locs ls hP hD hS hl h
        unfold s_Sm_tellSolution_J43 at h
        refine lv_iinc (v := x1 + 1) (lv' := [(1, .int (x1 + 1)), (0, .ref q0)]) hx hb d_Sm_tellSolution_43 hl (k := 1) rfl rfl (by decide) rfl (fun ls hl => ?_)
        refine lv_goto (tgt := 2) hx hb d_Sm_tellSolution_46 (by decide) ?_
        exact kc2 _ (Option.some.inj h).symm H locs ls hP hD hS (lv_sub hl [1, 0] rfl)
      unfold s_Sm_tellSolution_B2 at h
      refine lv_iload_n hx hb d_Sm_tellSolution_2 rfl (lv_at hl 1 rfl) ?_
      refine lv_aload_n hx hb d_Sm_tellSolution_3 rfl (lv_at hl 0 rfl) ?_
      refine va_get (D := D) (ci := 6) (v := .int vq0_rows) (C := "ConeForge$SimplexMethod") (T := FSm) (N := 10) hx hb hts iSm hown hK hP 0 rfl rfl 6 (by decide) (hts _ (bgc bw246)) (fun _ h9 => h9) rfl d_Sm_tellSolution_4 ?_
      refine lv_icmp_ge (tgt := 49) hx hb d_Sm_tellSolution_7 (by decide) (fun c5 => ?_) (fun c5 => ?_)
      · have h := it_t c5 h
        exact kx2 _ (Option.some.inj h).symm H locs ls hP hD hS (lv_sub hl [0] rfl)
      · have h := it_f c5 h
        refine lv_aload_n hx hb d_Sm_tellSolution_10 rfl (lv_at hl 0 rfl) ?_
        refine va_get (D := D) (ci := 6) (v := .ref q0_basic) (C := "ConeForge$SimplexMethod") (T := FSm) (N := 10) hx hb hts iSm hown hK hP 0 rfl rfl 5 (by decide) (hts _ (bgc bw245)) (fun _ h9 => h9) rfl d_Sm_tellSolution_11 ?_
        refine lv_iload_n hx hb d_Sm_tellSolution_14 rfl (lv_at hl 1 rfl) ?_
        obtain ⟨g6, h⟩ := gd_some h
        refine va_iald hx hb hK hP 22 1 rfl rfl (inb_in g6) d_Sm_tellSolution_15 ?_
        refine lv_aload_n hx hb d_Sm_tellSolution_16 rfl (lv_at hl 0 rfl) ?_
        refine va_get (D := D) (ci := 6) (v := .int vq0_variables) (C := "ConeForge$SimplexMethod") (T := FSm) (N := 10) hx hb hts iSm hown hK hP 0 rfl rfl 7 (by decide) (hts _ (bgc bw247)) (fun _ h9 => h9) rfl d_Sm_tellSolution_17 ?_
        refine lv_icmp_ge (tgt := 43) hx hb d_Sm_tellSolution_20 (by decide) (fun c7 => ?_) (fun c7 => ?_)
        · have h := it_t c7 h
          exact J43 vq0_point_x x1 H locs ls hP hD hS (lv_sub hl [0, 1] rfl) h
        · have h := it_f c7 h
          refine lv_aload_n hx hb d_Sm_tellSolution_23 rfl (lv_at hl 0 rfl) ?_
          refine va_get (D := D) (ci := 6) (v := .ref q0_point) (C := "ConeForge$SimplexMethod") (T := FSm) (N := 10) hx hb hts iSm hown hK hP 0 rfl rfl 1 (by decide) (hts _ (bgc bw241)) (fun _ h9 => h9) rfl d_Sm_tellSolution_24 ?_
          refine va_getN (D := D) (ci := 1) (v := .ref q0_point_x) (C := "ConeForge$Point") (T := FPt) (N := 3) hx hb hts iPt hown hK hP 10 rfl rfl 0 (by decide) (hNW.use nw35) (fun _ h9 => h9) rfl d_Sm_tellSolution_27 ?_
          refine lv_aload_n hx hb d_Sm_tellSolution_30 rfl (lv_at hl 0 rfl) ?_
          refine va_get (D := D) (ci := 6) (v := .ref q0_basic) (C := "ConeForge$SimplexMethod") (T := FSm) (N := 10) hx hb hts iSm hown hK hP 0 rfl rfl 5 (by decide) (hts _ (bgc bw245)) (fun _ h9 => h9) rfl d_Sm_tellSolution_31 ?_
          refine lv_iload_n hx hb d_Sm_tellSolution_34 rfl (lv_at hl 1 rfl) ?_
          obtain ⟨g8, h⟩ := gd_some h
          refine va_iald hx hb hK hP 22 1 rfl rfl (inb_in g8) d_Sm_tellSolution_35 ?_
          refine lv_aload_n hx hb d_Sm_tellSolution_36 rfl (lv_at hl 0 rfl) ?_
          refine va_get (D := D) (ci := 6) (v := .ref q0_right) (C := "ConeForge$SimplexMethod") (T := FSm) (N := 10) hx hb hts iSm hown hK hP 0 rfl rfl 3 (by decide) (hts _ (bgc bw243)) (fun _ h9 => h9) rfl d_Sm_tellSolution_37 ?_
          refine lv_iload_n hx hb d_Sm_tellSolution_40 rfl (lv_at hl 1 rfl) ?_
          obtain ⟨g9, h⟩ := gd_some h
          refine va_dald hx hb hK hP 20 0 rfl rfl (inb_in g9) d_Sm_tellSolution_41 ?_
          obtain ⟨g10, h⟩ := gd_some h
          refine va_dast hx hb hK hP hD hS 11 0 rfl rfl (inb_in g10) d_Sm_tellSolution_42 (fun H locs hP hD hS => ?_)
          have hP : va_P D CL (w_Sm_tellSolution T q0 q0_problem q0_point q0_table q0_right q0_cost q0_basic q0_problem_a q0_problem_b q0_problem_c Rq0_problem_a q0_point_x q0_point_s q0_point_y Rq0_table vq0_rows vq0_variables vq0_columns vq0_stepsDone vq0_problem_rows vq0_problem_variables vq0_problem_a vq0_problem_b vq0_problem_c (vf_upd vq0_point_x (vq0_basic x1.toNatClampNeg).toNatClampNeg (vq0_right x1.toNatClampNeg)) vq0_point_s vq0_point_y vq0_table vq0_right vq0_cost vq0_basic) H := hP
          have hD : va_D A (w_Sm_tellSolution T q0 q0_problem q0_point q0_table q0_right q0_cost q0_basic q0_problem_a q0_problem_b q0_problem_c Rq0_problem_a q0_point_x q0_point_s q0_point_y Rq0_table vq0_rows vq0_variables vq0_columns vq0_stepsDone vq0_problem_rows vq0_problem_variables vq0_problem_a vq0_problem_b vq0_problem_c (vf_upd vq0_point_x (vq0_basic x1.toNatClampNeg).toNatClampNeg (vq0_right x1.toNatClampNeg)) vq0_point_s vq0_point_y vq0_table vq0_right vq0_cost vq0_basic) := hD
          exact J43 (vf_upd vq0_point_x (vq0_basic x1.toNatClampNeg).toNatClampNeg (vq0_right x1.toNatClampNeg)) x1 H locs ls hP hD hS (lv_sub hl [0, 1] rfl) h
    · intro H locs ls hP hD hS hl
      refine lv_aload_n hx hb d_Sm_tellSolution_49 rfl (lv_at hl 0 rfl) ?_
      obtain ⟨u11, hu11, h⟩ := bi_some h
      refine kV (wc := (w_Sm_tellPrices T q0 q0_problem q0_point q0_table q0_right q0_cost q0_basic q0_problem_a q0_problem_b q0_problem_c q0_point_x q0_point_s q0_point_y Rq0_table vq0_rows vq0_variables vq0_columns vq0_stepsDone vq0_problem_rows vq0_problem_variables vq0_problem_b vq0_point_y vq0_table vq0_cost vq0_basic)) (wc' := (w_Sm_tellPrices T q0 q0_problem q0_point q0_table q0_right q0_cost q0_basic q0_problem_a q0_problem_b q0_problem_c q0_point_x q0_point_s q0_point_y Rq0_table vq0_rows vq0_variables vq0_columns vq0_stepsDone vq0_problem_rows vq0_problem_variables vq0_problem_b u11 vq0_table vq0_cost vq0_basic)) (runOV (As := []) (rest := []) ((c_Sm_tellPrices l D T q0 q0_problem q0_point q0_table q0_right q0_cost q0_basic q0_problem_a q0_problem_b q0_problem_c q0_point_x q0_point_s q0_point_y Rq0_table vq0_rows vq0_variables vq0_columns vq0_stepsDone vq0_problem_rows vq0_problem_variables vq0_problem_b vq0_point_y vq0_table vq0_cost vq0_basic  u11 hu11) H.size) ⟨hx, hb, hml, hown, hts⟩ (cwOV bw370 bw371 bw20 bw104 bw372 dd_Sm_tellPrices hts ⟨Nat.le_of_ble_eq_true rfl, Nat.le_of_ble_eq_true rfl⟩) (va_recv hK hP (ci := 6) (q0 := 0) rfl rfl) hNW hK hP hD [0, 1, 8, 10, 13, 14, 15, 16, 17, 18, 19, 21, 22] rfl (by decide) rfl hl.1 rfl (lv_room (Nat.le_of_ble_eq_true rfl)) d_Sm_tellSolution_50 ⟨Nat.le_of_ble_eq_true rfl, Nat.le_of_ble_eq_true rfl⟩) hP hD hS hA [0, 1, 8, 10, 13, 14, 15, 16, 17, 18, 19, 21, 22] rfl rfl (fun H locs hP hD hS => ?_)
      have hP : va_P D CL (w_Sm_tellSolution T q0 q0_problem q0_point q0_table q0_right q0_cost q0_basic q0_problem_a q0_problem_b q0_problem_c Rq0_problem_a q0_point_x q0_point_s q0_point_y Rq0_table vq0_rows vq0_variables vq0_columns vq0_stepsDone vq0_problem_rows vq0_problem_variables vq0_problem_a vq0_problem_b vq0_problem_c u2 vq0_point_s u11 vq0_table vq0_right vq0_cost vq0_basic) H := hP
      have hD : va_D A (w_Sm_tellSolution T q0 q0_problem q0_point q0_table q0_right q0_cost q0_basic q0_problem_a q0_problem_b q0_problem_c Rq0_problem_a q0_point_x q0_point_s q0_point_y Rq0_table vq0_rows vq0_variables vq0_columns vq0_stepsDone vq0_problem_rows vq0_problem_variables vq0_problem_a vq0_problem_b vq0_problem_c u2 vq0_point_s u11 vq0_table vq0_right vq0_cost vq0_basic) := hD
      refine lv_iconst (v := 0) hx hb d_Sm_tellSolution_53 (by decide) ?_
      refine lv_istore_n (lv' := [(1, .int 0), (0, .ref q0)]) hx hb d_Sm_tellSolution_54 rfl hl (by decide) rfl (fun ls hl => ?_)
      exact L55 u2 vq0_point_s u11 0 H locs ls hP hD hS (lv_sub hl [1, 0] rfl) h
  unfold s_Sm_tellSolution at h
  refine lv_iconst (v := 0) hx hb d_Sm_tellSolution_0 (by decide) ?_
  refine lv_istore_n (lv' := [(1, .int 0), (0, .ref q0)]) hx hb d_Sm_tellSolution_1 rfl hl (by decide) rfl (fun ls hl => ?_)
  exact L2 vq0_point_x vq0_point_s vq0_point_y 0 H locs ls hP hD hS (lv_sub hl [1, 0] rfl) h
theorem d_Sm_solve_0 : decode prog_7_method_2_code 0 = .ok (.aload_n 0, 1) := by decide +kernel
theorem d_Sm_solve_1 : decode prog_7_method_2_code 1 = .ok (.getfield 21, 3) := by decide +kernel
theorem d_Sm_solve_4 : decode prog_7_method_2_code 4 = .ok (.dconst 0, 1) := by decide +kernel
theorem d_Sm_solve_5 : decode prog_7_method_2_code 5 = .ok (.dconst 0, 1) := by decide +kernel
theorem d_Sm_solve_6 : decode prog_7_method_2_code 6 = .ok (.invokevirtual 54, 3) := by decide +kernel
theorem d_Sm_solve_9 : decode prog_7_method_2_code 9 = .ok (.aload_n 0, 1) := by decide +kernel
theorem d_Sm_solve_10 : decode prog_7_method_2_code 10 = .ok (.iconst 0, 1) := by decide +kernel
theorem d_Sm_solve_11 : decode prog_7_method_2_code 11 = .ok (.putfield 51, 3) := by decide +kernel
theorem d_Sm_solve_14 : decode prog_7_method_2_code 14 = .ok (.aload_n 0, 1) := by decide +kernel
theorem d_Sm_solve_15 : decode prog_7_method_2_code 15 = .ok (.invokevirtual 58, 3) := by decide +kernel
theorem d_Sm_solve_18 : decode prog_7_method_2_code 18 = .ok (.aload_n 0, 1) := by decide +kernel
theorem d_Sm_solve_19 : decode prog_7_method_2_code 19 = .ok (.iconst 0, 1) := by decide +kernel
theorem d_Sm_solve_20 : decode prog_7_method_2_code 20 = .ok (.invokevirtual 61, 3) := by decide +kernel
theorem d_Sm_solve_23 : decode prog_7_method_2_code 23 = .ok (.aload_n 0, 1) := by decide +kernel
theorem d_Sm_solve_24 : decode prog_7_method_2_code 24 = .ok (.iconst 0, 1) := by decide +kernel
theorem d_Sm_solve_25 : decode prog_7_method_2_code 25 = .ok (.invokevirtual 65, 3) := by decide +kernel
theorem d_Sm_solve_28 : decode prog_7_method_2_code 28 = .ok (.istore_n 1, 1) := by decide +kernel
theorem d_Sm_solve_29 : decode prog_7_method_2_code 29 = .ok (.iload_n 1, 1) := by decide +kernel
theorem d_Sm_solve_30 : decode prog_7_method_2_code 30 = .ok (.bipush 6, 2) := by decide +kernel
theorem d_Sm_solve_32 : decode prog_7_method_2_code 32 = .ok (.if_icmp .eq 5, 3) := by decide +kernel
theorem d_Sm_solve_35 : decode prog_7_method_2_code 35 = .ok (.iload_n 1, 1) := by decide +kernel
theorem d_Sm_solve_36 : decode prog_7_method_2_code 36 = .ok (.ireturn, 1) := by decide +kernel
theorem d_Sm_solve_37 : decode prog_7_method_2_code 37 = .ok (.aload_n 0, 1) := by decide +kernel
theorem d_Sm_solve_38 : decode prog_7_method_2_code 38 = .ok (.invokevirtual 69, 3) := by decide +kernel
theorem d_Sm_solve_41 : decode prog_7_method_2_code 41 = .ok (.ldc2_w 73, 3) := by decide +kernel
theorem d_Sm_solve_44 : decode prog_7_method_2_code 44 = .ok (.dcmp .l, 1) := by decide +kernel
theorem d_Sm_solve_45 : decode prog_7_method_2_code 45 = .ok (.ifCond .le 9, 3) := by decide +kernel
theorem d_Sm_solve_48 : decode prog_7_method_2_code 48 = .ok (.aload_n 0, 1) := by decide +kernel
theorem d_Sm_solve_49 : decode prog_7_method_2_code 49 = .ok (.invokevirtual 75, 3) := by decide +kernel
theorem d_Sm_solve_52 : decode prog_7_method_2_code 52 = .ok (.iconst 1, 1) := by decide +kernel
theorem d_Sm_solve_53 : decode prog_7_method_2_code 53 = .ok (.ireturn, 1) := by decide +kernel
theorem d_Sm_solve_54 : decode prog_7_method_2_code 54 = .ok (.aload_n 0, 1) := by decide +kernel
theorem d_Sm_solve_55 : decode prog_7_method_2_code 55 = .ok (.iconst 1, 1) := by decide +kernel
theorem d_Sm_solve_56 : decode prog_7_method_2_code 56 = .ok (.invokevirtual 61, 3) := by decide +kernel
theorem d_Sm_solve_59 : decode prog_7_method_2_code 59 = .ok (.aload_n 0, 1) := by decide +kernel
theorem d_Sm_solve_60 : decode prog_7_method_2_code 60 = .ok (.iconst 1, 1) := by decide +kernel
theorem d_Sm_solve_61 : decode prog_7_method_2_code 61 = .ok (.invokevirtual 65, 3) := by decide +kernel
theorem d_Sm_solve_64 : decode prog_7_method_2_code 64 = .ok (.istore_n 1, 1) := by decide +kernel
theorem d_Sm_solve_65 : decode prog_7_method_2_code 65 = .ok (.iload_n 1, 1) := by decide +kernel
theorem d_Sm_solve_66 : decode prog_7_method_2_code 66 = .ok (.bipush 6, 2) := by decide +kernel
theorem d_Sm_solve_68 : decode prog_7_method_2_code 68 = .ok (.if_icmp .eq 5, 3) := by decide +kernel
theorem d_Sm_solve_71 : decode prog_7_method_2_code 71 = .ok (.iload_n 1, 1) := by decide +kernel
theorem d_Sm_solve_72 : decode prog_7_method_2_code 72 = .ok (.ireturn, 1) := by decide +kernel
theorem d_Sm_solve_73 : decode prog_7_method_2_code 73 = .ok (.aload_n 0, 1) := by decide +kernel
theorem d_Sm_solve_74 : decode prog_7_method_2_code 74 = .ok (.invokevirtual 78, 3) := by decide +kernel
theorem d_Sm_solve_77 : decode prog_7_method_2_code 77 = .ok (.iconst 0, 1) := by decide +kernel
theorem d_Sm_solve_78 : decode prog_7_method_2_code 78 = .ok (.ireturn, 1) := by decide +kernel
abbrev w_Sm_solve (T : Nat → ClassId) (q0 : Nat) (q0_problem : Nat) (q0_point : Nat) (q0_table : Nat) (q0_right : Nat) (q0_cost : Nat) (q0_basic : Nat) (q0_problem_a : Nat) (q0_problem_b : Nat) (q0_problem_c : Nat) (Rq0_problem_a : Nat → Nat) (q0_point_x : Nat) (q0_point_s : Nat) (q0_point_y : Nat) (Rq0_table : Nat → Nat) (vq0_rows : Int32) (vq0_variables : Int32) (vq0_columns : Int32) (vq0_stepsDone : Int32) (vq0_problem_rows : Int32) (vq0_problem_variables : Int32) (vq0_problem_a : Nat → Nat → UInt64) (vq0_problem_b : Nat → UInt64) (vq0_problem_c : Nat → UInt64) (vq0_point_x : Nat → UInt64) (vq0_point_s : Nat → UInt64) (vq0_point_y : Nat → UInt64) (vq0_table : Nat → Nat → UInt64) (vq0_right : Nat → UInt64) (vq0_cost : Nat → UInt64) (vq0_basic : Nat → Int32) : va_W := [(q0, .inr (6, [.ref q0_problem, .ref q0_point, .ref q0_table, .ref q0_right, .ref q0_cost, .ref q0_basic, .int vq0_rows, .int vq0_variables, .int vq0_columns, .int vq0_stepsDone])), (q0_problem, .inr (0, [.int vq0_problem_rows, .int vq0_problem_variables, .ref q0_problem_a, .ref q0_problem_b, .ref q0_problem_c])), (q0_problem_a, .inl (T 3, 5, .inr (.inr (.inr (.inr (fun i => some (Rq0_problem_a i))))))), (Rq0_problem_a 0, .inl (T 0, 8, .inr (.inr (.inr (.inl (vq0_problem_a 0)))))), (Rq0_problem_a 1, .inl (T 0, 8, .inr (.inr (.inr (.inl (vq0_problem_a 1)))))), (Rq0_problem_a 2, .inl (T 0, 8, .inr (.inr (.inr (.inl (vq0_problem_a 2)))))), (Rq0_problem_a 3, .inl (T 0, 8, .inr (.inr (.inr (.inl (vq0_problem_a 3)))))), (Rq0_problem_a 4, .inl (T 0, 8, .inr (.inr (.inr (.inl (vq0_problem_a 4)))))), (q0_problem_b, .inl (T 0, 5, .inr (.inr (.inr (.inl vq0_problem_b))))), (q0_problem_c, .inl (T 0, 8, .inr (.inr (.inr (.inl vq0_problem_c))))), (q0_point, .inr (1, [.ref q0_point_x, .ref q0_point_s, .ref q0_point_y])), (q0_point_x, .inl (T 0, 8, .inr (.inr (.inr (.inl vq0_point_x))))), (q0_point_s, .inl (T 0, 8, .inr (.inr (.inr (.inl vq0_point_s))))), (q0_point_y, .inl (T 0, 5, .inr (.inr (.inr (.inl vq0_point_y))))), (q0_table, .inl (T 3, 5, .inr (.inr (.inr (.inr (fun i => some (Rq0_table i))))))), (Rq0_table 0, .inl (T 0, 13, .inr (.inr (.inr (.inl (vq0_table 0)))))), (Rq0_table 1, .inl (T 0, 13, .inr (.inr (.inr (.inl (vq0_table 1)))))), (Rq0_table 2, .inl (T 0, 13, .inr (.inr (.inr (.inl (vq0_table 2)))))), (Rq0_table 3, .inl (T 0, 13, .inr (.inr (.inr (.inl (vq0_table 3)))))), (Rq0_table 4, .inl (T 0, 13, .inr (.inr (.inr (.inl (vq0_table 4)))))), (q0_right, .inl (T 0, 5, .inr (.inr (.inr (.inl vq0_right))))), (q0_cost, .inl (T 0, 13, .inr (.inr (.inr (.inl vq0_cost))))), (q0_basic, .inl (T 1, 5, .inl vq0_basic))]
def s_Sm_solve (vq0_rows : Int32) (vq0_variables : Int32) (vq0_columns : Int32) (vq0_stepsDone : Int32) (vq0_problem_rows : Int32) (vq0_problem_variables : Int32) (vq0_problem_a : Nat → Nat → UInt64) (vq0_problem_b : Nat → UInt64) (vq0_problem_c : Nat → UInt64) (vq0_point_x : Nat → UInt64) (vq0_point_s : Nat → UInt64) (vq0_point_y : Nat → UInt64) (vq0_table : Nat → Nat → UInt64) (vq0_right : Nat → UInt64) (vq0_cost : Nat → UInt64) (vq0_basic : Nat → Int32) : Option (Int32 × Int32 × Int32 × Int32 × Int32 × (Nat → UInt64) × (Nat → UInt64) × (Nat → UInt64) × (Nat → Nat → UInt64) × (Nat → UInt64) × (Nat → UInt64) × (Nat → Int32)) :=
  (s_Pt_fill vq0_point_x vq0_point_s vq0_point_y FP.dconst0 FP.dconst0).bind fun u1 => (s_Sm_fillTable vq0_rows vq0_variables vq0_columns 0 vq0_problem_rows vq0_problem_variables vq0_problem_a vq0_problem_b vq0_table vq0_right vq0_basic).bind fun u2 => (s_Sm_setCosts u2.1 u2.2.1 u2.2.2.1 0 vq0_problem_rows vq0_problem_variables vq0_problem_c vq0_cost 0).bind fun u3 => (s_Sm_runPhase u2.1 u2.2.1 u2.2.2.1 0 u1.1 u2.2.2.2.1 u2.2.2.2.2.1 u3 u2.2.2.2.2.2 0).bind fun u4 => if u4.1 = 6 then ((s_Sm_costOfBasis u2.1 u2.2.1 u2.2.2.1 u4.2.1 u4.2.2.2.2.1 u3 u4.2.2.2.2.2).bind fun u6 => if (Op.cmpValue (FP.dcmp u6 4502148214488346440) .l) ≤ 0 then ((s_Sm_setCosts u2.1 u2.2.1 u2.2.2.1 u4.2.1 vq0_problem_rows vq0_problem_variables vq0_problem_c u3 1).bind fun u8 => (s_Sm_runPhase u2.1 u2.2.1 u2.2.2.1 u4.2.1 u4.2.2.1 u4.2.2.2.1 u4.2.2.2.2.1 u8 u4.2.2.2.2.2 1).bind fun u9 => if u9.1 = 6 then ((s_Sm_tellSolution u2.1 u2.2.1 u2.2.2.1 u9.2.1 vq0_problem_rows vq0_problem_variables vq0_problem_a vq0_problem_b vq0_problem_c u9.2.2.1 u1.2.1 u1.2.2 u9.2.2.2.1 u9.2.2.2.2.1 u8 u9.2.2.2.2.2).bind fun u11 => some (0, u2.1, u2.2.1, u2.2.2.1, u9.2.1, u11.1, u11.2.1, u11.2.2, u9.2.2.2.1, u9.2.2.2.2.1, u8, u9.2.2.2.2.2)) else (some (u9.1, u2.1, u2.2.1, u2.2.2.1, u9.2.1, u9.2.2.1, u1.2.1, u1.2.2, u9.2.2.2.1, u9.2.2.2.2.1, u8, u9.2.2.2.2.2))) else ((s_Sm_tellPrices u2.1 u2.2.1 u2.2.2.1 u4.2.1 vq0_problem_rows vq0_problem_variables vq0_problem_b u1.2.2 u4.2.2.2.1 u3 u4.2.2.2.2.2).bind fun u12 => some (1, u2.1, u2.2.1, u2.2.2.1, u4.2.1, u4.2.2.1, u1.2.1, u12, u4.2.2.2.1, u4.2.2.2.2.1, u3, u4.2.2.2.2.2))) else (some (u4.1, u2.1, u2.2.1, u2.2.2.1, u4.2.1, u4.2.2.1, u1.2.1, u1.2.2, u4.2.2.2.1, u4.2.2.2.2.1, u3, u4.2.2.2.2.2))
set_option maxHeartbeats 4000000 in
set_option maxRecDepth 100000 in
theorem c_Sm_solve (l : Launch) (D : va_G) (T : Nat → ClassId) (q0 : Nat) (q0_problem : Nat) (q0_point : Nat) (q0_table : Nat) (q0_right : Nat) (q0_cost : Nat) (q0_basic : Nat) (q0_problem_a : Nat) (q0_problem_b : Nat) (q0_problem_c : Nat) (Rq0_problem_a : Nat → Nat) (q0_point_x : Nat) (q0_point_s : Nat) (q0_point_y : Nat) (Rq0_table : Nat → Nat) (vq0_rows : Int32) (vq0_variables : Int32) (vq0_columns : Int32) (vq0_stepsDone : Int32) (vq0_problem_rows : Int32) (vq0_problem_variables : Int32) (vq0_problem_a : Nat → Nat → UInt64) (vq0_problem_b : Nat → UInt64) (vq0_problem_c : Nat → UInt64) (vq0_point_x : Nat → UInt64) (vq0_point_s : Nat → UInt64) (vq0_point_y : Nat → UInt64) (vq0_table : Nat → Nat → UInt64) (vq0_right : Nat → UInt64) (vq0_cost : Nat → UInt64) (vq0_basic : Nat → Int32) (rm : Int32 × Int32 × Int32 × Int32 × Int32 × (Nat → UInt64) × (Nat → UInt64) × (Nat → UInt64) × (Nat → Nat → UInt64) × (Nat → UInt64) × (Nat → UInt64) × (Nat → Int32)) (h : s_Sm_solve vq0_rows vq0_variables vq0_columns vq0_stepsDone vq0_problem_rows vq0_problem_variables vq0_problem_a vq0_problem_b vq0_problem_c vq0_point_x vq0_point_s vq0_point_y vq0_table vq0_right vq0_cost vq0_basic = some rm) : CtI l y_Sm_solve (Cond.code y_Sm_solve prog_7_method_2_code 2 (some .int) :: BIG) 4 92 D T [.ref q0] (w_Sm_solve T q0 q0_problem q0_point q0_table q0_right q0_cost q0_basic q0_problem_a q0_problem_b q0_problem_c Rq0_problem_a q0_point_x q0_point_s q0_point_y Rq0_table vq0_rows vq0_variables vq0_columns vq0_stepsDone vq0_problem_rows vq0_problem_variables vq0_problem_a vq0_problem_b vq0_problem_c vq0_point_x vq0_point_s vq0_point_y vq0_table vq0_right vq0_cost vq0_basic) (fun r => r.1) (fun r => (w_Sm_solve T q0 q0_problem q0_point q0_table q0_right q0_cost q0_basic q0_problem_a q0_problem_b q0_problem_c Rq0_problem_a q0_point_x q0_point_s q0_point_y Rq0_table r.2.1 r.2.2.1 r.2.2.2.1 r.2.2.2.2.1 vq0_problem_rows vq0_problem_variables vq0_problem_a vq0_problem_b vq0_problem_c r.2.2.2.2.2.1 r.2.2.2.2.2.2.1 r.2.2.2.2.2.2.2.1 r.2.2.2.2.2.2.2.2.1 r.2.2.2.2.2.2.2.2.2.1 r.2.2.2.2.2.2.2.2.2.2.1 r.2.2.2.2.2.2.2.2.2.2.2)) rm := by
  refine cf_entry (y := y_Sm_solve) (cc := prog_7_method_2_code) (nL := 2) (ret := (some .int)) (fr := 4) (lo := 92) (T := T) (av := [.ref q0]) (w := (w_Sm_solve T q0 q0_problem q0_point q0_table q0_right q0_cost q0_basic q0_problem_a q0_problem_b q0_problem_c Rq0_problem_a q0_point_x q0_point_s q0_point_y Rq0_table vq0_rows vq0_variables vq0_columns vq0_stepsDone vq0_problem_rows vq0_problem_variables vq0_problem_a vq0_problem_b vq0_problem_c vq0_point_x vq0_point_s vq0_point_y vq0_table vq0_right vq0_cost vq0_basic)) (Qc := cfQi D (fun r => r.1) (fun r => (w_Sm_solve T q0 q0_problem q0_point q0_table q0_right q0_cost q0_basic q0_problem_a q0_problem_b q0_problem_c Rq0_problem_a q0_point_x q0_point_s q0_point_y Rq0_table r.2.1 r.2.2.1 r.2.2.2.1 r.2.2.2.2.1 vq0_problem_rows vq0_problem_variables vq0_problem_a vq0_problem_b vq0_problem_c r.2.2.2.2.2.1 r.2.2.2.2.2.2.1 r.2.2.2.2.2.2.2.1 r.2.2.2.2.2.2.2.2.1 r.2.2.2.2.2.2.2.2.2.1 r.2.2.2.2.2.2.2.2.2.2.1 r.2.2.2.2.2.2.2.2.2.2.2)) rm) (by decide) rfl (Nat.le_of_ble_eq_true rfl) ?_
  intro p e s m args below meth c A Q H locs ls hx hb hr hlocks hml hown hts hNW hK hA hQ hP hD hS hl
  have hown : s.vm.findClass "ConeForge$SimplexMethod" = some m.cls := hown
  have hl : lv_has ls 2 [(0, .ref q0)] := hl
  unfold s_Sm_solve at h
  refine lv_aload_n hx hb d_Sm_solve_0 rfl (lv_at hl 0 rfl) ?_
  refine va_get (D := D) (ci := 6) (v := .ref q0_point) (C := "ConeForge$SimplexMethod") (T := FSm) (N := 10) hx hb hts iSm hown hK hP 0 rfl rfl 1 (by decide) (hts _ (bgc bw241)) (fun _ h9 => h9) rfl d_Sm_solve_1 ?_
  refine lv_dconst0 hx hb d_Sm_solve_4 ?_
  refine lv_dconst0 hx hb d_Sm_solve_5 ?_
  obtain ⟨u1, hu1, h⟩ := bi_some h
  refine kV (wc := (w_Pt_fill T q0_point q0_point_x q0_point_s q0_point_y vq0_point_x vq0_point_s vq0_point_y)) (wc' := (w_Pt_fill T q0_point q0_point_x q0_point_s q0_point_y u1.1 u1.2.1 u1.2.2)) (runNV (As := [.double FP.dconst0, .double FP.dconst0]) (rest := []) ((c_Pt_fill l D T q0_point q0_point_x q0_point_s q0_point_y vq0_point_x vq0_point_s vq0_point_y FP.dconst0 FP.dconst0 u1 hu1) H.size) ⟨hx, hb, hml, hown, hts⟩ (cwNV nw70 bw323 bw6 bw100 bw324 dd_Pt_fill hts hNW ⟨Nat.le_of_ble_eq_true rfl, Nat.le_of_ble_eq_true rfl⟩) (va_recv hK hP (ci := 1) (q0 := 10) rfl rfl) hNW hK hP hD [10, 11, 12, 13] rfl (by decide) rfl hl.1 rfl (lv_room (Nat.le_of_ble_eq_true rfl)) d_Sm_solve_6 ⟨Nat.le_of_ble_eq_true rfl, Nat.le_of_ble_eq_true rfl⟩) hP hD hS hA [10, 11, 12, 13] rfl rfl (fun H locs hP hD hS => ?_)
  have hP : va_P D CL (w_Sm_solve T q0 q0_problem q0_point q0_table q0_right q0_cost q0_basic q0_problem_a q0_problem_b q0_problem_c Rq0_problem_a q0_point_x q0_point_s q0_point_y Rq0_table vq0_rows vq0_variables vq0_columns vq0_stepsDone vq0_problem_rows vq0_problem_variables vq0_problem_a vq0_problem_b vq0_problem_c u1.1 u1.2.1 u1.2.2 vq0_table vq0_right vq0_cost vq0_basic) H := hP
  have hD : va_D A (w_Sm_solve T q0 q0_problem q0_point q0_table q0_right q0_cost q0_basic q0_problem_a q0_problem_b q0_problem_c Rq0_problem_a q0_point_x q0_point_s q0_point_y Rq0_table vq0_rows vq0_variables vq0_columns vq0_stepsDone vq0_problem_rows vq0_problem_variables vq0_problem_a vq0_problem_b vq0_problem_c u1.1 u1.2.1 u1.2.2 vq0_table vq0_right vq0_cost vq0_basic) := hD
  refine lv_aload_n hx hb d_Sm_solve_9 rfl (lv_at hl 0 rfl) ?_
  refine lv_iconst (v := 0) hx hb d_Sm_solve_10 (by decide) ?_
  refine va_put (D := D) (ci := 6) (v := .int 0) (ty := .int) (C := "ConeForge$SimplexMethod") (T := FSm) (N := 10) hx hb hts iSm tSm tSm_ok nmSm hown hK hP hD hS 0 rfl rfl 9 (by decide) (hts _ (bgc bw249)) (fun _ h9 => h9) rfl (by decide +kernel) rfl rfl (Nat.le_of_ble_eq_true rfl) d_Sm_solve_11 (fun H locs hP hD hS => ?_)
  have hP : va_P D CL (w_Sm_solve T q0 q0_problem q0_point q0_table q0_right q0_cost q0_basic q0_problem_a q0_problem_b q0_problem_c Rq0_problem_a q0_point_x q0_point_s q0_point_y Rq0_table vq0_rows vq0_variables vq0_columns 0 vq0_problem_rows vq0_problem_variables vq0_problem_a vq0_problem_b vq0_problem_c u1.1 u1.2.1 u1.2.2 vq0_table vq0_right vq0_cost vq0_basic) H := hP
  have hD : va_D A (w_Sm_solve T q0 q0_problem q0_point q0_table q0_right q0_cost q0_basic q0_problem_a q0_problem_b q0_problem_c Rq0_problem_a q0_point_x q0_point_s q0_point_y Rq0_table vq0_rows vq0_variables vq0_columns 0 vq0_problem_rows vq0_problem_variables vq0_problem_a vq0_problem_b vq0_problem_c u1.1 u1.2.1 u1.2.2 vq0_table vq0_right vq0_cost vq0_basic) := hD
  refine lv_aload_n hx hb d_Sm_solve_14 rfl (lv_at hl 0 rfl) ?_
  obtain ⟨u2, hu2, h⟩ := bi_some h
  refine kV (wc := (w_Sm_fillTable T q0 q0_problem q0_point q0_table q0_right q0_cost q0_basic q0_problem_a q0_problem_b q0_problem_c Rq0_problem_a Rq0_table vq0_rows vq0_variables vq0_columns 0 vq0_problem_rows vq0_problem_variables vq0_problem_a vq0_problem_b vq0_table vq0_right vq0_basic)) (wc' := (w_Sm_fillTable T q0 q0_problem q0_point q0_table q0_right q0_cost q0_basic q0_problem_a q0_problem_b q0_problem_c Rq0_problem_a Rq0_table u2.1 u2.2.1 u2.2.2.1 0 vq0_problem_rows vq0_problem_variables vq0_problem_a vq0_problem_b u2.2.2.2.1 u2.2.2.2.2.1 u2.2.2.2.2.2)) (runOV (As := []) (rest := []) ((c_Sm_fillTable l D T q0 q0_problem q0_point q0_table q0_right q0_cost q0_basic q0_problem_a q0_problem_b q0_problem_c Rq0_problem_a Rq0_table vq0_rows vq0_variables vq0_columns 0 vq0_problem_rows vq0_problem_variables vq0_problem_a vq0_problem_b vq0_table vq0_right vq0_basic  u2 hu2) H.size) ⟨hx, hb, hml, hown, hts⟩ (cwOV bw326 bw327 bw7 bw104 bw328 dd_Sm_fillTable hts ⟨Nat.le_of_ble_eq_true rfl, Nat.le_of_ble_eq_true rfl⟩) (va_recv hK hP (ci := 6) (q0 := 0) rfl rfl) hNW hK hP hD [0, 1, 2, 3, 4, 5, 6, 7, 8, 14, 15, 16, 17, 18, 19, 20, 22] rfl (by decide) rfl hl.1 rfl (lv_room (Nat.le_of_ble_eq_true rfl)) d_Sm_solve_15 ⟨Nat.le_of_ble_eq_true rfl, Nat.le_of_ble_eq_true rfl⟩) hP hD hS hA [0, 1, 2, 3, 4, 5, 6, 7, 8, 14, 15, 16, 17, 18, 19, 20, 22] rfl rfl (fun H locs hP hD hS => ?_)
  have hP : va_P D CL (w_Sm_solve T q0 q0_problem q0_point q0_table q0_right q0_cost q0_basic q0_problem_a q0_problem_b q0_problem_c Rq0_problem_a q0_point_x q0_point_s q0_point_y Rq0_table u2.1 u2.2.1 u2.2.2.1 0 vq0_problem_rows vq0_problem_variables vq0_problem_a vq0_problem_b vq0_problem_c u1.1 u1.2.1 u1.2.2 u2.2.2.2.1 u2.2.2.2.2.1 vq0_cost u2.2.2.2.2.2) H := hP
  have hD : va_D A (w_Sm_solve T q0 q0_problem q0_point q0_table q0_right q0_cost q0_basic q0_problem_a q0_problem_b q0_problem_c Rq0_problem_a q0_point_x q0_point_s q0_point_y Rq0_table u2.1 u2.2.1 u2.2.2.1 0 vq0_problem_rows vq0_problem_variables vq0_problem_a vq0_problem_b vq0_problem_c u1.1 u1.2.1 u1.2.2 u2.2.2.2.1 u2.2.2.2.2.1 vq0_cost u2.2.2.2.2.2) := hD
  refine lv_aload_n hx hb d_Sm_solve_18 rfl (lv_at hl 0 rfl) ?_
  refine lv_iconst (v := 0) hx hb d_Sm_solve_19 (by decide) ?_
  obtain ⟨u3, hu3, h⟩ := bi_some h
  refine kV (wc := (w_Sm_setCosts T q0 q0_problem q0_point q0_table q0_right q0_cost q0_basic q0_problem_a q0_problem_b q0_problem_c u2.1 u2.2.1 u2.2.2.1 0 vq0_problem_rows vq0_problem_variables vq0_problem_c vq0_cost)) (wc' := (w_Sm_setCosts T q0 q0_problem q0_point q0_table q0_right q0_cost q0_basic q0_problem_a q0_problem_b q0_problem_c u2.1 u2.2.1 u2.2.2.1 0 vq0_problem_rows vq0_problem_variables vq0_problem_c u3)) (runOV (As := [.int 0]) (rest := []) ((c_Sm_setCosts l D T q0 q0_problem q0_point q0_table q0_right q0_cost q0_basic q0_problem_a q0_problem_b q0_problem_c u2.1 u2.2.1 u2.2.2.1 0 vq0_problem_rows vq0_problem_variables vq0_problem_c vq0_cost 0 u3 hu3) H.size) ⟨hx, hb, hml, hown, hts⟩ (cwOV bw333 bw334 bw9 bw104 bw335 dd_Sm_setCosts hts ⟨Nat.le_of_ble_eq_true rfl, Nat.le_of_ble_eq_true rfl⟩) (va_recv hK hP (ci := 6) (q0 := 0) rfl rfl) hNW hK hP hD [0, 1, 9, 21] rfl (by decide) rfl hl.1 rfl (lv_room (Nat.le_of_ble_eq_true rfl)) d_Sm_solve_20 ⟨Nat.le_of_ble_eq_true rfl, Nat.le_of_ble_eq_true rfl⟩) hP hD hS hA [0, 1, 9, 21] rfl rfl (fun H locs hP hD hS => ?_)
  have hP : va_P D CL (w_Sm_solve T q0 q0_problem q0_point q0_table q0_right q0_cost q0_basic q0_problem_a q0_problem_b q0_problem_c Rq0_problem_a q0_point_x q0_point_s q0_point_y Rq0_table u2.1 u2.2.1 u2.2.2.1 0 vq0_problem_rows vq0_problem_variables vq0_problem_a vq0_problem_b vq0_problem_c u1.1 u1.2.1 u1.2.2 u2.2.2.2.1 u2.2.2.2.2.1 u3 u2.2.2.2.2.2) H := hP
  have hD : va_D A (w_Sm_solve T q0 q0_problem q0_point q0_table q0_right q0_cost q0_basic q0_problem_a q0_problem_b q0_problem_c Rq0_problem_a q0_point_x q0_point_s q0_point_y Rq0_table u2.1 u2.2.1 u2.2.2.1 0 vq0_problem_rows vq0_problem_variables vq0_problem_a vq0_problem_b vq0_problem_c u1.1 u1.2.1 u1.2.2 u2.2.2.2.1 u2.2.2.2.2.1 u3 u2.2.2.2.2.2) := hD
  refine lv_aload_n hx hb d_Sm_solve_23 rfl (lv_at hl 0 rfl) ?_
  refine lv_iconst (v := 0) hx hb d_Sm_solve_24 (by decide) ?_
  obtain ⟨u4, hu4, h⟩ := bi_some h
  refine kI (v := u4.1) (wc := (w_Sm_runPhase T q0 q0_problem q0_point q0_table q0_right q0_cost q0_basic q0_point_x q0_point_s q0_point_y Rq0_table u2.1 u2.2.1 u2.2.2.1 0 u1.1 u2.2.2.2.1 u2.2.2.2.2.1 u3 u2.2.2.2.2.2)) (wc' := (w_Sm_runPhase T q0 q0_problem q0_point q0_table q0_right q0_cost q0_basic q0_point_x q0_point_s q0_point_y Rq0_table u2.1 u2.2.1 u2.2.2.1 u4.2.1 u4.2.2.1 u4.2.2.2.1 u4.2.2.2.2.1 u3 u4.2.2.2.2.2)) (runOV (As := [.int 0]) (rest := []) ((c_Sm_runPhase l D T q0 q0_problem q0_point q0_table q0_right q0_cost q0_basic q0_point_x q0_point_s q0_point_y Rq0_table u2.1 u2.2.1 u2.2.2.1 0 u1.1 u2.2.2.2.1 u2.2.2.2.2.1 u3 u2.2.2.2.2.2 0 u4 hu4) H.size) ⟨hx, hb, hml, hown, hts⟩ (cwOV bw336 bw337 bw10 bw104 bw338 dd_Sm_runPhase hts ⟨Nat.le_of_ble_eq_true rfl, Nat.le_of_ble_eq_true rfl⟩) (va_recv hK hP (ci := 6) (q0 := 0) rfl rfl) hNW hK hP hD [0, 10, 11, 14, 15, 16, 17, 18, 19, 20, 21, 22] rfl (by decide) rfl hl.1 rfl (lv_room (Nat.le_of_ble_eq_true rfl)) d_Sm_solve_25 ⟨Nat.le_of_ble_eq_true rfl, Nat.le_of_ble_eq_true rfl⟩) hP hD hS hA [0, 10, 11, 14, 15, 16, 17, 18, 19, 20, 21, 22] rfl rfl (fun H locs hP hD hS => ?_)
  have hP : va_P D CL (w_Sm_solve T q0 q0_problem q0_point q0_table q0_right q0_cost q0_basic q0_problem_a q0_problem_b q0_problem_c Rq0_problem_a q0_point_x q0_point_s q0_point_y Rq0_table u2.1 u2.2.1 u2.2.2.1 u4.2.1 vq0_problem_rows vq0_problem_variables vq0_problem_a vq0_problem_b vq0_problem_c u4.2.2.1 u1.2.1 u1.2.2 u4.2.2.2.1 u4.2.2.2.2.1 u3 u4.2.2.2.2.2) H := hP
  have hD : va_D A (w_Sm_solve T q0 q0_problem q0_point q0_table q0_right q0_cost q0_basic q0_problem_a q0_problem_b q0_problem_c Rq0_problem_a q0_point_x q0_point_s q0_point_y Rq0_table u2.1 u2.2.1 u2.2.2.1 u4.2.1 vq0_problem_rows vq0_problem_variables vq0_problem_a vq0_problem_b vq0_problem_c u4.2.2.1 u1.2.1 u1.2.2 u4.2.2.2.1 u4.2.2.2.2.1 u3 u4.2.2.2.2.2) := hD
  refine lv_istore_n (lv' := [(1, .int u4.1), (0, .ref q0)]) hx hb d_Sm_solve_28 rfl hl (by decide) rfl (fun ls hl => ?_)
  refine lv_iload_n hx hb d_Sm_solve_29 rfl (lv_at hl 0 rfl) ?_
  refine lv_bipush (v := 6) hx hb d_Sm_solve_30 (by decide) ?_
  refine lv_icmp_eq (tgt := 37) hx hb d_Sm_solve_32 (by decide) (fun c5 => ?_) (fun c5 => ?_)
  · have h := it_t c5 h
    refine lv_aload_n hx hb d_Sm_solve_37 rfl (lv_at hl 1 rfl) ?_
    obtain ⟨u6, hu6, h⟩ := bi_some h
    refine kD (v := u6) (wc := (w_Sm_costOfBasis T q0 q0_problem q0_point q0_table q0_right q0_cost q0_basic u2.1 u2.2.1 u2.2.2.1 u4.2.1 u4.2.2.2.2.1 u3 u4.2.2.2.2.2)) (wc' := (w_Sm_costOfBasis T q0 q0_problem q0_point q0_table q0_right q0_cost q0_basic u2.1 u2.2.1 u2.2.2.1 u4.2.1 u4.2.2.2.2.1 u3 u4.2.2.2.2.2)) (runOV (As := []) (rest := []) ((c_Sm_costOfBasis l D T q0 q0_problem q0_point q0_table q0_right q0_cost q0_basic u2.1 u2.2.1 u2.2.2.1 u4.2.1 u4.2.2.2.2.1 u3 u4.2.2.2.2.2  u6 hu6) H.size) ⟨hx, hb, hml, hown, hts⟩ (cwOV bw366 bw367 bw19 bw104 bw368 dd_Sm_costOfBasis hts ⟨Nat.le_of_ble_eq_true rfl, Nat.le_of_ble_eq_true rfl⟩) (va_recv hK hP (ci := 6) (q0 := 0) rfl rfl) hNW hK hP hD [0, 20, 21, 22] rfl (by decide) rfl hl.1 rfl (lv_room (Nat.le_of_ble_eq_true rfl)) d_Sm_solve_38 ⟨Nat.le_of_ble_eq_true rfl, Nat.le_of_ble_eq_true rfl⟩) hP hD hS hA [0, 20, 21, 22] rfl rfl (fun H locs hP hD hS => ?_)
    have hP : va_P D CL (w_Sm_solve T q0 q0_problem q0_point q0_table q0_right q0_cost q0_basic q0_problem_a q0_problem_b q0_problem_c Rq0_problem_a q0_point_x q0_point_s q0_point_y Rq0_table u2.1 u2.2.1 u2.2.2.1 u4.2.1 vq0_problem_rows vq0_problem_variables vq0_problem_a vq0_problem_b vq0_problem_c u4.2.2.1 u1.2.1 u1.2.2 u4.2.2.2.1 u4.2.2.2.2.1 u3 u4.2.2.2.2.2) H := hP
    have hD : va_D A (w_Sm_solve T q0 q0_problem q0_point q0_table q0_right q0_cost q0_basic q0_problem_a q0_problem_b q0_problem_c Rq0_problem_a q0_point_x q0_point_s q0_point_y Rq0_table u2.1 u2.2.1 u2.2.2.1 u4.2.1 vq0_problem_rows vq0_problem_variables vq0_problem_a vq0_problem_b vq0_problem_c u4.2.2.1 u1.2.1 u1.2.2 u4.2.2.2.1 u4.2.2.2.2.1 u3 u4.2.2.2.2.2) := hD
    refine lv_ldc2d (v := 4502148214488346440) hx hb hown (hts _ (bgc bw369)) d_Sm_solve_41 ?_
    refine lv_dcmp hx hb d_Sm_solve_44 ?_
    refine lv_if_le (tgt := 54) hx hb d_Sm_solve_45 (by decide) (fun c7 => ?_) (fun c7 => ?_)
    · have h := it_t c7 h
      refine lv_aload_n hx hb d_Sm_solve_54 rfl (lv_at hl 1 rfl) ?_
      refine lv_iconst (v := 1) hx hb d_Sm_solve_55 (by decide) ?_
      obtain ⟨u8, hu8, h⟩ := bi_some h
      refine kV (wc := (w_Sm_setCosts T q0 q0_problem q0_point q0_table q0_right q0_cost q0_basic q0_problem_a q0_problem_b q0_problem_c u2.1 u2.2.1 u2.2.2.1 u4.2.1 vq0_problem_rows vq0_problem_variables vq0_problem_c u3)) (wc' := (w_Sm_setCosts T q0 q0_problem q0_point q0_table q0_right q0_cost q0_basic q0_problem_a q0_problem_b q0_problem_c u2.1 u2.2.1 u2.2.2.1 u4.2.1 vq0_problem_rows vq0_problem_variables vq0_problem_c u8)) (runOV (As := [.int 1]) (rest := []) ((c_Sm_setCosts l D T q0 q0_problem q0_point q0_table q0_right q0_cost q0_basic q0_problem_a q0_problem_b q0_problem_c u2.1 u2.2.1 u2.2.2.1 u4.2.1 vq0_problem_rows vq0_problem_variables vq0_problem_c u3 1 u8 hu8) H.size) ⟨hx, hb, hml, hown, hts⟩ (cwOV bw333 bw334 bw9 bw104 bw335 dd_Sm_setCosts hts ⟨Nat.le_of_ble_eq_true rfl, Nat.le_of_ble_eq_true rfl⟩) (va_recv hK hP (ci := 6) (q0 := 0) rfl rfl) hNW hK hP hD [0, 1, 9, 21] rfl (by decide) rfl hl.1 rfl (lv_room (Nat.le_of_ble_eq_true rfl)) d_Sm_solve_56 ⟨Nat.le_of_ble_eq_true rfl, Nat.le_of_ble_eq_true rfl⟩) hP hD hS hA [0, 1, 9, 21] rfl rfl (fun H locs hP hD hS => ?_)
      have hP : va_P D CL (w_Sm_solve T q0 q0_problem q0_point q0_table q0_right q0_cost q0_basic q0_problem_a q0_problem_b q0_problem_c Rq0_problem_a q0_point_x q0_point_s q0_point_y Rq0_table u2.1 u2.2.1 u2.2.2.1 u4.2.1 vq0_problem_rows vq0_problem_variables vq0_problem_a vq0_problem_b vq0_problem_c u4.2.2.1 u1.2.1 u1.2.2 u4.2.2.2.1 u4.2.2.2.2.1 u8 u4.2.2.2.2.2) H := hP
      have hD : va_D A (w_Sm_solve T q0 q0_problem q0_point q0_table q0_right q0_cost q0_basic q0_problem_a q0_problem_b q0_problem_c Rq0_problem_a q0_point_x q0_point_s q0_point_y Rq0_table u2.1 u2.2.1 u2.2.2.1 u4.2.1 vq0_problem_rows vq0_problem_variables vq0_problem_a vq0_problem_b vq0_problem_c u4.2.2.1 u1.2.1 u1.2.2 u4.2.2.2.1 u4.2.2.2.2.1 u8 u4.2.2.2.2.2) := hD
      refine lv_aload_n hx hb d_Sm_solve_59 rfl (lv_at hl 1 rfl) ?_
      refine lv_iconst (v := 1) hx hb d_Sm_solve_60 (by decide) ?_
      obtain ⟨u9, hu9, h⟩ := bi_some h
      refine kI (v := u9.1) (wc := (w_Sm_runPhase T q0 q0_problem q0_point q0_table q0_right q0_cost q0_basic q0_point_x q0_point_s q0_point_y Rq0_table u2.1 u2.2.1 u2.2.2.1 u4.2.1 u4.2.2.1 u4.2.2.2.1 u4.2.2.2.2.1 u8 u4.2.2.2.2.2)) (wc' := (w_Sm_runPhase T q0 q0_problem q0_point q0_table q0_right q0_cost q0_basic q0_point_x q0_point_s q0_point_y Rq0_table u2.1 u2.2.1 u2.2.2.1 u9.2.1 u9.2.2.1 u9.2.2.2.1 u9.2.2.2.2.1 u8 u9.2.2.2.2.2)) (runOV (As := [.int 1]) (rest := []) ((c_Sm_runPhase l D T q0 q0_problem q0_point q0_table q0_right q0_cost q0_basic q0_point_x q0_point_s q0_point_y Rq0_table u2.1 u2.2.1 u2.2.2.1 u4.2.1 u4.2.2.1 u4.2.2.2.1 u4.2.2.2.2.1 u8 u4.2.2.2.2.2 1 u9 hu9) H.size) ⟨hx, hb, hml, hown, hts⟩ (cwOV bw336 bw337 bw10 bw104 bw338 dd_Sm_runPhase hts ⟨Nat.le_of_ble_eq_true rfl, Nat.le_of_ble_eq_true rfl⟩) (va_recv hK hP (ci := 6) (q0 := 0) rfl rfl) hNW hK hP hD [0, 10, 11, 14, 15, 16, 17, 18, 19, 20, 21, 22] rfl (by decide) rfl hl.1 rfl (lv_room (Nat.le_of_ble_eq_true rfl)) d_Sm_solve_61 ⟨Nat.le_of_ble_eq_true rfl, Nat.le_of_ble_eq_true rfl⟩) hP hD hS hA [0, 10, 11, 14, 15, 16, 17, 18, 19, 20, 21, 22] rfl rfl (fun H locs hP hD hS => ?_)
      have hP : va_P D CL (w_Sm_solve T q0 q0_problem q0_point q0_table q0_right q0_cost q0_basic q0_problem_a q0_problem_b q0_problem_c Rq0_problem_a q0_point_x q0_point_s q0_point_y Rq0_table u2.1 u2.2.1 u2.2.2.1 u9.2.1 vq0_problem_rows vq0_problem_variables vq0_problem_a vq0_problem_b vq0_problem_c u9.2.2.1 u1.2.1 u1.2.2 u9.2.2.2.1 u9.2.2.2.2.1 u8 u9.2.2.2.2.2) H := hP
      have hD : va_D A (w_Sm_solve T q0 q0_problem q0_point q0_table q0_right q0_cost q0_basic q0_problem_a q0_problem_b q0_problem_c Rq0_problem_a q0_point_x q0_point_s q0_point_y Rq0_table u2.1 u2.2.1 u2.2.2.1 u9.2.1 vq0_problem_rows vq0_problem_variables vq0_problem_a vq0_problem_b vq0_problem_c u9.2.2.1 u1.2.1 u1.2.2 u9.2.2.2.1 u9.2.2.2.2.1 u8 u9.2.2.2.2.2) := hD
      refine lv_istore_n (lv' := [(1, .int u9.1), (0, .ref q0)]) hx hb d_Sm_solve_64 rfl hl (by decide) rfl (fun ls hl => ?_)
      refine lv_iload_n hx hb d_Sm_solve_65 rfl (lv_at hl 0 rfl) ?_
      refine lv_bipush (v := 6) hx hb d_Sm_solve_66 (by decide) ?_
      refine lv_icmp_eq (tgt := 73) hx hb d_Sm_solve_68 (by decide) (fun c10 => ?_) (fun c10 => ?_)
      · have h := it_t c10 h
        refine lv_aload_n hx hb d_Sm_solve_73 rfl (lv_at hl 1 rfl) ?_
        obtain ⟨u11, hu11, h⟩ := bi_some h
        refine kV (wc := (w_Sm_tellSolution T q0 q0_problem q0_point q0_table q0_right q0_cost q0_basic q0_problem_a q0_problem_b q0_problem_c Rq0_problem_a q0_point_x q0_point_s q0_point_y Rq0_table u2.1 u2.2.1 u2.2.2.1 u9.2.1 vq0_problem_rows vq0_problem_variables vq0_problem_a vq0_problem_b vq0_problem_c u9.2.2.1 u1.2.1 u1.2.2 u9.2.2.2.1 u9.2.2.2.2.1 u8 u9.2.2.2.2.2)) (wc' := (w_Sm_tellSolution T q0 q0_problem q0_point q0_table q0_right q0_cost q0_basic q0_problem_a q0_problem_b q0_problem_c Rq0_problem_a q0_point_x q0_point_s q0_point_y Rq0_table u2.1 u2.2.1 u2.2.2.1 u9.2.1 vq0_problem_rows vq0_problem_variables vq0_problem_a vq0_problem_b vq0_problem_c u11.1 u11.2.1 u11.2.2 u9.2.2.2.1 u9.2.2.2.2.1 u8 u9.2.2.2.2.2)) (runOV (As := []) (rest := []) ((c_Sm_tellSolution l D T q0 q0_problem q0_point q0_table q0_right q0_cost q0_basic q0_problem_a q0_problem_b q0_problem_c Rq0_problem_a q0_point_x q0_point_s q0_point_y Rq0_table u2.1 u2.2.1 u2.2.2.1 u9.2.1 vq0_problem_rows vq0_problem_variables vq0_problem_a vq0_problem_b vq0_problem_c u9.2.2.1 u1.2.1 u1.2.2 u9.2.2.2.1 u9.2.2.2.2.1 u8 u9.2.2.2.2.2  u11 hu11) H.size) ⟨hx, hb, hml, hown, hts⟩ (cwOV bw373 bw374 bw21 bw104 bw375 dd_Sm_tellSolution hts ⟨Nat.le_of_ble_eq_true rfl, Nat.le_of_ble_eq_true rfl⟩) (va_recv hK hP (ci := 6) (q0 := 0) rfl rfl) hNW hK hP hD [0, 1, 2, 3, 4, 5, 6, 7, 8, 9, 10, 11, 12, 13, 14, 15, 16, 17, 18, 19, 20, 21, 22] rfl (by decide) rfl hl.1 rfl (lv_room (Nat.le_of_ble_eq_true rfl)) d_Sm_solve_74 ⟨Nat.le_of_ble_eq_true rfl, Nat.le_of_ble_eq_true rfl⟩) hP hD hS hA [0, 1, 2, 3, 4, 5, 6, 7, 8, 9, 10, 11, 12, 13, 14, 15, 16, 17, 18, 19, 20, 21, 22] rfl rfl (fun H locs hP hD hS => ?_)
        have hP : va_P D CL (w_Sm_solve T q0 q0_problem q0_point q0_table q0_right q0_cost q0_basic q0_problem_a q0_problem_b q0_problem_c Rq0_problem_a q0_point_x q0_point_s q0_point_y Rq0_table u2.1 u2.2.1 u2.2.2.1 u9.2.1 vq0_problem_rows vq0_problem_variables vq0_problem_a vq0_problem_b vq0_problem_c u11.1 u11.2.1 u11.2.2 u9.2.2.2.1 u9.2.2.2.2.1 u8 u9.2.2.2.2.2) H := hP
        have hD : va_D A (w_Sm_solve T q0 q0_problem q0_point q0_table q0_right q0_cost q0_basic q0_problem_a q0_problem_b q0_problem_c Rq0_problem_a q0_point_x q0_point_s q0_point_y Rq0_table u2.1 u2.2.1 u2.2.2.1 u9.2.1 vq0_problem_rows vq0_problem_variables vq0_problem_a vq0_problem_b vq0_problem_c u11.1 u11.2.1 u11.2.2 u9.2.2.2.1 u9.2.2.2.2.1 u8 u9.2.2.2.2.2) := hD
        refine lv_iconst (v := 0) hx hb d_Sm_solve_77 (by decide) ?_
        exact rtI hx hb hr hlocks hQ (Option.some.inj h) hP hS d_Sm_solve_78 rfl rfl
      · have h := it_f c10 h
        refine lv_iload_n hx hb d_Sm_solve_71 rfl (lv_at hl 0 rfl) ?_
        exact rtI hx hb hr hlocks hQ (Option.some.inj h) hP hS d_Sm_solve_72 rfl rfl
    · have h := it_f c7 h
      refine lv_aload_n hx hb d_Sm_solve_48 rfl (lv_at hl 1 rfl) ?_
      obtain ⟨u12, hu12, h⟩ := bi_some h
      refine kV (wc := (w_Sm_tellPrices T q0 q0_problem q0_point q0_table q0_right q0_cost q0_basic q0_problem_a q0_problem_b q0_problem_c q0_point_x q0_point_s q0_point_y Rq0_table u2.1 u2.2.1 u2.2.2.1 u4.2.1 vq0_problem_rows vq0_problem_variables vq0_problem_b u1.2.2 u4.2.2.2.1 u3 u4.2.2.2.2.2)) (wc' := (w_Sm_tellPrices T q0 q0_problem q0_point q0_table q0_right q0_cost q0_basic q0_problem_a q0_problem_b q0_problem_c q0_point_x q0_point_s q0_point_y Rq0_table u2.1 u2.2.1 u2.2.2.1 u4.2.1 vq0_problem_rows vq0_problem_variables vq0_problem_b u12 u4.2.2.2.1 u3 u4.2.2.2.2.2)) (runOV (As := []) (rest := []) ((c_Sm_tellPrices l D T q0 q0_problem q0_point q0_table q0_right q0_cost q0_basic q0_problem_a q0_problem_b q0_problem_c q0_point_x q0_point_s q0_point_y Rq0_table u2.1 u2.2.1 u2.2.2.1 u4.2.1 vq0_problem_rows vq0_problem_variables vq0_problem_b u1.2.2 u4.2.2.2.1 u3 u4.2.2.2.2.2  u12 hu12) H.size) ⟨hx, hb, hml, hown, hts⟩ (cwOV bw370 bw371 bw20 bw104 bw372 dd_Sm_tellPrices hts ⟨Nat.le_of_ble_eq_true rfl, Nat.le_of_ble_eq_true rfl⟩) (va_recv hK hP (ci := 6) (q0 := 0) rfl rfl) hNW hK hP hD [0, 1, 8, 10, 13, 14, 15, 16, 17, 18, 19, 21, 22] rfl (by decide) rfl hl.1 rfl (lv_room (Nat.le_of_ble_eq_true rfl)) d_Sm_solve_49 ⟨Nat.le_of_ble_eq_true rfl, Nat.le_of_ble_eq_true rfl⟩) hP hD hS hA [0, 1, 8, 10, 13, 14, 15, 16, 17, 18, 19, 21, 22] rfl rfl (fun H locs hP hD hS => ?_)
      have hP : va_P D CL (w_Sm_solve T q0 q0_problem q0_point q0_table q0_right q0_cost q0_basic q0_problem_a q0_problem_b q0_problem_c Rq0_problem_a q0_point_x q0_point_s q0_point_y Rq0_table u2.1 u2.2.1 u2.2.2.1 u4.2.1 vq0_problem_rows vq0_problem_variables vq0_problem_a vq0_problem_b vq0_problem_c u4.2.2.1 u1.2.1 u12 u4.2.2.2.1 u4.2.2.2.2.1 u3 u4.2.2.2.2.2) H := hP
      have hD : va_D A (w_Sm_solve T q0 q0_problem q0_point q0_table q0_right q0_cost q0_basic q0_problem_a q0_problem_b q0_problem_c Rq0_problem_a q0_point_x q0_point_s q0_point_y Rq0_table u2.1 u2.2.1 u2.2.2.1 u4.2.1 vq0_problem_rows vq0_problem_variables vq0_problem_a vq0_problem_b vq0_problem_c u4.2.2.1 u1.2.1 u12 u4.2.2.2.1 u4.2.2.2.2.1 u3 u4.2.2.2.2.2) := hD
      refine lv_iconst (v := 1) hx hb d_Sm_solve_52 (by decide) ?_
      exact rtI hx hb hr hlocks hQ (Option.some.inj h) hP hS d_Sm_solve_53 rfl rfl
  · have h := it_f c5 h
    refine lv_iload_n hx hb d_Sm_solve_35 rfl (lv_at hl 0 rfl) ?_
    exact rtI hx hb hr hlocks hQ (Option.some.inj h) hP hS d_Sm_solve_36 rfl rfl
