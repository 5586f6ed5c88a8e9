theorem d_Fm_gather_0 : decode prog_2_method_2_code 0 = .ok (.iconst 0, 1) := by decide +kernel
theorem d_Fm_gather_1 : decode prog_2_method_2_code 1 = .ok (.istore_n 3, 1) := by decide +kernel
theorem d_Fm_gather_2 : decode prog_2_method_2_code 2 = .ok (.iload_n 3, 1) := by decide +kernel
theorem d_Fm_gather_3 : decode prog_2_method_2_code 3 = .ok (.aload_n 1, 1) := by decide +kernel
theorem d_Fm_gather_4 : decode prog_2_method_2_code 4 = .ok (.getfield 26, 3) := by decide +kernel
theorem d_Fm_gather_7 : decode prog_2_method_2_code 7 = .ok (.if_icmp .ge 86, 3) := by decide +kernel
theorem d_Fm_gather_10 : decode prog_2_method_2_code 10 = .ok (.iconst 0, 1) := by decide +kernel
theorem d_Fm_gather_11 : decode prog_2_method_2_code 11 = .ok (.istore 4, 2) := by decide +kernel
theorem d_Fm_gather_13 : decode prog_2_method_2_code 13 = .ok (.iload 4, 2) := by decide +kernel
theorem d_Fm_gather_15 : decode prog_2_method_2_code 15 = .ok (.iload_n 3, 1) := by decide +kernel
theorem d_Fm_gather_16 : decode prog_2_method_2_code 16 = .ok (.if_icmp .gt 71, 3) := by decide +kernel
theorem d_Fm_gather_19 : decode prog_2_method_2_code 19 = .ok (.dconst 0, 1) := by decide +kernel
theorem d_Fm_gather_20 : decode prog_2_method_2_code 20 = .ok (.dstore 5, 2) := by decide +kernel
theorem d_Fm_gather_22 : decode prog_2_method_2_code 22 = .ok (.iconst 0, 1) := by decide +kernel
theorem d_Fm_gather_23 : decode prog_2_method_2_code 23 = .ok (.istore 7, 2) := by decide +kernel
theorem d_Fm_gather_25 : decode prog_2_method_2_code 25 = .ok (.iload 7, 2) := by decide +kernel
theorem d_Fm_gather_27 : decode prog_2_method_2_code 27 = .ok (.aload_n 1, 1) := by decide +kernel
theorem d_Fm_gather_28 : decode prog_2_method_2_code 28 = .ok (.getfield 32, 3) := by decide +kernel
theorem d_Fm_gather_31 : decode prog_2_method_2_code 31 = .ok (.if_icmp .ge 39, 3) := by decide +kernel
theorem d_Fm_gather_34 : decode prog_2_method_2_code 34 = .ok (.dload 5, 2) := by decide +kernel
theorem d_Fm_gather_36 : decode prog_2_method_2_code 36 = .ok (.aload_n 1, 1) := by decide +kernel
theorem d_Fm_gather_37 : decode prog_2_method_2_code 37 = .ok (.getfield 35, 3) := by decide +kernel
theorem d_Fm_gather_40 : decode prog_2_method_2_code 40 = .ok (.iload_n 3, 1) := by decide +kernel
theorem d_Fm_gather_41 : decode prog_2_method_2_code 41 = .ok (.aaload, 1) := by decide +kernel
theorem d_Fm_gather_42 : decode prog_2_method_2_code 42 = .ok (.iload 7, 2) := by decide +kernel
theorem d_Fm_gather_44 : decode prog_2_method_2_code 44 = .ok (.daload, 1) := by decide +kernel
theorem d_Fm_gather_45 : decode prog_2_method_2_code 45 = .ok (.aload_n 2, 1) := by decide +kernel
theorem d_Fm_gather_46 : decode prog_2_method_2_code 46 = .ok (.iload 7, 2) := by decide +kernel
theorem d_Fm_gather_48 : decode prog_2_method_2_code 48 = .ok (.daload, 1) := by decide +kernel
theorem d_Fm_gather_49 : decode prog_2_method_2_code 49 = .ok (.dmul, 1) := by decide +kernel
theorem d_Fm_gather_50 : decode prog_2_method_2_code 50 = .ok (.aload_n 1, 1) := by decide +kernel
theorem d_Fm_gather_51 : decode prog_2_method_2_code 51 = .ok (.getfield 35, 3) := by decide +kernel
theorem d_Fm_gather_54 : decode prog_2_method_2_code 54 = .ok (.iload 4, 2) := by decide +kernel
theorem d_Fm_gather_56 : decode prog_2_method_2_code 56 = .ok (.aaload, 1) := by decide +kernel
theorem d_Fm_gather_57 : decode prog_2_method_2_code 57 = .ok (.iload 7, 2) := by decide +kernel
theorem d_Fm_gather_59 : decode prog_2_method_2_code 59 = .ok (.daload, 1) := by decide +kernel
theorem d_Fm_gather_60 : decode prog_2_method_2_code 60 = .ok (.dmul, 1) := by decide +kernel
theorem d_Fm_gather_61 : decode prog_2_method_2_code 61 = .ok (.dadd, 1) := by decide +kernel
theorem d_Fm_gather_62 : decode prog_2_method_2_code 62 = .ok (.dstore 5, 2) := by decide +kernel
theorem d_Fm_gather_64 : decode prog_2_method_2_code 64 = .ok (.iinc 7 1, 3) := by decide +kernel
theorem d_Fm_gather_67 : decode prog_2_method_2_code 67 = .ok (.goto (-42), 3) := by decide +kernel
theorem d_Fm_gather_70 : decode prog_2_method_2_code 70 = .ok (.aload_n 0, 1) := by decide +kernel
theorem d_Fm_gather_71 : decode prog_2_method_2_code 71 = .ok (.getfield 11, 3) := by decide +kernel
theorem d_Fm_gather_74 : decode prog_2_method_2_code 74 = .ok (.iload_n 3, 1) := by decide +kernel
theorem d_Fm_gather_75 : decode prog_2_method_2_code 75 = .ok (.aaload, 1) := by decide +kernel
theorem d_Fm_gather_76 : decode prog_2_method_2_code 76 = .ok (.iload 4, 2) := by decide +kernel
theorem d_Fm_gather_78 : decode prog_2_method_2_code 78 = .ok (.dload 5, 2) := by decide +kernel
theorem d_Fm_gather_80 : decode prog_2_method_2_code 80 = .ok (.dastore, 1) := by decide +kernel
theorem d_Fm_gather_81 : decode prog_2_method_2_code 81 = .ok (.iinc 4 1, 3) := by decide +kernel
theorem d_Fm_gather_84 : decode prog_2_method_2_code 84 = .ok (.goto (-71), 3) := by decide +kernel
theorem d_Fm_gather_87 : decode prog_2_method_2_code 87 = .ok (.iinc 3 1, 3) := by decide +kernel
theorem d_Fm_gather_90 : decode prog_2_method_2_code 90 = .ok (.goto (-88), 3) := by decide +kernel
theorem d_Fm_gather_93 : decode prog_2_method_2_code 93 = .ok (.return_, 1) := by decide +kernel
abbrev w_Fm_gather (T : Nat → ClassId) (q0 : Nat) (q0_entries : Nat) (q0_lower : Nat) (q0_diagonal : Nat) (q0_middle : Nat) (Rq0_entries : Nat → Nat) (q1 : Nat) (q1_a : Nat) (q1_b : Nat) (q1_c : Nat) (Rq1_a : Nat → Nat) (q2 : Nat) (n2 : Nat) (vq0_entries : Nat → Nat → UInt64) (vq1_rows : Int32) (vq1_variables : Int32) (vq1_a : Nat → Nat → UInt64) (vq2 : Nat → UInt64) : va_W := [(q0, .inr (4, [.ref q0_entries, .ref q0_lower, .ref q0_diagonal, .ref q0_middle])), (q0_entries, .inl (T 3, 5, .inr (.inr (.inr (.inr (fun i => some (Rq0_entries i))))))), (Rq0_entries 0, .inl (T 0, 5, .inr (.inr (.inr (.inl (vq0_entries 0)))))), (Rq0_entries 1, .inl (T 0, 5, .inr (.inr (.inr (.inl (vq0_entries 1)))))), (Rq0_entries 2, .inl (T 0, 5, .inr (.inr (.inr (.inl (vq0_entries 2)))))), (Rq0_entries 3, .inl (T 0, 5, .inr (.inr (.inr (.inl (vq0_entries 3)))))), (Rq0_entries 4, .inl (T 0, 5, .inr (.inr (.inr (.inl (vq0_entries 4)))))), (q1, .inr (0, [.int vq1_rows, .int vq1_variables, .ref q1_a, .ref q1_b, .ref q1_c])), (q1_a, .inl (T 3, 5, .inr (.inr (.inr (.inr (fun i => some (Rq1_a i))))))), (Rq1_a 0, .inl (T 0, 8, .inr (.inr (.inr (.inl (vq1_a 0)))))), (Rq1_a 1, .inl (T 0, 8, .inr (.inr (.inr (.inl (vq1_a 1)))))), (Rq1_a 2, .inl (T 0, 8, .inr (.inr (.inr (.inl (vq1_a 2)))))), (Rq1_a 3, .inl (T 0, 8, .inr (.inr (.inr (.inl (vq1_a 3)))))), (Rq1_a 4, .inl (T 0, 8, .inr (.inr (.inr (.inl (vq1_a 4)))))), (q2, .inl (T 0, n2, .inr (.inr (.inr (.inl vq2)))))]
def s_Fm_gather_B25 (n2 : Nat) (vq0_entries : Nat → Nat → UInt64) (vq1_rows : Int32) (vq1_variables : Int32) (vq1_a : Nat → Nat → UInt64) (vq2 : Nat → UInt64) (x3 : Int32) (x4 : Int32) (x5 : UInt64) (x7 : Int32) : Option ((UInt64 × Int32) ⊕ (UInt64)) :=
  if vq1_variables ≤ x7 then (some (.inr x5)) else (gd (inb x3 5) <| gd (inb x7 8) <| gd (inb x7 n2) <| gd (isn (FP.dmul (vq1_a x3.toNatClampNeg x7.toNatClampNeg) (vq2 x7.toNatClampNeg))) <| gd (inb x4 5) <| gd (inb x7 8) <| gd (isn (FP.dmul (FP.dmul (vq1_a x3.toNatClampNeg x7.toNatClampNeg) (vq2 x7.toNatClampNeg)) (vq1_a x4.toNatClampNeg x7.toNatClampNeg))) <| gd (isn (FP.dadd x5 (FP.dmul (FP.dmul (vq1_a x3.toNatClampNeg x7.toNatClampNeg) (vq2 x7.toNatClampNeg)) (vq1_a x4.toNatClampNeg x7.toNatClampNeg)))) <| some (.inl (FP.dadd x5 (FP.dmul (FP.dmul (vq1_a x3.toNatClampNeg x7.toNatClampNeg) (vq2 x7.toNatClampNeg)) (vq1_a x4.toNatClampNeg x7.toNatClampNeg)), x7 + 1)))
def s_Fm_gather_L25 (n2 : Nat) (vq0_entries : Nat → Nat → UInt64) (vq1_rows : Int32) (vq1_variables : Int32) (vq1_a : Nat → Nat → UInt64) (vq2 : Nat → UInt64) (x3 : Int32) (x4 : Int32) (x5 : UInt64) (x7 : Int32) : Option (((Nat → Nat → UInt64) × Int32) ⊕ ((Nat → Nat → UInt64))) :=
  (loopO (fun (st : UInt64 × Int32) => s_Fm_gather_B25 n2 vq0_entries vq1_rows vq1_variables vq1_a vq2 x3 x4 st.1 st.2) 2000 (x5, x7)).bind fun ul25 => gd (inb x3 5) <| gd (inb x4 5) <| some (.inl (gset vq0_entries x3.toNatClampNeg (vf_upd (vq0_entries x3.toNatClampNeg) x4.toNatClampNeg ul25), x4 + 1))
def s_Fm_gather_B13 (n2 : Nat) (vq1_rows : Int32) (vq1_variables : Int32) (vq1_a : Nat → Nat → UInt64) (vq2 : Nat → UInt64) (x3 : Int32) (vq0_entries : Nat → Nat → UInt64) (x4 : Int32) : Option (((Nat → Nat → UInt64) × Int32) ⊕ ((Nat → Nat → UInt64))) :=
  if x3 < x4 then (some (.inr vq0_entries)) else (s_Fm_gather_L25 n2 vq0_entries vq1_rows vq1_variables vq1_a vq2 x3 x4 FP.dconst0 0)
def s_Fm_gather_L13 (n2 : Nat) (vq0_entries : Nat → Nat → UInt64) (vq1_rows : Int32) (vq1_variables : Int32) (vq1_a : Nat → Nat → UInt64) (vq2 : Nat → UInt64) (x3 : Int32) (x4 : Int32) : Option (((Nat → Nat → UInt64) × Int32) ⊕ ((Nat → Nat → UInt64))) :=
  (loopO (fun (st : (Nat → Nat → UInt64) × Int32) => s_Fm_gather_B13 n2 vq1_rows vq1_variables vq1_a vq2 x3 st.1 st.2) 2000 (vq0_entries, x4)).bind fun ul13 => some (.inl (ul13, x3 + 1))
def s_Fm_gather_B2 (n2 : Nat) (vq1_rows : Int32) (vq1_variables : Int32) (vq1_a : Nat → Nat → UInt64) (vq2 : Nat → UInt64) (vq0_entries : Nat → Nat → UInt64) (x3 : Int32) : Option (((Nat → Nat → UInt64) × Int32) ⊕ ((Nat → Nat → UInt64))) :=
  if vq1_rows ≤ x3 then (some (.inr vq0_entries)) else (s_Fm_gather_L13 n2 vq0_entries vq1_rows vq1_variables vq1_a vq2 x3 0)
def s_Fm_gather_L2 (n2 : Nat) (vq0_entries : Nat → Nat → UInt64) (vq1_rows : Int32) (vq1_variables : Int32) (vq1_a : Nat → Nat → UInt64) (vq2 : Nat → UInt64) (x3 : Int32) : Option ((Nat → Nat → UInt64)) :=
  (loopO (fun (st : (Nat → Nat → UInt64) × Int32) => s_Fm_gather_B2 n2 vq1_rows vq1_variables vq1_a vq2 st.1 st.2) 2000 (vq0_entries, x3)).bind fun ul2 => some ul2
def s_Fm_gather (n2 : Nat) (vq0_entries : Nat → Nat → UInt64) (vq1_rows : Int32) (vq1_variables : Int32) (vq1_a : Nat → Nat → UInt64) (vq2 : Nat → UInt64) : Option ((Nat → Nat → UInt64)) :=
  s_Fm_gather_L2 n2 vq0_entries vq1_rows vq1_variables vq1_a vq2 0
set_option maxHeartbeats 40000000 in
set_option maxRecDepth 100000 in
theorem c_Fm_gather (l : Launch) (D : va_G) (T : Nat → ClassId) (q0 : Nat) (q0_entries : Nat) (q0_lower : Nat) (q0_diagonal : Nat) (q0_middle : Nat) (Rq0_entries : Nat → Nat) (q1 : Nat) (q1_a : Nat) (q1_b : Nat) (q1_c : Nat) (Rq1_a : Nat → Nat) (q2 : Nat) (n2 : Nat) (vq0_entries : Nat → Nat → UInt64) (vq1_rows : Int32) (vq1_variables : Int32) (vq1_a : Nat → Nat → UInt64) (vq2 : Nat → UInt64) (rm : (Nat → Nat → UInt64)) (h : s_Fm_gather n2 vq0_entries vq1_rows vq1_variables vq1_a vq2 = some rm) : CtV l y_Fm_gather (Cond.code y_Fm_gather prog_2_method_2_code 8 none :: BIG) 0 0 D T [.ref q0, .ref q1, .ref q2] (w_Fm_gather T q0 q0_entries q0_lower q0_diagonal q0_middle Rq0_entries q1 q1_a q1_b q1_c Rq1_a q2 n2 vq0_entries vq1_rows vq1_variables vq1_a vq2) (fun r => (w_Fm_gather T q0 q0_entries q0_lower q0_diagonal q0_middle Rq0_entries q1 q1_a q1_b q1_c Rq1_a q2 n2 r vq1_rows vq1_variables vq1_a vq2)) rm := by
  refine cf_entry (y := y_Fm_gather) (cc := prog_2_method_2_code) (nL := 8) (ret := none) (fr := 0) (lo := 0) (T := T) (av := [.ref q0, .ref q1, .ref q2]) (w := (w_Fm_gather T q0 q0_entries q0_lower q0_diagonal q0_middle Rq0_entries q1 q1_a q1_b q1_c Rq1_a q2 n2 vq0_entries vq1_rows vq1_variables vq1_a vq2)) (Qc := cfQv D (fun r => (w_Fm_gather T q0 q0_entries q0_lower q0_diagonal q0_middle Rq0_entries q1 q1_a q1_b q1_c Rq1_a q2 n2 r vq1_rows vq1_variables vq1_a vq2)) rm) (by decide) rfl (Nat.le_of_ble_eq_true rfl) ?_
  intro p e s m args below meth c A Q H locs ls hx hb hr hlocks hml hown hts hNW hK hA hQ hP hD hS hl
  have hown : s.vm.findClass "ConeForge$FactoredMatrix" = some m.cls := hown
  have hl : lv_has ls 8 [(0, .ref q0), (1, .ref q1), (2, .ref q2)] := hl
  have L2 : ∀ (vq0_entries : Nat → Nat → UInt64) (x3 : Int32), ∀ (H : Heap) (locs : List Loc) (ls : Array Slot), va_P D CL (w_Fm_gather T q0 q0_entries q0_lower q0_diagonal q0_middle Rq0_entries q1 q1_a q1_b q1_c Rq1_a q2 n2 vq0_entries vq1_rows vq1_variables vq1_a vq2) H → va_D A (w_Fm_gather T q0 q0_entries q0_lower q0_diagonal q0_middle Rq0_entries q1 q1_a q1_b q1_c Rq1_a q2 n2 vq0_entries vq1_rows vq1_variables vq1_a vq2) → va_S A s.heap H locs → lv_has ls 8 [(0, .ref q0), (1, .ref q1), (2, .ref q2), (3, .int x3)] → s_Fm_gather_L2 n2 vq0_entries vq1_rows vq1_variables vq1_a vq2 x3 = some rm → W p l e (rmk 0 0) s m args below meth c H locs 0 0 Q (F0 m 2 ls []) := by
    intro vq0_entries x3 H locs ls hP hD hS hl h
    unfold s_Fm_gather_L2 at h
    obtain ⟨ul2, hul2, h⟩ := bi_some h
    refine loopO_W (Wh := fun (st : (Nat → Nat → UInt64) × Int32) => ∀ (H : Heap) (locs : List Loc) (ls : Array Slot), va_P D CL (w_Fm_gather T q0 q0_entries q0_lower q0_diagonal q0_middle Rq0_entries q1 q1_a q1_b q1_c Rq1_a q2 n2 st.1 vq1_rows vq1_variables vq1_a vq2) H → va_D A (w_Fm_gather T q0 q0_entries q0_lower q0_diagonal q0_middle Rq0_entries q1 q1_a q1_b q1_c Rq1_a q2 n2 st.1 vq1_rows vq1_variables vq1_a vq2) → va_S A s.heap H locs → lv_has ls 8 [(0, .ref q0), (1, .ref q1), (2, .ref q2), (3, .int st.2)] → W p l e (rmk 0 0) s m args below meth c H locs 0 0 Q (F0 m 2 ls [])) (Wx := fun (e1 : (Nat → Nat → UInt64)) => ∀ (H : Heap) (locs : List Loc) (ls : Array Slot), va_P D CL (w_Fm_gather T q0 q0_entries q0_lower q0_diagonal q0_middle Rq0_entries q1 q1_a q1_b q1_c Rq1_a q2 n2 e1 vq1_rows vq1_variables vq1_a vq2) H → va_D A (w_Fm_gather T q0 q0_entries q0_lower q0_diagonal q0_middle Rq0_entries q1 q1_a q1_b q1_c Rq1_a q2 n2 e1 vq1_rows vq1_variables vq1_a vq2) → va_S A s.heap H locs → lv_has ls 8 [] → W p l e (rmk 0 0) s m args below meth c H locs 0 0 Q (F0 m 93 ls [])) ?_ 2000 _ ul2 hul2 ?_ H locs ls hP hD hS hl
    · intro st rb2 h kc2 kx2 H locs ls hP hD hS hl
      obtain ⟨vq0_entries, x3⟩ := st
      have h : s_Fm_gather_B2 n2 vq1_rows vq1_variables vq1_a vq2 vq0_entries x3 = some rb2 := h
      have L13 : ∀ (vq0_entries : Nat → Nat → UInt64) (x3 : Int32) (x4 : Int32), ∀ (H : Heap) (locs : List Loc) (ls : Array Slot), va_P D CL (w_Fm_gather T q0 q0_entries q0_lower q0_diagonal q0_middle Rq0_entries q1 q1_a q1_b q1_c Rq1_a q2 n2 vq0_entries vq1_rows vq1_variables vq1_a vq2) H → va_D A (w_Fm_gather T q0 q0_entries q0_lower q0_diagonal q0_middle Rq0_entries q1 q1_a q1_b q1_c Rq1_a q2 n2 vq0_entries vq1_rows vq1_variables vq1_a vq2) → va_S A s.heap H locs → lv_has ls 8 [(0, .ref q0), (1, .ref q1), (2, .ref q2), (3, .int x3), (4, .int x4)] → s_Fm_gather_L13 n2 vq0_entries vq1_rows vq1_variables vq1_a vq2 x3 x4 = some rb2 → W p l e (rmk 0 0) s m args below meth c H locs 0 0 Q (F0 m 13 ls []) := by
        intro vq0_entries x3 x4 H locs ls hP hD hS hl h
        unfold s_Fm_gather_L13 at h
        obtain ⟨ul13, hul13, h⟩ := bi_some h
        refine loopO_W (Wh := fun (st : (Nat → Nat → UInt64) × Int32) => ∀ (H : Heap) (locs : List Loc) (ls : Array Slot), va_P D CL (w_Fm_gather T q0 q0_entries q0_lower q0_diagonal q0_middle Rq0_entries q1 q1_a q1_b q1_c Rq1_a q2 n2 st.1 vq1_rows vq1_variables vq1_a vq2) H → va_D A (w_Fm_gather T q0 q0_entries q0_lower q0_diagonal q0_middle Rq0_entries q1 q1_a q1_b q1_c Rq1_a q2 n2 st.1 vq1_rows vq1_variables vq1_a vq2) → va_S A s.heap H locs → lv_has ls 8 [(0, .ref q0), (1, .ref q1), (2, .ref q2), (3, .int x3), (4, .int st.2)] → W p l e (rmk 0 0) s m args below meth c H locs 0 0 Q (F0 m 13 ls [])) (Wx := fun (e1 : (Nat → Nat → UInt64)) => ∀ (H : Heap) (locs : List Loc) (ls : Array Slot), va_P D CL (w_Fm_gather T q0 q0_entries q0_lower q0_diagonal q0_middle Rq0_entries q1 q1_a q1_b q1_c Rq1_a q2 n2 e1 vq1_rows vq1_variables vq1_a vq2) H → va_D A (w_Fm_gather T q0 q0_entries q0_lower q0_diagonal q0_middle Rq0_entries q1 q1_a q1_b q1_c Rq1_a q2 n2 e1 vq1_rows vq1_variables vq1_a vq2) → va_S A s.heap H locs → lv_has ls 8 [(0, .ref q0), (1, .ref q1), (2, .ref q2), (3, .int x3)] → W p l e (rmk 0 0) s m args below meth c H locs 0 0 Q (F0 m 87 ls [])) ?_ 2000 _ ul13 hul13 ?_ H locs ls hP hD hS hl
        · intro st rb13 h kc13 kx13 H locs ls hP hD hS hl
          obtain ⟨vq0_entries, x4⟩ := st
          have h : s_Fm_gather_B13 n2 vq1_rows vq1_variables vq1_a vq2 x3 vq0_entries x4 = some rb13 := h
          have L25 : ∀ (vq0_entries : Nat → Nat → UInt64) (x4 : Int32) (x5 : UInt64) (x7 : Int32), ∀ (H : Heap) (locs : List Loc) (ls : Array Slot), va_P D CL (w_Fm_gather T q0 q0_entries q0_lower q0_diagonal q0_middle Rq0_entries q1 q1_a q1_b q1_c Rq1_a q2 n2 vq0_entries vq1_rows vq1_variables vq1_a vq2) H → va_D A (w_Fm_gather T q0 q0_entries q0_lower q0_diagonal q0_middle Rq0_entries q1 q1_a q1_b q1_c Rq1_a q2 n2 vq0_entries vq1_rows vq1_variables vq1_a vq2) → va_S A s.heap H locs → lv_has ls 8 [(0, .ref q0), (1, .ref q1), (2, .ref q2), (3, .int x3), (4, .int x4), (5, .double x5), (7, .int x7)] → s_Fm_gather_L25 n2 vq0_entries vq1_rows vq1_variables vq1_a vq2 x3 x4 x5 x7 = some rb13 → W p l e (rmk 0 0) s m args below meth c H locs 0 0 Q (F0 m 25 ls []) := by
            intro vq0_entries x4 x5 x7 H locs ls hP hD hS hl h
            unfold s_Fm_gather_L25 at h
            obtain ⟨ul25, hul25, h⟩ := bi_some h
            refine loopO_W (Wh := fun (st : UInt64 × Int32) => ∀ (H : Heap) (locs : List Loc) (ls : Array Slot), va_P D CL (w_Fm_gather T q0 q0_entries q0_lower q0_diagonal q0_middle Rq0_entries q1 q1_a q1_b q1_c Rq1_a q2 n2 vq0_entries vq1_rows vq1_variables vq1_a vq2) H → va_D A (w_Fm_gather T q0 q0_entries q0_lower q0_diagonal q0_middle Rq0_entries q1 q1_a q1_b q1_c Rq1_a q2 n2 vq0_entries vq1_rows vq1_variables vq1_a vq2) → va_S A s.heap H locs → lv_has ls 8 [(0, .ref q0), (1, .ref q1), (2, .ref q2), (3, .int x3), (4, .int x4), (5, .double st.1), (7, .int st.2)] → W p l e (rmk 0 0) s m args below meth c H locs 0 0 Q (F0 m 25 ls [])) (Wx := fun (e1 : UInt64) => ∀ (H : Heap) (locs : List Loc) (ls : Array Slot), va_P D CL (w_Fm_gather T q0 q0_entries q0_lower q0_diagonal q0_middle Rq0_entries q1 q1_a q1_b q1_c Rq1_a q2 n2 vq0_entries vq1_rows vq1_variables vq1_a vq2) H → va_D A (w_Fm_gather T q0 q0_entries q0_lower q0_diagonal q0_middle Rq0_entries q1 q1_a q1_b q1_c Rq1_a q2 n2 vq0_entries vq1_rows vq1_variables vq1_a vq2) → va_S A s.heap H locs → lv_has ls 8 [(0, .ref q0), (1, .ref q1), (2, .ref q2), (3, .int x3), (4, .int x4), (5, .double e1)] → W p l e (rmk 0 0) s m args below meth c H locs 0 0 Q (F0 m 70 ls [])) ?_ 2000 _ ul25 hul25 ?_ H locs ls hP hD hS hl
            · intro st rb25 h kc25 kx25 H locs ls hP hD hS hl
              obtain ⟨x5, x7⟩ := st
              have h : s_Fm_gather_B25 n2 vq0_entries vq1_rows vq1_variables vq1_a vq2 x3 x4 x5 x7 = some rb25 := h
              unfold s_Fm_gather_B25 at h
              refine lv_iload hx hb d_Fm_gather_25 (lv_at hl 6 rfl) ?_
              refine lv_aload_n hx hb d_Fm_gather_27 rfl (lv_at hl 1 rfl) ?_
              refine va_getN (D := D) (ci := 0) (v := .int vq1_variables) (C := "ConeForge$Problem") (T := FPb) (N := 5) hx hb hts iPb hown hK hP 7 rfl rfl 1 (by decide) (hNW.use nw7) (fun _ h9 => h9) rfl d_Fm_gather_28 ?_
              refine lv_icmp_ge (tgt := 70) hx hb d_Fm_gather_31 (by decide) (fun c1 => ?_) (fun c1 => ?_)
              · have h := it_t c1 h
                exact kx25 _ (Option.some.inj h).symm H locs ls hP hD hS (lv_sub hl [0, 1, 2, 3, 4, 5] rfl)
              · have h := it_f c1 h
                refine lv_dload hx hb d_Fm_gather_34 (lv_at hl 5 rfl) ?_
                refine lv_aload_n hx hb d_Fm_gather_36 rfl (lv_at hl 1 rfl) ?_
                refine va_getN (D := D) (ci := 0) (v := .ref q1_a) (C := "ConeForge$Problem") (T := FPb) (N := 5) hx hb hts iPb hown hK hP 7 rfl rfl 2 (by decide) (hNW.use nw13) (fun _ h9 => h9) rfl d_Fm_gather_37 ?_
                refine lv_iload_n hx hb d_Fm_gather_40 rfl (lv_at hl 3 rfl) ?_
                obtain ⟨g2, h⟩ := gd_some h
                refine va_aldg (f := Rq1_a) hx hb hK hP 8 3 rfl rfl (inb_in g2) d_Fm_gather_41 ?_
                refine lv_iload hx hb d_Fm_gather_42 (lv_at hl 6 rfl) ?_
                obtain ⟨g3, h⟩ := gd_some h
                refine va_dald hx hb hK hP (9 + x3.toNatClampNeg) 0 (gk5 (P := fun k => (w_Fm_gather T q0 q0_entries q0_lower q0_diagonal q0_middle Rq0_entries q1 q1_a q1_b q1_c Rq1_a q2 n2 vq0_entries vq1_rows vq1_variables vq1_a vq2)[9 + k]? = some (Rq1_a k, .inl (T 0, 8, .inr (.inr (.inr (.inl (vq1_a k))))))) rfl rfl rfl rfl rfl _ (inb_lt g2)) rfl (inb_in g3) d_Fm_gather_44 ?_
                refine lv_aload_n hx hb d_Fm_gather_45 rfl (lv_at hl 2 rfl) ?_
                refine lv_iload hx hb d_Fm_gather_46 (lv_at hl 6 rfl) ?_
                obtain ⟨g4, h⟩ := gd_some h
                refine va_dald hx hb hK hP 14 0 rfl rfl (inb_in g4) d_Fm_gather_48 ?_
                obtain ⟨g5, h⟩ := gd_some h
                refine lv_dmul hx hb d_Fm_gather_49 (isn_n g5) ?_
                refine lv_aload_n hx hb d_Fm_gather_50 rfl (lv_at hl 1 rfl) ?_
                refine va_getN (D := D) (ci := 0) (v := .ref q1_a) (C := "ConeForge$Problem") (T := FPb) (N := 5) hx hb hts iPb hown hK hP 7 rfl rfl 2 (by decide) (hNW.use nw13) (fun _ h9 => h9) rfl d_Fm_gather_51 ?_
                refine lv_iload hx hb d_Fm_gather_54 (lv_at hl 4 rfl) ?_
                obtain ⟨g6, h⟩ := gd_some h
                refine va_aldg (f := Rq1_a) hx hb hK hP 8 3 rfl rfl (inb_in g6) d_Fm_gather_56 ?_
                refine lv_iload hx hb d_Fm_gather_57 (lv_at hl 6 rfl) ?_
                obtain ⟨g7, h⟩ := gd_some h
                refine va_dald hx hb hK hP (9 + x4.toNatClampNeg) 0 (gk5 (P := fun k => (w_Fm_gather T q0 q0_entries q0_lower q0_diagonal q0_middle Rq0_entries q1 q1_a q1_b q1_c Rq1_a q2 n2 vq0_entries vq1_rows vq1_variables vq1_a vq2)[9 + k]? = some (Rq1_a k, .inl (T 0, 8, .inr (.inr (.inr (.inl (vq1_a k))))))) rfl rfl rfl rfl rfl _ (inb_lt g6)) rfl (inb_in g7) d_Fm_gather_59 ?_
                obtain ⟨g8, h⟩ := gd_some h
                refine lv_dmul hx hb d_Fm_gather_60 (isn_n g8) ?_
                obtain ⟨g9, h⟩ := gd_some h
                refine lv_dadd hx hb d_Fm_gather_61 (isn_n g9) ?_
                refine lv_dstore (lv' := [(5, .double (FP.dadd x5 (FP.dmul (FP.dmul (vq1_a x3.toNatClampNeg x7.toNatClampNeg) (vq2 x7.toNatClampNeg)) (vq1_a x4.toNatClampNeg x7.toNatClampNeg)))), (0, .ref q0), (1, .ref q1), (2, .ref q2), (3, .int x3), (4, .int x4), (7, .int x7)]) hx hb d_Fm_gather_62 hl (by decide) rfl (fun ls hl => ?_)
                refine lv_iinc (v := x7 + 1) (lv' := [(7, .int (x7 + 1)), (5, .double (FP.dadd x5 (FP.dmul (FP.dmul (vq1_a x3.toNatClampNeg x7.toNatClampNeg) (vq2 x7.toNatClampNeg)) (vq1_a x4.toNatClampNeg x7.toNatClampNeg)))), (0, .ref q0), (1, .ref q1), (2, .ref q2), (3, .int x3), (4, .int x4)]) hx hb d_Fm_gather_64 hl (k := 6) rfl rfl (by decide) rfl (fun ls hl => ?_)
                refine lv_goto (tgt := 25) hx hb d_Fm_gather_67 (by decide) ?_
                exact kc25 _ (Option.some.inj h).symm H locs ls hP hD hS (lv_sub hl [2, 3, 4, 5, 6, 1, 0] rfl)
            · intro H locs ls hP hD hS hl
              refine lv_aload_n hx hb d_Fm_gather_70 rfl (lv_at hl 0 rfl) ?_
              refine va_get (D := D) (ci := 4) (v := .ref q0_entries) (C := "ConeForge$FactoredMatrix") (T := FFm) (N := 4) hx hb hts iFm hown hK hP 0 rfl rfl 0 (by decide) (hts _ (bgc bw198)) (fun _ h9 => h9) rfl d_Fm_gather_71 ?_
              refine lv_iload_n hx hb d_Fm_gather_74 rfl (lv_at hl 3 rfl) ?_
              obtain ⟨g10, h⟩ := gd_some h
              refine va_aldg (f := Rq0_entries) hx hb hK hP 1 3 rfl rfl (inb_in g10) d_Fm_gather_75 ?_
              refine lv_iload hx hb d_Fm_gather_76 (lv_at hl 4 rfl) ?_
              refine lv_dload hx hb d_Fm_gather_78 (lv_at hl 5 rfl) ?_
              obtain ⟨g11, h⟩ := gd_some h
              refine va_dast hx hb hK hP hD hS (2 + x3.toNatClampNeg) 0 (gk5 (P := fun k => (w_Fm_gather T q0 q0_entries q0_lower q0_diagonal q0_middle Rq0_entries q1 q1_a q1_b q1_c Rq1_a q2 n2 vq0_entries vq1_rows vq1_variables vq1_a vq2)[2 + k]? = some (Rq0_entries k, .inl (T 0, 5, .inr (.inr (.inr (.inl (vq0_entries k))))))) rfl rfl rfl rfl rfl _ (inb_lt g10)) rfl (inb_in g11) d_Fm_gather_80 (fun H locs hP hD hS => ?_)
              have e12 : ∀ zz : Nat → UInt64, (w_Fm_gather T q0 q0_entries q0_lower q0_diagonal q0_middle Rq0_entries q1 q1_a q1_b q1_c Rq1_a q2 n2 vq0_entries vq1_rows vq1_variables vq1_a vq2).set (2 + x3.toNatClampNeg) (Rq0_entries x3.toNatClampNeg, .inl (T 0, 5, .inr (.inr (.inr (.inl zz))))) = (w_Fm_gather T q0 q0_entries q0_lower q0_diagonal q0_middle Rq0_entries q1 q1_a q1_b q1_c Rq1_a q2 n2 (gset vq0_entries x3.toNatClampNeg zz) vq1_rows vq1_variables vq1_a vq2) := fun zz => gk5 (P := fun k => (w_Fm_gather T q0 q0_entries q0_lower q0_diagonal q0_middle Rq0_entries q1 q1_a q1_b q1_c Rq1_a q2 n2 vq0_entries vq1_rows vq1_variables vq1_a vq2).set (2 + k) (Rq0_entries k, .inl (T 0, 5, .inr (.inr (.inr (.inl zz))))) = (w_Fm_gather T q0 q0_entries q0_lower q0_diagonal q0_middle Rq0_entries q1 q1_a q1_b q1_c Rq1_a q2 n2 (gset vq0_entries k zz) vq1_rows vq1_variables vq1_a vq2)) rfl rfl rfl rfl rfl _ (inb_lt g10)
              have hP : va_P D CL (w_Fm_gather T q0 q0_entries q0_lower q0_diagonal q0_middle Rq0_entries q1 q1_a q1_b q1_c Rq1_a q2 n2 (gset vq0_entries x3.toNatClampNeg (vf_upd (vq0_entries x3.toNatClampNeg) x4.toNatClampNeg ul25)) vq1_rows vq1_variables vq1_a vq2) H := (e12 _) ▸ hP
              have hD : va_D A (w_Fm_gather T q0 q0_entries q0_lower q0_diagonal q0_middle Rq0_entries q1 q1_a q1_b q1_c Rq1_a q2 n2 (gset vq0_entries x3.toNatClampNeg (vf_upd (vq0_entries x3.toNatClampNeg) x4.toNatClampNeg ul25)) vq1_rows vq1_variables vq1_a vq2) := (e12 _) ▸ hD
              refine lv_iinc (v := x4 + 1) (lv' := [(4, .int (x4 + 1)), (0, .ref q0), (1, .ref q1), (2, .ref q2), (3, .int x3), (5, .double ul25)]) hx hb d_Fm_gather_81 hl (k := 4) rfl rfl (by decide) rfl (fun ls hl => ?_)
              refine lv_goto (tgt := 13) hx hb d_Fm_gather_84 (by decide) ?_
              exact kc13 _ (Option.some.inj h).symm H locs ls hP hD hS (lv_sub hl [1, 2, 3, 4, 0] rfl)
          unfold s_Fm_gather_B13 at h
          refine lv_iload hx hb d_Fm_gather_13 (lv_at hl 4 rfl) ?_
          refine lv_iload_n hx hb d_Fm_gather_15 rfl (lv_at hl 3 rfl) ?_
          refine lv_icmp_gt (tgt := 87) hx hb d_Fm_gather_16 (by decide) (fun c13 => ?_) (fun c13 => ?_)
          · have h := it_t c13 h
            exact kx13 _ (Option.some.inj h).symm H locs ls hP hD hS (lv_sub hl [0, 1, 2, 3] rfl)
          · have h := it_f c13 h
            refine lv_dconst0 hx hb d_Fm_gather_19 ?_
            refine lv_dstore (lv' := [(5, .double FP.dconst0), (0, .ref q0), (1, .ref q1), (2, .ref q2), (3, .int x3), (4, .int x4)]) hx hb d_Fm_gather_20 hl (by decide) rfl (fun ls hl => ?_)
            refine lv_iconst (v := 0) hx hb d_Fm_gather_22 (by decide) ?_
            refine lv_istore (lv' := [(7, .int 0), (5, .double FP.dconst0), (0, .ref q0), (1, .ref q1), (2, .ref q2), (3, .int x3), (4, .int x4)]) hx hb d_Fm_gather_23 hl (by decide) rfl (fun ls hl => ?_)
            exact L25 vq0_entries x4 FP.dconst0 0 H locs ls hP hD hS (lv_sub hl [2, 3, 4, 5, 6, 1, 0] rfl) h
        · intro H locs ls hP hD hS hl
          refine lv_iinc (v := x3 + 1) (lv' := [(3, .int (x3 + 1)), (0, .ref q0), (1, .ref q1), (2, .ref q2)]) hx hb d_Fm_gather_87 hl (k := 3) rfl rfl (by decide) rfl (fun ls hl => ?_)
          refine lv_goto (tgt := 2) hx hb d_Fm_gather_90 (by decide) ?_
          exact kc2 _ (Option.some.inj h).symm H locs ls hP hD hS (lv_sub hl [1, 2, 3, 0] rfl)
      unfold s_Fm_gather_B2 at h
      refine lv_iload_n hx hb d_Fm_gather_2 rfl (lv_at hl 3 rfl) ?_
      refine lv_aload_n hx hb d_Fm_gather_3 rfl (lv_at hl 1 rfl) ?_
      refine va_getN (D := D) (ci := 0) (v := .int vq1_rows) (C := "ConeForge$Problem") (T := FPb) (N := 5) hx hb hts iPb hown hK hP 7 rfl rfl 0 (by decide) (hNW.use nw1) (fun _ h9 => h9) rfl d_Fm_gather_4 ?_
      refine lv_icmp_ge (tgt := 93) hx hb d_Fm_gather_7 (by decide) (fun c14 => ?_) (fun c14 => ?_)
      · have h := it_t c14 h
        exact kx2 _ (Option.some.inj h).symm H locs ls hP hD hS (lv_sub hl [] rfl)
      · have h := it_f c14 h
        refine lv_iconst (v := 0) hx hb d_Fm_gather_10 (by decide) ?_
        refine lv_istore (lv' := [(4, .int 0), (0, .ref q0), (1, .ref q1), (2, .ref q2), (3, .int x3)]) hx hb d_Fm_gather_11 hl (by decide) rfl (fun ls hl => ?_)
        exact L13 vq0_entries x3 0 H locs ls hP hD hS (lv_sub hl [1, 2, 3, 4, 0] rfl) h
    · intro H locs ls hP hD hS hl
      exact rtV hx hb hr hlocks hQ (Option.some.inj h) hP hS d_Fm_gather_93 rfl
  unfold s_Fm_gather at h
  refine lv_iconst (v := 0) hx hb d_Fm_gather_0 (by decide) ?_
  refine lv_istore_n (lv' := [(3, .int 0), (0, .ref q0), (1, .ref q1), (2, .ref q2)]) hx hb d_Fm_gather_1 rfl hl (by decide) rfl (fun ls hl => ?_)
  exact L2 vq0_entries 0 H locs ls hP hD hS (lv_sub hl [1, 2, 3, 0] rfl) h
theorem d_Fm_reduced_0 : decode prog_2_method_4_code 0 = .ok (.aload_n 0, 1) := by decide +kernel
theorem d_Fm_reduced_1 : decode prog_2_method_4_code 1 = .ok (.getfield 11, 3) := by decide +kernel
theorem d_Fm_reduced_4 : decode prog_2_method_4_code 4 = .ok (.iload_n 1, 1) := by decide +kernel
theorem d_Fm_reduced_5 : decode prog_2_method_4_code 5 = .ok (.aaload, 1) := by decide +kernel
theorem d_Fm_reduced_6 : decode prog_2_method_4_code 6 = .ok (.iload_n 2, 1) := by decide +kernel
theorem d_Fm_reduced_7 : decode prog_2_method_4_code 7 = .ok (.daload, 1) := by decide +kernel
theorem d_Fm_reduced_8 : decode prog_2_method_4_code 8 = .ok (.dstore_n 3, 1) := by decide +kernel
theorem d_Fm_reduced_9 : decode prog_2_method_4_code 9 = .ok (.iconst 0, 1) := by decide +kernel
theorem d_Fm_reduced_10 : decode prog_2_method_4_code 10 = .ok (.istore 5, 2) := by decide +kernel
theorem d_Fm_reduced_12 : decode prog_2_method_4_code 12 = .ok (.iload 5, 2) := by decide +kernel
theorem d_Fm_reduced_14 : decode prog_2_method_4_code 14 = .ok (.iload_n 2, 1) := by decide +kernel
theorem d_Fm_reduced_15 : decode prog_2_method_4_code 15 = .ok (.if_icmp .ge 39, 3) := by decide +kernel
theorem d_Fm_reduced_18 : decode prog_2_method_4_code 18 = .ok (.dload_n 3, 1) := by decide +kernel
theorem d_Fm_reduced_19 : decode prog_2_method_4_code 19 = .ok (.aload_n 0, 1) := by decide +kernel
theorem d_Fm_reduced_20 : decode prog_2_method_4_code 20 = .ok (.getfield 16, 3) := by decide +kernel
theorem d_Fm_reduced_23 : decode prog_2_method_4_code 23 = .ok (.iload_n 1, 1) := by decide +kernel
theorem d_Fm_reduced_24 : decode prog_2_method_4_code 24 = .ok (.aaload, 1) := by decide +kernel
theorem d_Fm_reduced_25 : decode prog_2_method_4_code 25 = .ok (.iload 5, 2) := by decide +kernel
theorem d_Fm_reduced_27 : decode prog_2_method_4_code 27 = .ok (.daload, 1) := by decide +kernel
theorem d_Fm_reduced_28 : decode prog_2_method_4_code 28 = .ok (.aload_n 0, 1) := by decide +kernel
theorem d_Fm_reduced_29 : decode prog_2_method_4_code 29 = .ok (.getfield 19, 3) := by decide +kernel
theorem d_Fm_reduced_32 : decode prog_2_method_4_code 32 = .ok (.iload 5, 2) := by decide +kernel
theorem d_Fm_reduced_34 : decode prog_2_method_4_code 34 = .ok (.daload, 1) := by decide +kernel
theorem d_Fm_reduced_35 : decode prog_2_method_4_code 35 = .ok (.dmul, 1) := by decide +kernel
theorem d_Fm_reduced_36 : decode prog_2_method_4_code 36 = .ok (.aload_n 0, 1) := by decide +kernel
theorem d_Fm_reduced_37 : decode prog_2_method_4_code 37 = .ok (.getfield 16, 3) := by decide +kernel
theorem d_Fm_reduced_40 : decode prog_2_method_4_code 40 = .ok (.iload_n 2, 1) := by decide +kernel
theorem d_Fm_reduced_41 : decode prog_2_method_4_code 41 = .ok (.aaload, 1) := by decide +kernel
theorem d_Fm_reduced_42 : decode prog_2_method_4_code 42 = .ok (.iload 5, 2) := by decide +kernel
theorem d_Fm_reduced_44 : decode prog_2_method_4_code 44 = .ok (.daload, 1) := by decide +kernel
theorem d_Fm_reduced_45 : decode prog_2_method_4_code 45 = .ok (.dmul, 1) := by decide +kernel
theorem d_Fm_reduced_46 : decode prog_2_method_4_code 46 = .ok (.dsub, 1) := by decide +kernel
theorem d_Fm_reduced_47 : decode prog_2_method_4_code 47 = .ok (.dstore_n 3, 1) := by decide +kernel
theorem d_Fm_reduced_48 : decode prog_2_method_4_code 48 = .ok (.iinc 5 1, 3) := by decide +kernel
theorem d_Fm_reduced_51 : decode prog_2_method_4_code 51 = .ok (.goto (-39), 3) := by decide +kernel
theorem d_Fm_reduced_54 : decode prog_2_method_4_code 54 = .ok (.dload_n 3, 1) := by decide +kernel
theorem d_Fm_reduced_55 : decode prog_2_method_4_code 55 = .ok (.dreturn, 1) := by decide +kernel
abbrev w_Fm_reduced (T : Nat → ClassId) (q0 : Nat) (q0_entries : Nat) (q0_lower : Nat) (q0_diagonal : Nat) (q0_middle : Nat) (Rq0_entries : Nat → Nat) (Rq0_lower : Nat → Nat) (vq0_entries : Nat → Nat → UInt64) (vq0_lower : Nat → Nat → UInt64) (vq0_diagonal : Nat → UInt64) : va_W := [(q0, .inr (4, [.ref q0_entries, .ref q0_lower, .ref q0_diagonal, .ref q0_middle])), (q0_entries, .inl (T 3, 5, .inr (.inr (.inr (.inr (fun i => some (Rq0_entries i))))))), (Rq0_entries 0, .inl (T 0, 5, .inr (.inr (.inr (.inl (vq0_entries 0)))))), (Rq0_entries 1, .inl (T 0, 5, .inr (.inr (.inr (.inl (vq0_entries 1)))))), (Rq0_entries 2, .inl (T 0, 5, .inr (.inr (.inr (.inl (vq0_entries 2)))))), (Rq0_entries 3, .inl (T 0, 5, .inr (.inr (.inr (.inl (vq0_entries 3)))))), (Rq0_entries 4, .inl (T 0, 5, .inr (.inr (.inr (.inl (vq0_entries 4)))))), (q0_lower, .inl (T 3, 5, .inr (.inr (.inr (.inr (fun i => some (Rq0_lower i))))))), (Rq0_lower 0, .inl (T 0, 5, .inr (.inr (.inr (.inl (vq0_lower 0)))))), (Rq0_lower 1, .inl (T 0, 5, .inr (.inr (.inr (.inl (vq0_lower 1)))))), (Rq0_lower 2, .inl (T 0, 5, .inr (.inr (.inr (.inl (vq0_lower 2)))))), (Rq0_lower 3, .inl (T 0, 5, .inr (.inr (.inr (.inl (vq0_lower 3)))))), (Rq0_lower 4, .inl (T 0, 5, .inr (.inr (.inr (.inl (vq0_lower 4)))))), (q0_diagonal, .inl (T 0, 5, .inr (.inr (.inr (.inl vq0_diagonal)))))]
def s_Fm_reduced_B12 (vq0_entries : Nat → Nat → UInt64) (vq0_lower : Nat → Nat → UInt64) (vq0_diagonal : Nat → UInt64) (x1 : Int32) (x2 : Int32) (x3 : UInt64) (x5 : Int32) : Option ((UInt64 × Int32) ⊕ (UInt64)) :=
  if x2 ≤ x5 then (some (.inr x3)) else (gd (inb x1 5) <| gd (inb x5 5) <| gd (inb x5 5) <| gd (isn (FP.dmul (vq0_lower x1.toNatClampNeg x5.toNatClampNeg) (vq0_diagonal x5.toNatClampNeg))) <| gd (inb x2 5) <| gd (inb x5 5) <| gd (isn (FP.dmul (FP.dmul (vq0_lower x1.toNatClampNeg x5.toNatClampNeg) (vq0_diagonal x5.toNatClampNeg)) (vq0_lower x2.toNatClampNeg x5.toNatClampNeg))) <| gd (isn (FP.dsub x3 (FP.dmul (FP.dmul (vq0_lower x1.toNatClampNeg x5.toNatClampNeg) (vq0_diagonal x5.toNatClampNeg)) (vq0_lower x2.toNatClampNeg x5.toNatClampNeg)))) <| some (.inl (FP.dsub x3 (FP.dmul (FP.dmul (vq0_lower x1.toNatClampNeg x5.toNatClampNeg) (vq0_diagonal x5.toNatClampNeg)) (vq0_lower x2.toNatClampNeg x5.toNatClampNeg)), x5 + 1)))
def s_Fm_reduced_L12 (vq0_entries : Nat → Nat → UInt64) (vq0_lower : Nat → Nat → UInt64) (vq0_diagonal : Nat → UInt64) (x1 : Int32) (x2 : Int32) (x3 : UInt64) (x5 : Int32) : Option (UInt64) :=
  (loopO (fun (st : UInt64 × Int32) => s_Fm_reduced_B12 vq0_entries vq0_lower vq0_diagonal x1 x2 st.1 st.2) 2000 (x3, x5)).bind fun ul12 => some ul12
def s_Fm_reduced (vq0_entries : Nat → Nat → UInt64) (vq0_lower : Nat → Nat → UInt64) (vq0_diagonal : Nat → UInt64) (x1 : Int32) (x2 : Int32) : Option (UInt64) :=
  gd (inb x1 5) <| gd (inb x2 5) <| s_Fm_reduced_L12 vq0_entries vq0_lower vq0_diagonal x1 x2 (vq0_entries x1.toNatClampNeg x2.toNatClampNeg) 0
set_option maxHeartbeats 40000000 in
set_option maxRecDepth 100000 in
theorem c_Fm_reduced (l : Launch) (D : va_G) (T : Nat → ClassId) (q0 : Nat) (q0_entries : Nat) (q0_lower : Nat) (q0_diagonal : Nat) (q0_middle : Nat) (Rq0_entries : Nat → Nat) (Rq0_lower : Nat → Nat) (vq0_entries : Nat → Nat → UInt64) (vq0_lower : Nat → Nat → UInt64) (vq0_diagonal : Nat → UInt64) (x1 : Int32) (x2 : Int32) (rm : UInt64) (h : s_Fm_reduced vq0_entries vq0_lower vq0_diagonal x1 x2 = some rm) : CtD l y_Fm_reduced (Cond.code y_Fm_reduced prog_2_method_4_code 6 (some .double) :: BIG) 0 0 D T [.ref q0, .int x1, .int x2] (w_Fm_reduced T q0 q0_entries q0_lower q0_diagonal q0_middle Rq0_entries Rq0_lower vq0_entries vq0_lower vq0_diagonal) (fun r => r) (fun r => (w_Fm_reduced T q0 q0_entries q0_lower q0_diagonal q0_middle Rq0_entries Rq0_lower vq0_entries vq0_lower vq0_diagonal)) rm := by
  refine cf_entry (y := y_Fm_reduced) (cc := prog_2_method_4_code) (nL := 6) (ret := (some .double)) (fr := 0) (lo := 0) (T := T) (av := [.ref q0, .int x1, .int x2]) (w := (w_Fm_reduced T q0 q0_entries q0_lower q0_diagonal q0_middle Rq0_entries Rq0_lower vq0_entries vq0_lower vq0_diagonal)) (Qc := cfQd D (fun r => r) (fun r => (w_Fm_reduced T q0 q0_entries q0_lower q0_diagonal q0_middle Rq0_entries Rq0_lower vq0_entries vq0_lower vq0_diagonal)) rm) (by decide) rfl (Nat.le_of_ble_eq_true rfl) ?_
  intro p e s m args below meth c A Q H locs ls hx hb hr hlocks hml hown hts hNW hK hA hQ hP hD hS hl
  have hown : s.vm.findClass "ConeForge$FactoredMatrix" = some m.cls := hown
  have hl : lv_has ls 6 [(0, .ref q0), (1, .int x1), (2, .int x2)] := hl
  have L12 : ∀ (x1 : Int32) (x2 : Int32) (x3 : UInt64) (x5 : Int32), ∀ (H : Heap) (locs : List Loc) (ls : Array Slot), va_P D CL (w_Fm_reduced T q0 q0_entries q0_lower q0_diagonal q0_middle Rq0_entries Rq0_lower vq0_entries vq0_lower vq0_diagonal) H → va_D A (w_Fm_reduced T q0 q0_entries q0_lower q0_diagonal q0_middle Rq0_entries Rq0_lower vq0_entries vq0_lower vq0_diagonal) → va_S A s.heap H locs → lv_has ls 6 [(0, .ref q0), (1, .int x1), (2, .int x2), (3, .double x3), (5, .int x5)] → s_Fm_reduced_L12 vq0_entries vq0_lower vq0_diagonal x1 x2 x3 x5 = some rm → W p l e (rmk 0 0) s m args below meth c H locs 0 0 Q (F0 m 12 ls []) := by
    intro x1 x2 x3 x5 H locs ls hP hD hS hl h
    unfold s_Fm_reduced_L12 at h
    obtain ⟨ul12, hul12, h⟩ := bi_some h
    refine loopO_W (Wh := fun (st : UInt64 × Int32) => ∀ (H : Heap) (locs : List Loc) (ls : Array Slot), va_P D CL (w_Fm_reduced T q0 q0_entries q0_lower q0_diagonal q0_middle Rq0_entries Rq0_lower vq0_entries vq0_lower vq0_diagonal) H → va_D A (w_Fm_reduced T q0 q0_entries q0_lower q0_diagonal q0_middle Rq0_entries Rq0_lower vq0_entries vq0_lower vq0_diagonal) → va_S A s.heap H locs → lv_has ls 6 [(0, .ref q0), (1, .int x1), (2, .int x2), (3, .double st.1), (5, .int st.2)] → W p l e (rmk 0 0) s m args below meth c H locs 0 0 Q (F0 m 12 ls [])) (Wx := fun (e1 : UInt64) => ∀ (H : Heap) (locs : List Loc) (ls : Array Slot), va_P D CL (w_Fm_reduced T q0 q0_entries q0_lower q0_diagonal q0_middle Rq0_entries Rq0_lower vq0_entries vq0_lower vq0_diagonal) H → va_D A (w_Fm_reduced T q0 q0_entries q0_lower q0_diagonal q0_middle Rq0_entries Rq0_lower vq0_entries vq0_lower vq0_diagonal) → va_S A s.heap H locs → lv_has ls 6 [(3, .double e1)] → W p l e (rmk 0 0) s m args below meth c H locs 0 0 Q (F0 m 54 ls [])) ?_ 2000 _ ul12 hul12 ?_ H locs ls hP hD hS hl
    · intro st rb12 h kc12 kx12 H locs ls hP hD hS hl
      obtain ⟨x3, x5⟩ := st
      have h : s_Fm_reduced_B12 vq0_entries vq0_lower vq0_diagonal x1 x2 x3 x5 = some rb12 := h
      unfold s_Fm_reduced_B12 at h
      refine lv_iload hx hb d_Fm_reduced_12 (lv_at hl 4 rfl) ?_
      refine lv_iload_n hx hb d_Fm_reduced_14 rfl (lv_at hl 2 rfl) ?_
      refine lv_icmp_ge (tgt := 54) hx hb d_Fm_reduced_15 (by decide) (fun c1 => ?_) (fun c1 => ?_)
      · have h := it_t c1 h
        exact kx12 _ (Option.some.inj h).symm H locs ls hP hD hS (lv_sub hl [3] rfl)
      · have h := it_f c1 h
        refine lv_dload_n hx hb d_Fm_reduced_18 rfl (lv_at hl 3 rfl) ?_
        refine lv_aload_n hx hb d_Fm_reduced_19 rfl (lv_at hl 0 rfl) ?_
        refine va_get (D := D) (ci := 4) (v := .ref q0_lower) (C := "ConeForge$FactoredMatrix") (T := FFm) (N := 4) hx hb hts iFm hown hK hP 0 rfl rfl 1 (by decide) (hts _ (bgc bw199)) (fun _ h9 => h9) rfl d_Fm_reduced_20 ?_
        refine lv_iload_n hx hb d_Fm_reduced_23 rfl (lv_at hl 1 rfl) ?_
        obtain ⟨g2, h⟩ := gd_some h
        refine va_aldg (f := Rq0_lower) hx hb hK hP 7 3 rfl rfl (inb_in g2) d_Fm_reduced_24 ?_
        refine lv_iload hx hb d_Fm_reduced_25 (lv_at hl 4 rfl) ?_
        obtain ⟨g3, h⟩ := gd_some h
        refine va_dald hx hb hK hP (8 + x1.toNatClampNeg) 0 (gk5 (P := fun k => (w_Fm_reduced T q0 q0_entries q0_lower q0_diagonal q0_middle Rq0_entries Rq0_lower vq0_entries vq0_lower vq0_diagonal)[8 + k]? = some (Rq0_lower k, .inl (T 0, 5, .inr (.inr (.inr (.inl (vq0_lower k))))))) rfl rfl rfl rfl rfl _ (inb_lt g2)) rfl (inb_in g3) d_Fm_reduced_27 ?_
        refine lv_aload_n hx hb d_Fm_reduced_28 rfl (lv_at hl 0 rfl) ?_
        refine va_get (D := D) (ci := 4) (v := .ref q0_diagonal) (C := "ConeForge$FactoredMatrix") (T := FFm) (N := 4) hx hb hts iFm hown hK hP 0 rfl rfl 2 (by decide) (hts _ (bgc bw200)) (fun _ h9 => h9) rfl d_Fm_reduced_29 ?_
        refine lv_iload hx hb d_Fm_reduced_32 (lv_at hl 4 rfl) ?_
        obtain ⟨g4, h⟩ := gd_some h
        refine va_dald hx hb hK hP 13 0 rfl rfl (inb_in g4) d_Fm_reduced_34 ?_
        obtain ⟨g5, h⟩ := gd_some h
        refine lv_dmul hx hb d_Fm_reduced_35 (isn_n g5) ?_
        refine lv_aload_n hx hb d_Fm_reduced_36 rfl (lv_at hl 0 rfl) ?_
        refine va_get (D := D) (ci := 4) (v := .ref q0_lower) (C := "ConeForge$FactoredMatrix") (T := FFm) (N := 4) hx hb hts iFm hown hK hP 0 rfl rfl 1 (by decide) (hts _ (bgc bw199)) (fun _ h9 => h9) rfl d_Fm_reduced_37 ?_
        refine lv_iload_n hx hb d_Fm_reduced_40 rfl (lv_at hl 2 rfl) ?_
        obtain ⟨g6, h⟩ := gd_some h
        refine va_aldg (f := Rq0_lower) hx hb hK hP 7 3 rfl rfl (inb_in g6) d_Fm_reduced_41 ?_
        refine lv_iload hx hb d_Fm_reduced_42 (lv_at hl 4 rfl) ?_
        obtain ⟨g7, h⟩ := gd_some h
        refine va_dald hx hb hK hP (8 + x2.toNatClampNeg) 0 (gk5 (P := fun k => (w_Fm_reduced T q0 q0_entries q0_lower q0_diagonal q0_middle Rq0_entries Rq0_lower vq0_entries vq0_lower vq0_diagonal)[8 + k]? = some (Rq0_lower k, .inl (T 0, 5, .inr (.inr (.inr (.inl (vq0_lower k))))))) rfl rfl rfl rfl rfl _ (inb_lt g6)) rfl (inb_in g7) d_Fm_reduced_44 ?_
        obtain ⟨g8, h⟩ := gd_some h
        refine lv_dmul hx hb d_Fm_reduced_45 (isn_n g8) ?_
        obtain ⟨g9, h⟩ := gd_some h
        refine lv_dsub hx hb d_Fm_reduced_46 (isn_n g9) ?_
        refine lv_dstore_n (lv' := [(3, .double (FP.dsub x3 (FP.dmul (FP.dmul (vq0_lower x1.toNatClampNeg x5.toNatClampNeg) (vq0_diagonal x5.toNatClampNeg)) (vq0_lower x2.toNatClampNeg x5.toNatClampNeg)))), (0, .ref q0), (1, .int x1), (2, .int x2), (5, .int x5)]) hx hb d_Fm_reduced_47 rfl hl (by decide) rfl (fun ls hl => ?_)
        refine lv_iinc (v := x5 + 1) (lv' := [(5, .int (x5 + 1)), (3, .double (FP.dsub x3 (FP.dmul (FP.dmul (vq0_lower x1.toNatClampNeg x5.toNatClampNeg) (vq0_diagonal x5.toNatClampNeg)) (vq0_lower x2.toNatClampNeg x5.toNatClampNeg)))), (0, .ref q0), (1, .int x1), (2, .int x2)]) hx hb d_Fm_reduced_48 hl (k := 4) rfl rfl (by decide) rfl (fun ls hl => ?_)
        refine lv_goto (tgt := 12) hx hb d_Fm_reduced_51 (by decide) ?_
        exact kc12 _ (Option.some.inj h).symm H locs ls hP hD hS (lv_sub hl [2, 3, 4, 1, 0] rfl)
    · intro H locs ls hP hD hS hl
      refine lv_dload_n hx hb d_Fm_reduced_54 rfl (lv_at hl 0 rfl) ?_
      exact rtD hx hb hr hlocks hQ (Option.some.inj h) hP hS d_Fm_reduced_55 rfl rfl
  unfold s_Fm_reduced at h
  refine lv_aload_n hx hb d_Fm_reduced_0 rfl (lv_at hl 0 rfl) ?_
  refine va_get (D := D) (ci := 4) (v := .ref q0_entries) (C := "ConeForge$FactoredMatrix") (T := FFm) (N := 4) hx hb hts iFm hown hK hP 0 rfl rfl 0 (by decide) (hts _ (bgc bw198)) (fun _ h9 => h9) rfl d_Fm_reduced_1 ?_
  refine lv_iload_n hx hb d_Fm_reduced_4 rfl (lv_at hl 1 rfl) ?_
  obtain ⟨g10, h⟩ := gd_some h
  refine va_aldg (f := Rq0_entries) hx hb hK hP 1 3 rfl rfl (inb_in g10) d_Fm_reduced_5 ?_
  refine lv_iload_n hx hb d_Fm_reduced_6 rfl (lv_at hl 2 rfl) ?_
  obtain ⟨g11, h⟩ := gd_some h
  refine va_dald hx hb hK hP (2 + x1.toNatClampNeg) 0 (gk5 (P := fun k => (w_Fm_reduced T q0 q0_entries q0_lower q0_diagonal q0_middle Rq0_entries Rq0_lower vq0_entries vq0_lower vq0_diagonal)[2 + k]? = some (Rq0_entries k, .inl (T 0, 5, .inr (.inr (.inr (.inl (vq0_entries k))))))) rfl rfl rfl rfl rfl _ (inb_lt g10)) rfl (inb_in g11) d_Fm_reduced_7 ?_
  refine lv_dstore_n (lv' := [(3, .double (vq0_entries x1.toNatClampNeg x2.toNatClampNeg)), (0, .ref q0), (1, .int x1), (2, .int x2)]) hx hb d_Fm_reduced_8 rfl hl (by decide) rfl (fun ls hl => ?_)
  refine lv_iconst (v := 0) hx hb d_Fm_reduced_9 (by decide) ?_
  refine lv_istore (lv' := [(5, .int 0), (3, .double (vq0_entries x1.toNatClampNeg x2.toNatClampNeg)), (0, .ref q0), (1, .int x1), (2, .int x2)]) hx hb d_Fm_reduced_10 hl (by decide) rfl (fun ls hl => ?_)
  exact L12 x1 x2 (vq0_entries x1.toNatClampNeg x2.toNatClampNeg) 0 H locs ls hP hD hS (lv_sub hl [2, 3, 4, 1, 0] rfl) h
theorem d_Fm_factor_0 : decode prog_2_method_3_code 0 = .ok (.iconst 0, 1) := by decide +kernel
theorem d_Fm_factor_1 : decode prog_2_method_3_code 1 = .ok (.istore_n 2, 1) := by decide +kernel
theorem d_Fm_factor_2 : decode prog_2_method_3_code 2 = .ok (.iload_n 2, 1) := by decide +kernel
theorem d_Fm_factor_3 : decode prog_2_method_3_code 3 = .ok (.iload_n 1, 1) := by decide +kernel
theorem d_Fm_factor_4 : decode prog_2_method_3_code 4 = .ok (.if_icmp .ge 70, 3) := by decide +kernel
theorem d_Fm_factor_7 : decode prog_2_method_3_code 7 = .ok (.iconst 0, 1) := by decide +kernel
theorem d_Fm_factor_8 : decode prog_2_method_3_code 8 = .ok (.istore_n 3, 1) := by decide +kernel
theorem d_Fm_factor_9 : decode prog_2_method_3_code 9 = .ok (.iload_n 3, 1) := by decide +kernel
theorem d_Fm_factor_10 : decode prog_2_method_3_code 10 = .ok (.iload_n 2, 1) := by decide +kernel
theorem d_Fm_factor_11 : decode prog_2_method_3_code 11 = .ok (.if_icmp .ge 30, 3) := by decide +kernel
theorem d_Fm_factor_14 : decode prog_2_method_3_code 14 = .ok (.aload_n 0, 1) := by decide +kernel
theorem d_Fm_factor_15 : decode prog_2_method_3_code 15 = .ok (.getfield 16, 3) := by decide +kernel
theorem d_Fm_factor_18 : decode prog_2_method_3_code 18 = .ok (.iload_n 2, 1) := by decide +kernel
theorem d_Fm_factor_19 : decode prog_2_method_3_code 19 = .ok (.aaload, 1) := by decide +kernel
theorem d_Fm_factor_20 : decode prog_2_method_3_code 20 = .ok (.iload_n 3, 1) := by decide +kernel
theorem d_Fm_factor_21 : decode prog_2_method_3_code 21 = .ok (.aload_n 0, 1) := by decide +kernel
theorem d_Fm_factor_22 : decode prog_2_method_3_code 22 = .ok (.iload_n 2, 1) := by decide +kernel
theorem d_Fm_factor_23 : decode prog_2_method_3_code 23 = .ok (.iload_n 3, 1) := by decide +kernel
theorem d_Fm_factor_24 : decode prog_2_method_3_code 24 = .ok (.invokevirtual 38, 3) := by decide +kernel
theorem d_Fm_factor_27 : decode prog_2_method_3_code 27 = .ok (.aload_n 0, 1) := by decide +kernel
theorem d_Fm_factor_28 : decode prog_2_method_3_code 28 = .ok (.getfield 19, 3) := by decide +kernel
theorem d_Fm_factor_31 : decode prog_2_method_3_code 31 = .ok (.iload_n 3, 1) := by decide +kernel
theorem d_Fm_factor_32 : decode prog_2_method_3_code 32 = .ok (.daload, 1) := by decide +kernel
theorem d_Fm_factor_33 : decode prog_2_method_3_code 33 = .ok (.ddiv, 1) := by decide +kernel
theorem d_Fm_factor_34 : decode prog_2_method_3_code 34 = .ok (.dastore, 1) := by decide +kernel
theorem d_Fm_factor_35 : decode prog_2_method_3_code 35 = .ok (.iinc 3 1, 3) := by decide +kernel
theorem d_Fm_factor_38 : decode prog_2_method_3_code 38 = .ok (.goto (-29), 3) := by decide +kernel
theorem d_Fm_factor_41 : decode prog_2_method_3_code 41 = .ok (.aload_n 0, 1) := by decide +kernel
theorem d_Fm_factor_42 : decode prog_2_method_3_code 42 = .ok (.getfield 19, 3) := by decide +kernel
theorem d_Fm_factor_45 : decode prog_2_method_3_code 45 = .ok (.iload_n 2, 1) := by decide +kernel
theorem d_Fm_factor_46 : decode prog_2_method_3_code 46 = .ok (.aload_n 0, 1) := by decide +kernel
theorem d_Fm_factor_47 : decode prog_2_method_3_code 47 = .ok (.iload_n 2, 1) := by decide +kernel
theorem d_Fm_factor_48 : decode prog_2_method_3_code 48 = .ok (.iload_n 2, 1) := by decide +kernel
theorem d_Fm_factor_49 : decode prog_2_method_3_code 49 = .ok (.invokevirtual 38, 3) := by decide +kernel
theorem d_Fm_factor_52 : decode prog_2_method_3_code 52 = .ok (.dastore, 1) := by decide +kernel
theorem d_Fm_factor_53 : decode prog_2_method_3_code 53 = .ok (.aload_n 0, 1) := by decide +kernel
theorem d_Fm_factor_54 : decode prog_2_method_3_code 54 = .ok (.getfield 19, 3) := by decide +kernel
theorem d_Fm_factor_57 : decode prog_2_method_3_code 57 = .ok (.iload_n 2, 1) := by decide +kernel
theorem d_Fm_factor_58 : decode prog_2_method_3_code 58 = .ok (.daload, 1) := by decide +kernel
theorem d_Fm_factor_59 : decode prog_2_method_3_code 59 = .ok (.ldc2_w 42, 3) := by decide +kernel
theorem d_Fm_factor_62 : decode prog_2_method_3_code 62 = .ok (.dcmp .g, 1) := by decide +kernel
theorem d_Fm_factor_63 : decode prog_2_method_3_code 63 = .ok (.ifCond .gt 5, 3) := by decide +kernel
theorem d_Fm_factor_66 : decode prog_2_method_3_code 66 = .ok (.iconst 0, 1) := by decide +kernel
theorem d_Fm_factor_67 : decode prog_2_method_3_code 67 = .ok (.ireturn, 1) := by decide +kernel
theorem d_Fm_factor_68 : decode prog_2_method_3_code 68 = .ok (.iinc 2 1, 3) := by decide +kernel
theorem d_Fm_factor_71 : decode prog_2_method_3_code 71 = .ok (.goto (-69), 3) := by decide +kernel
theorem d_Fm_factor_74 : decode prog_2_method_3_code 74 = .ok (.iconst 1, 1) := by decide +kernel
theorem d_Fm_factor_75 : decode prog_2_method_3_code 75 = .ok (.ireturn, 1) := by decide +kernel
abbrev w_Fm_factor (T : Nat → ClassId) (q0 : Nat) (q0_entries : Nat) (q0_lower : Nat) (q0_diagonal : Nat) (q0_middle : Nat) (Rq0_entries : Nat → Nat) (Rq0_lower : Nat → Nat) (vq0_entries : Nat → Nat → UInt64) (vq0_lower : Nat → Nat → UInt64) (vq0_diagonal : Nat → UInt64) : va_W := [(q0, .inr (4, [.ref q0_entries, .ref q0_lower, .ref q0_diagonal, .ref q0_middle])), (q0_entries, .inl (T 3, 5, .inr (.inr (.inr (.inr (fun i => some (Rq0_entries i))))))), (Rq0_entries 0, .inl (T 0, 5, .inr (.inr (.inr (.inl (vq0_entries 0)))))), (Rq0_entries 1, .inl (T 0, 5, .inr (.inr (.inr (.inl (vq0_entries 1)))))), (Rq0_entries 2, .inl (T 0, 5, .inr (.inr (.inr (.inl (vq0_entries 2)))))), (Rq0_entries 3, .inl (T 0, 5, .inr (.inr (.inr (.inl (vq0_entries 3)))))), (Rq0_entries 4, .inl (T 0, 5, .inr (.inr (.inr (.inl (vq0_entries 4)))))), (q0_lower, .inl (T 3, 5, .inr (.inr (.inr (.inr (fun i => some (Rq0_lower i))))))), (Rq0_lower 0, .inl (T 0, 5, .inr (.inr (.inr (.inl (vq0_lower 0)))))), (Rq0_lower 1, .inl (T 0, 5, .inr (.inr (.inr (.inl (vq0_lower 1)))))), (Rq0_lower 2, .inl (T 0, 5, .inr (.inr (.inr (.inl (vq0_lower 2)))))), (Rq0_lower 3, .inl (T 0, 5, .inr (.inr (.inr (.inl (vq0_lower 3)))))), (Rq0_lower 4, .inl (T 0, 5, .inr (.inr (.inr (.inl (vq0_lower 4)))))), (q0_diagonal, .inl (T 0, 5, .inr (.inr (.inr (.inl vq0_diagonal)))))]
def s_Fm_factor_B9 (vq0_entries : Nat → Nat → UInt64) (vq0_diagonal : Nat → UInt64) (x1 : Int32) (x2 : Int32) (vq0_lower : Nat → Nat → UInt64) (x3 : Int32) : Option (((Nat → Nat → UInt64) × Int32) ⊕ ((Nat → Nat → UInt64))) :=
  if x2 ≤ x3 then (some (.inr vq0_lower)) else (gd (inb x2 5) <| (s_Fm_reduced vq0_entries vq0_lower vq0_diagonal x2 x3).bind fun u3 => gd (inb x3 5) <| gd (isn (FP.ddiv u3 (vq0_diagonal x3.toNatClampNeg))) <| gd (inb x3 5) <| some (.inl (gset vq0_lower x2.toNatClampNeg (vf_upd (vq0_lower x2.toNatClampNeg) x3.toNatClampNeg (FP.ddiv u3 (vq0_diagonal x3.toNatClampNeg))), x3 + 1)))
def s_Fm_factor_L9 (vq0_entries : Nat → Nat → UInt64) (vq0_lower : Nat → Nat → UInt64) (vq0_diagonal : Nat → UInt64) (x1 : Int32) (x2 : Int32) (x3 : Int32) : Option (((Nat → Nat → UInt64) × (Nat → UInt64) × Int32) ⊕ (((Nat → Nat → UInt64) × (Nat → UInt64)) ⊕ (Int32 × (Nat → Nat → UInt64) × (Nat → UInt64)))) :=
  (loopO (fun (st : (Nat → Nat → UInt64) × Int32) => s_Fm_factor_B9 vq0_entries vq0_diagonal x1 x2 st.1 st.2) 2000 (vq0_lower, x3)).bind fun ul9 => (s_Fm_reduced vq0_entries ul9 vq0_diagonal x2 x2).bind fun u9 => gd (inb x2 5) <| gd (inb x2 5) <| if 0 < (Op.cmpValue (FP.dcmp ((vf_upd vq0_diagonal x2.toNatClampNeg u9) x2.toNatClampNeg) 4412443251819771522) .g) then (some (.inl (ul9, vf_upd vq0_diagonal x2.toNatClampNeg u9, x2 + 1))) else (gd (isb 0) <| some (.inr (.inr (0, ul9, vf_upd vq0_diagonal x2.toNatClampNeg u9))))
def s_Fm_factor_B2 (vq0_entries : Nat → Nat → UInt64) (x1 : Int32) (vq0_lower : Nat → Nat → UInt64) (vq0_diagonal : Nat → UInt64) (x2 : Int32) : Option (((Nat → Nat → UInt64) × (Nat → UInt64) × Int32) ⊕ (((Nat → Nat → UInt64) × (Nat → UInt64)) ⊕ (Int32 × (Nat → Nat → UInt64) × (Nat → UInt64)))) :=
  if x1 ≤ x2 then (some (.inr (.inl (vq0_lower, vq0_diagonal)))) else (s_Fm_factor_L9 vq0_entries vq0_lower vq0_diagonal x1 x2 0)
def s_Fm_factor_L2 (vq0_entries : Nat → Nat → UInt64) (vq0_lower : Nat → Nat → UInt64) (vq0_diagonal : Nat → UInt64) (x1 : Int32) (x2 : Int32) : Option (Int32 × (Nat → Nat → UInt64) × (Nat → UInt64)) :=
  (loopO (fun (st : (Nat → Nat → UInt64) × (Nat → UInt64) × Int32) => s_Fm_factor_B2 vq0_entries x1 st.1 st.2.1 st.2.2) 2000 (vq0_lower, vq0_diagonal, x2)).bind fun ul2 => Sum.elim (fun wl2 => gd (isb 1) <| some (1, wl2.1, wl2.2)) (fun wl2 => some wl2) ul2
def s_Fm_factor (vq0_entries : Nat → Nat → UInt64) (vq0_lower : Nat → Nat → UInt64) (vq0_diagonal : Nat → UInt64) (x1 : Int32) : Option (Int32 × (Nat → Nat → UInt64) × (Nat → UInt64)) :=
  s_Fm_factor_L2 vq0_entries vq0_lower vq0_diagonal x1 0
set_option maxRecDepth 100000 in
theorem j_Fm_factor_24 (T : Nat → ClassId) (q0 : Nat) (q0_entries : Nat) (q0_lower : Nat) (q0_diagonal : Nat) (q0_middle : Nat) (Rq0_entries : Nat → Nat) (Rq0_lower : Nat → Nat) (vq0_entries : Nat → Nat → UInt64) (vq0_lower : Nat → Nat → UInt64) (vq0_diagonal : Nat → UInt64) : ([0, 1, 2, 3, 4, 5, 6, 7, 8, 9, 10, 11, 12, 13].map (fun (i : Nat) => (w_Fm_factor T q0 q0_entries q0_lower q0_diagonal q0_middle Rq0_entries Rq0_lower vq0_entries vq0_lower vq0_diagonal)[i]?) = (w_Fm_reduced T q0 q0_entries q0_lower q0_diagonal q0_middle Rq0_entries Rq0_lower vq0_entries vq0_lower vq0_diagonal).map some) ∧ ([0, 1, 2, 3, 4, 5, 6, 7, 8, 9, 10, 11, 12, 13].map (fun (i : Nat) => (w_Fm_factor T q0 q0_entries q0_lower q0_diagonal q0_middle Rq0_entries Rq0_lower vq0_entries vq0_lower vq0_diagonal)[i]?) = (w_Fm_reduced T q0 q0_entries q0_lower q0_diagonal q0_middle Rq0_entries Rq0_lower vq0_entries vq0_lower vq0_diagonal).map some) ∧ ([].map (fun (i : Nat) => (w_Fm_factor T q0 q0_entries q0_lower q0_diagonal q0_middle Rq0_entries Rq0_lower vq0_entries vq0_lower vq0_diagonal)[i]?) = [].map (fun (i : Nat) => (w_Fm_factor T q0 q0_entries q0_lower q0_diagonal q0_middle Rq0_entries Rq0_lower vq0_entries vq0_lower vq0_diagonal)[i]?)) ∧ (w_Fm_reduced T q0 q0_entries q0_lower q0_diagonal q0_middle Rq0_entries Rq0_lower vq0_entries vq0_lower vq0_diagonal).map Prod.fst = (w_Fm_reduced T q0 q0_entries q0_lower q0_diagonal q0_middle Rq0_entries Rq0_lower vq0_entries vq0_lower vq0_diagonal).map Prod.fst ∧ (w_Fm_factor T q0 q0_entries q0_lower q0_diagonal q0_middle Rq0_entries Rq0_lower vq0_entries vq0_lower vq0_diagonal).length = 14 :=
  ⟨rfl, rfl, Eq.trans (b := ([] : List (Option (Nat × va_E)))) rfl rfl, rfl, rfl⟩
set_option maxRecDepth 100000 in
theorem j_Fm_factor_49 (T : Nat → ClassId) (q0 : Nat) (q0_entries : Nat) (q0_lower : Nat) (q0_diagonal : Nat) (q0_middle : Nat) (Rq0_entries : Nat → Nat) (Rq0_lower : Nat → Nat) (vq0_entries : Nat → Nat → UInt64) (vq0_lower : Nat → Nat → UInt64) (vq0_diagonal : Nat → UInt64) : ([0, 1, 2, 3, 4, 5, 6, 7, 8, 9, 10, 11, 12, 13].map (fun (i : Nat) => (w_Fm_factor T q0 q0_entries q0_lower q0_diagonal q0_middle Rq0_entries Rq0_lower vq0_entries vq0_lower vq0_diagonal)[i]?) = (w_Fm_reduced T q0 q0_entries q0_lower q0_diagonal q0_middle Rq0_entries Rq0_lower vq0_entries vq0_lower vq0_diagonal).map some) ∧ ([0, 1, 2, 3, 4, 5, 6, 7, 8, 9, 10, 11, 12, 13].map (fun (i : Nat) => (w_Fm_factor T q0 q0_entries q0_lower q0_diagonal q0_middle Rq0_entries Rq0_lower vq0_entries vq0_lower vq0_diagonal)[i]?) = (w_Fm_reduced T q0 q0_entries q0_lower q0_diagonal q0_middle Rq0_entries Rq0_lower vq0_entries vq0_lower vq0_diagonal).map some) ∧ ([].map (fun (i : Nat) => (w_Fm_factor T q0 q0_entries q0_lower q0_diagonal q0_middle Rq0_entries Rq0_lower vq0_entries vq0_lower vq0_diagonal)[i]?) = [].map (fun (i : Nat) => (w_Fm_factor T q0 q0_entries q0_lower q0_diagonal q0_middle Rq0_entries Rq0_lower vq0_entries vq0_lower vq0_diagonal)[i]?)) ∧ (w_Fm_reduced T q0 q0_entries q0_lower q0_diagonal q0_middle Rq0_entries Rq0_lower vq0_entries vq0_lower vq0_diagonal).map Prod.fst = (w_Fm_reduced T q0 q0_entries q0_lower q0_diagonal q0_middle Rq0_entries Rq0_lower vq0_entries vq0_lower vq0_diagonal).map Prod.fst ∧ (w_Fm_factor T q0 q0_entries q0_lower q0_diagonal q0_middle Rq0_entries Rq0_lower vq0_entries vq0_lower vq0_diagonal).length = 14 :=
  ⟨rfl, rfl, Eq.trans (b := ([] : List (Option (Nat × va_E)))) rfl rfl, rfl, rfl⟩
set_option maxHeartbeats 40000000 in
set_option maxRecDepth 100000 in
theorem c_Fm_factor (l : Launch) (D : va_G) (T : Nat → ClassId) (q0 : Nat) (q0_entries : Nat) (q0_lower : Nat) (q0_diagonal : Nat) (q0_middle : Nat) (Rq0_entries : Nat → Nat) (Rq0_lower : Nat → Nat) (vq0_entries : Nat → Nat → UInt64) (vq0_lower : Nat → Nat → UInt64) (vq0_diagonal : Nat → UInt64) (x1 : Int32) (rm : Int32 × (Nat → Nat → UInt64) × (Nat → UInt64)) (h : s_Fm_factor vq0_entries vq0_lower vq0_diagonal x1 = some rm) : CtI l y_Fm_factor (Cond.code y_Fm_factor prog_2_method_3_code 4 (some .boolean) :: BIG) 1 25 D T [.ref q0, .int x1] (w_Fm_factor T q0 q0_entries q0_lower q0_diagonal q0_middle Rq0_entries Rq0_lower vq0_entries vq0_lower vq0_diagonal) (fun r => r.1) (fun r => (w_Fm_factor T q0 q0_entries q0_lower q0_diagonal q0_middle Rq0_entries Rq0_lower vq0_entries r.2.1 r.2.2)) rm := by
  refine cf_entry (y := y_Fm_factor) (cc := prog_2_method_3_code) (nL := 4) (ret := (some .boolean)) (fr := 1) (lo := 25) (T := T) (av := [.ref q0, .int x1]) (w := (w_Fm_factor T q0 q0_entries q0_lower q0_diagonal q0_middle Rq0_entries Rq0_lower vq0_entries vq0_lower vq0_diagonal)) (Qc := cfQi D (fun r => r.1) (fun r => (w_Fm_factor T q0 q0_entries q0_lower q0_diagonal q0_middle Rq0_entries Rq0_lower vq0_entries r.2.1 r.2.2)) rm) (by decide) rfl (Nat.le_of_ble_eq_true rfl) ?_
  intro p e s m args below meth c A Q H locs ls hx hb hr hlocks hml hown hts hNW hK hA hQ hP hD hS hl
  have hown : s.vm.findClass "ConeForge$FactoredMatrix" = some m.cls := hown
  have hl : lv_has ls 4 [(0, .ref q0), (1, .int x1)] := hl
  have L2 : ∀ (vq0_lower : Nat → Nat → UInt64) (vq0_diagonal : Nat → UInt64) (x1 : Int32) (x2 : Int32), ∀ (H : Heap) (locs : List Loc) (ls : Array Slot), va_P D CL (w_Fm_factor T q0 q0_entries q0_lower q0_diagonal q0_middle Rq0_entries Rq0_lower vq0_entries vq0_lower vq0_diagonal) H → va_D A (w_Fm_factor T q0 q0_entries q0_lower q0_diagonal q0_middle Rq0_entries Rq0_lower vq0_entries vq0_lower vq0_diagonal) → va_S A s.heap H locs → lv_has ls 4 [(0, .ref q0), (1, .int x1), (2, .int x2)] → s_Fm_factor_L2 vq0_entries vq0_lower vq0_diagonal x1 x2 = some rm → W p l e (rmk 1 25) s m args below meth c H locs 0 0 Q (F0 m 2 ls []) := by
    intro vq0_lower vq0_diagonal x1 x2 H locs ls hP hD hS hl h
    unfold s_Fm_factor_L2 at h
    obtain ⟨ul2, hul2, h⟩ := bi_some h
    refine loopO_W (Wh := fun (st : (Nat → Nat → UInt64) × (Nat → UInt64) × Int32) => ∀ (H : Heap) (locs : List Loc) (ls : Array Slot), va_P D CL (w_Fm_factor T q0 q0_entries q0_lower q0_diagonal q0_middle Rq0_entries Rq0_lower vq0_entries st.1 st.2.1) H → va_D A (w_Fm_factor T q0 q0_entries q0_lower q0_diagonal q0_middle Rq0_entries Rq0_lower vq0_entries st.1 st.2.1) → va_S A s.heap H locs → lv_has ls 4 [(0, .ref q0), (1, .int x1), (2, .int st.2.2)] → W p l e (rmk 1 25) s m args below meth c H locs 0 0 Q (F0 m 2 ls [])) (Wx := fun (e0 : ((Nat → Nat → UInt64) × (Nat → UInt64)) ⊕ (Int32 × (Nat → Nat → UInt64) × (Nat → UInt64))) => Sum.elim (fun (e1 : (Nat → Nat → UInt64) × (Nat → UInt64)) => ∀ (H : Heap) (locs : List Loc) (ls : Array Slot), va_P D CL (w_Fm_factor T q0 q0_entries q0_lower q0_diagonal q0_middle Rq0_entries Rq0_lower vq0_entries e1.1 e1.2) H → va_D A (w_Fm_factor T q0 q0_entries q0_lower q0_diagonal q0_middle Rq0_entries Rq0_lower vq0_entries e1.1 e1.2) → va_S A s.heap H locs → lv_has ls 4 [] → W p l e (rmk 1 25) s m args below meth c H locs 0 0 Q (F0 m 74 ls [])) (fun e2 => e2 = rm) e0) ?_ 2000 _ ul2 hul2 ?_ H locs ls hP hD hS hl
    · intro st rb2 h kc2 kx2 H locs ls hP hD hS hl
      obtain ⟨vq0_lower, vq0_diagonal, x2⟩ := st
      have h : s_Fm_factor_B2 vq0_entries x1 vq0_lower vq0_diagonal x2 = some rb2 := h
      have L9 : ∀ (vq0_lower : Nat → Nat → UInt64) (vq0_diagonal : Nat → UInt64) (x2 : Int32) (x3 : Int32), ∀ (H : Heap) (locs : List Loc) (ls : Array Slot), va_P D CL (w_Fm_factor T q0 q0_entries q0_lower q0_diagonal q0_middle Rq0_entries Rq0_lower vq0_entries vq0_lower vq0_diagonal) H → va_D A (w_Fm_factor T q0 q0_entries q0_lower q0_diagonal q0_middle Rq0_entries Rq0_lower vq0_entries vq0_lower vq0_diagonal) → va_S A s.heap H locs → lv_has ls 4 [(0, .ref q0), (1, .int x1), (2, .int x2), (3, .int x3)] → s_Fm_factor_L9 vq0_entries vq0_lower vq0_diagonal x1 x2 x3 = some rb2 → W p l e (rmk 1 25) s m args below meth c H locs 0 0 Q (F0 m 9 ls []) := by
        intro vq0_lower vq0_diagonal x2 x3 H locs ls hP hD hS hl h
        unfold s_Fm_factor_L9 at h
        obtain ⟨ul9, hul9, h⟩ := bi_some h
        refine loopO_W (Wh := fun (st : (Nat → Nat → UInt64) × Int32) => ∀ (H : Heap) (locs : List Loc) (ls : Array Slot), va_P D CL (w_Fm_factor T q0 q0_entries q0_lower q0_diagonal q0_middle Rq0_entries Rq0_lower vq0_entries st.1 vq0_diagonal) H → va_D A (w_Fm_factor T q0 q0_entries q0_lower q0_diagonal q0_middle Rq0_entries Rq0_lower vq0_entries st.1 vq0_diagonal) → va_S A s.heap H locs → lv_has ls 4 [(0, .ref q0), (1, .int x1), (2, .int x2), (3, .int st.2)] → W p l e (rmk 1 25) s m args below meth c H locs 0 0 Q (F0 m 9 ls [])) (Wx := fun (e1 : (Nat → Nat → UInt64)) => ∀ (H : Heap) (locs : List Loc) (ls : Array Slot), va_P D CL (w_Fm_factor T q0 q0_entries q0_lower q0_diagonal q0_middle Rq0_entries Rq0_lower vq0_entries e1 vq0_diagonal) H → va_D A (w_Fm_factor T q0 q0_entries q0_lower q0_diagonal q0_middle Rq0_entries Rq0_lower vq0_entries e1 vq0_diagonal) → va_S A s.heap H locs → lv_has ls 4 [(0, .ref q0), (1, .int x1), (2, .int x2)] → W p l e (rmk 1 25) s m args below meth c H locs 0 0 Q (F0 m 41 ls [])) ?_ 2000 _ ul9 hul9 ?_ H locs ls hP hD hS hl
        · intro st rb9 h kc9 kx9 H locs ls hP hD hS hl
          obtain ⟨vq0_lower, x3⟩ := st
          have h : s_Fm_factor_B9 vq0_entries vq0_diagonal x1 x2 vq0_lower x3 = some rb9 := h
          unfold s_Fm_factor_B9 at h
          refine lv_iload_n hx hb d_Fm_factor_9 rfl (lv_at hl 3 rfl) ?_
          refine lv_iload_n hx hb d_Fm_factor_10 rfl (lv_at hl 2 rfl) ?_
          refine lv_icmp_ge (tgt := 41) hx hb d_Fm_factor_11 (by decide) (fun c1 => ?_) (fun c1 => ?_)
          · have h := it_t c1 h
            exact kx9 _ (Option.some.inj h).symm H locs ls hP hD hS (lv_sub hl [0, 1, 2] rfl)
          · have h := it_f c1 h
            refine lv_aload_n hx hb d_Fm_factor_14 rfl (lv_at hl 0 rfl) ?_
            refine va_get (D := D) (ci := 4) (v := .ref q0_lower) (C := "ConeForge$FactoredMatrix") (T := FFm) (N := 4) hx hb hts iFm hown hK hP 0 rfl rfl 1 (by decide) (hts _ (bgc bw199)) (fun _ h9 => h9) rfl d_Fm_factor_15 ?_
            refine lv_iload_n hx hb d_Fm_factor_18 rfl (lv_at hl 2 rfl) ?_
            obtain ⟨g2, h⟩ := gd_some h
            refine va_aldg (f := Rq0_lower) hx hb hK hP 7 3 rfl rfl (inb_in g2) d_Fm_factor_19 ?_
            refine lv_iload_n hx hb d_Fm_factor_20 rfl (lv_at hl 3 rfl) ?_
            refine lv_aload_n hx hb d_Fm_factor_21 rfl (lv_at hl 0 rfl) ?_
            refine lv_iload_n hx hb d_Fm_factor_22 rfl (lv_at hl 2 rfl) ?_
            refine lv_iload_n hx hb d_Fm_factor_23 rfl (lv_at hl 3 rfl) ?_
            obtain ⟨u3, hu3, h⟩ := bi_some h
            have jj4 := j_Fm_factor_24 T q0 q0_entries q0_lower q0_diagonal q0_middle Rq0_entries Rq0_lower vq0_entries vq0_lower vq0_diagonal
            refine kD2 (v := u3) (wc := (w_Fm_reduced T q0 q0_entries q0_lower q0_diagonal q0_middle Rq0_entries Rq0_lower vq0_entries vq0_lower vq0_diagonal)) (wc' := (w_Fm_reduced T q0 q0_entries q0_lower q0_diagonal q0_middle Rq0_entries Rq0_lower vq0_entries vq0_lower vq0_diagonal)) (w_Fm_factor T q0 q0_entries q0_lower q0_diagonal q0_middle Rq0_entries Rq0_lower vq0_entries vq0_lower vq0_diagonal) (runOV (As := [.int x2, .int x3]) (rest := [.int x3, .ref (Rq0_lower x2.toNatClampNeg)]) ((c_Fm_reduced l D T q0 q0_entries q0_lower q0_diagonal q0_middle Rq0_entries Rq0_lower vq0_entries vq0_lower vq0_diagonal x2 x3 u3 hu3) H.size) ⟨hx, hb, hml, hown, hts⟩ (cwOV bw593 bw594 bw50 bw103 bw595 dd_Fm_reduced hts ⟨Nat.le_of_ble_eq_true rfl, Nat.le_of_ble_eq_true rfl⟩) (va_recv hK hP (ci := 4) (q0 := 0) rfl rfl) hNW hK hP hD [0, 1, 2, 3, 4, 5, 6, 7, 8, 9, 10, 11, 12, 13] jj4.1 (by decide) rfl hl.1 rfl (lv_room (Nat.le_of_ble_eq_true rfl)) d_Fm_factor_24 ⟨Nat.le_of_ble_eq_true rfl, Nat.le_of_ble_eq_true rfl⟩) hP hD hS hA [0, 1, 2, 3, 4, 5, 6, 7, 8, 9, 10, 11, 12, 13] [] jj4.1 jj4.2.1 jj4.2.2.1 (N := 14) jj4.2.2.2.2 (by decide) jj4.2.2.2.1 (fun H locs hP hD hS => ?_)
            refine lv_aload_n hx hb d_Fm_factor_27 rfl (lv_at hl 0 rfl) ?_
            refine va_get (D := D) (ci := 4) (v := .ref q0_diagonal) (C := "ConeForge$FactoredMatrix") (T := FFm) (N := 4) hx hb hts iFm hown hK hP 0 rfl rfl 2 (by decide) (hts _ (bgc bw200)) (fun _ h9 => h9) rfl d_Fm_factor_28 ?_
            refine lv_iload_n hx hb d_Fm_factor_31 rfl (lv_at hl 3 rfl) ?_
            obtain ⟨g5, h⟩ := gd_some h
            refine va_dald hx hb hK hP 13 0 rfl rfl (inb_in g5) d_Fm_factor_32 ?_
            obtain ⟨g6, h⟩ := gd_some h
            refine lv_ddiv hx hb d_Fm_factor_33 (isn_n g6) ?_
            obtain ⟨g7, h⟩ := gd_some h
            refine va_dast hx hb hK hP hD hS (8 + x2.toNatClampNeg) 0 (gk5 (P := fun k => (w_Fm_factor T q0 q0_entries q0_lower q0_diagonal q0_middle Rq0_entries Rq0_lower vq0_entries vq0_lower vq0_diagonal)[8 + k]? = some (Rq0_lower k, .inl (T 0, 5, .inr (.inr (.inr (.inl (vq0_lower k))))))) rfl rfl rfl rfl rfl _ (inb_lt g2)) rfl (inb_in g7) d_Fm_factor_34 (fun H locs hP hD hS => ?_)
            have e8 : ∀ zz : Nat → UInt64, (w_Fm_factor T q0 q0_entries q0_lower q0_diagonal q0_middle Rq0_entries Rq0_lower vq0_entries vq0_lower vq0_diagonal).set (8 + x2.toNatClampNeg) (Rq0_lower x2.toNatClampNeg, .inl (T 0, 5, .inr (.inr (.inr (.inl zz))))) = (w_Fm_factor T q0 q0_entries q0_lower q0_diagonal q0_middle Rq0_entries Rq0_lower vq0_entries (gset vq0_lower x2.toNatClampNeg zz) vq0_diagonal) := fun zz => gk5 (P := fun k => (w_Fm_factor T q0 q0_entries q0_lower q0_diagonal q0_middle Rq0_entries Rq0_lower vq0_entries vq0_lower vq0_diagonal).set (8 + k) (Rq0_lower k, .inl (T 0, 5, .inr (.inr (.inr (.inl zz))))) = (w_Fm_factor T q0 q0_entries q0_lower q0_diagonal q0_middle Rq0_entries Rq0_lower vq0_entries (gset vq0_lower k zz) vq0_diagonal)) rfl rfl rfl rfl rfl _ (inb_lt g2)
            have hP : va_P D CL (w_Fm_factor T q0 q0_entries q0_lower q0_diagonal q0_middle Rq0_entries Rq0_lower vq0_entries (gset vq0_lower x2.toNatClampNeg (vf_upd (vq0_lower x2.toNatClampNeg) x3.toNatClampNeg (FP.ddiv u3 (vq0_diagonal x3.toNatClampNeg)))) vq0_diagonal) H := (e8 _) ▸ hP
            have hD : va_D A (w_Fm_factor T q0 q0_entries q0_lower q0_diagonal q0_middle Rq0_entries Rq0_lower vq0_entries (gset vq0_lower x2.toNatClampNeg (vf_upd (vq0_lower x2.toNatClampNeg) x3.toNatClampNeg (FP.ddiv u3 (vq0_diagonal x3.toNatClampNeg)))) vq0_diagonal) := (e8 _) ▸ hD
            refine lv_iinc (v := x3 + 1) (lv' := [(3, .int (x3 + 1)), (0, .ref q0), (1, .int x1), (2, .int x2)]) hx hb d_Fm_factor_35 hl (k := 3) rfl rfl (by decide) rfl (fun ls hl => ?_)
            refine lv_goto (tgt := 9) hx hb d_Fm_factor_38 (by decide) ?_
            exact kc9 _ (Option.some.inj h).symm H locs ls hP hD hS (lv_sub hl [1, 2, 3, 0] rfl)
        · intro H locs ls hP hD hS hl
          refine lv_aload_n hx hb d_Fm_factor_41 rfl (lv_at hl 0 rfl) ?_
          refine va_get (D := D) (ci := 4) (v := .ref q0_diagonal) (C := "ConeForge$FactoredMatrix") (T := FFm) (N := 4) hx hb hts iFm hown hK hP 0 rfl rfl 2 (by decide) (hts _ (bgc bw200)) (fun _ h9 => h9) rfl d_Fm_factor_42 ?_
          refine lv_iload_n hx hb d_Fm_factor_45 rfl (lv_at hl 2 rfl) ?_
          refine lv_aload_n hx hb d_Fm_factor_46 rfl (lv_at hl 0 rfl) ?_
          refine lv_iload_n hx hb d_Fm_factor_47 rfl (lv_at hl 2 rfl) ?_
          refine lv_iload_n hx hb d_Fm_factor_48 rfl (lv_at hl 2 rfl) ?_
          obtain ⟨u9, hu9, h⟩ := bi_some h
          have jj10 := j_Fm_factor_49 T q0 q0_entries q0_lower q0_diagonal q0_middle Rq0_entries Rq0_lower vq0_entries ul9 vq0_diagonal
          refine kD2 (v := u9) (wc := (w_Fm_reduced T q0 q0_entries q0_lower q0_diagonal q0_middle Rq0_entries Rq0_lower vq0_entries ul9 vq0_diagonal)) (wc' := (w_Fm_reduced T q0 q0_entries q0_lower q0_diagonal q0_middle Rq0_entries Rq0_lower vq0_entries ul9 vq0_diagonal)) (w_Fm_factor T q0 q0_entries q0_lower q0_diagonal q0_middle Rq0_entries Rq0_lower vq0_entries ul9 vq0_diagonal) (runOV (As := [.int x2, .int x2]) (rest := [.int x2, .ref q0_diagonal]) ((c_Fm_reduced l D T q0 q0_entries q0_lower q0_diagonal q0_middle Rq0_entries Rq0_lower vq0_entries ul9 vq0_diagonal x2 x2 u9 hu9) H.size) ⟨hx, hb, hml, hown, hts⟩ (cwOV bw593 bw594 bw50 bw103 bw595 dd_Fm_reduced hts ⟨Nat.le_of_ble_eq_true rfl, Nat.le_of_ble_eq_true rfl⟩) (va_recv hK hP (ci := 4) (q0 := 0) rfl rfl) hNW hK hP hD [0, 1, 2, 3, 4, 5, 6, 7, 8, 9, 10, 11, 12, 13] jj10.1 (by decide) rfl hl.1 rfl (lv_room (Nat.le_of_ble_eq_true rfl)) d_Fm_factor_49 ⟨Nat.le_of_ble_eq_true rfl, Nat.le_of_ble_eq_true rfl⟩) hP hD hS hA [0, 1, 2, 3, 4, 5, 6, 7, 8, 9, 10, 11, 12, 13] [] jj10.1 jj10.2.1 jj10.2.2.1 (N := 14) jj10.2.2.2.2 (by decide) jj10.2.2.2.1 (fun H locs hP hD hS => ?_)
          obtain ⟨g11, h⟩ := gd_some h
          refine va_dast hx hb hK hP hD hS 13 0 rfl rfl (inb_in g11) d_Fm_factor_52 (fun H locs hP hD hS => ?_)
          have hP : va_P D CL (w_Fm_factor T q0 q0_entries q0_lower q0_diagonal q0_middle Rq0_entries Rq0_lower vq0_entries ul9 (vf_upd vq0_diagonal x2.toNatClampNeg u9)) H := hP
          have hD : va_D A (w_Fm_factor T q0 q0_entries q0_lower q0_diagonal q0_middle Rq0_entries Rq0_lower vq0_entries ul9 (vf_upd vq0_diagonal x2.toNatClampNeg u9)) := hD
          refine lv_aload_n hx hb d_Fm_factor_53 rfl (lv_at hl 0 rfl) ?_
          refine va_get (D := D) (ci := 4) (v := .ref q0_diagonal) (C := "ConeForge$FactoredMatrix") (T := FFm) (N := 4) hx hb hts iFm hown hK hP 0 rfl rfl 2 (by decide) (hts _ (bgc bw200)) (fun _ h9 => h9) rfl d_Fm_factor_54 ?_
          refine lv_iload_n hx hb d_Fm_factor_57 rfl (lv_at hl 2 rfl) ?_
          obtain ⟨g12, h⟩ := gd_some h
          refine va_dald hx hb hK hP 13 0 rfl rfl (inb_in g12) d_Fm_factor_58 ?_
          refine lv_ldc2d (v := 4412443251819771522) hx hb hown (hts _ (bgc bw596)) d_Fm_factor_59 ?_
          refine lv_dcmp hx hb d_Fm_factor_62 ?_
          refine lv_if_gt (tgt := 68) hx hb d_Fm_factor_63 (by decide) (fun c13 => ?_) (fun c13 => ?_)
          · have h := it_t c13 h
            refine lv_iinc (v := x2 + 1) (lv' := [(2, .int (x2 + 1)), (0, .ref q0), (1, .int x1)]) hx hb d_Fm_factor_68 hl (k := 2) rfl rfl (by decide) rfl (fun ls hl => ?_)
            refine lv_goto (tgt := 2) hx hb d_Fm_factor_71 (by decide) ?_
            exact kc2 _ (Option.some.inj h).symm H locs ls hP hD hS (lv_sub hl [1, 2, 0] rfl)
          · have h := it_f c13 h
            refine lv_iconst (v := 0) hx hb d_Fm_factor_66 (by decide) ?_
            obtain ⟨g14, h⟩ := gd_some h
            exact rtZ hx hb hr hlocks g14 hQ (kx2 _ (Option.some.inj h).symm) hP hS d_Fm_factor_67 rfl rfl
      unfold s_Fm_factor_B2 at h
      refine lv_iload_n hx hb d_Fm_factor_2 rfl (lv_at hl 2 rfl) ?_
      refine lv_iload_n hx hb d_Fm_factor_3 rfl (lv_at hl 1 rfl) ?_
      refine lv_icmp_ge (tgt := 74) hx hb d_Fm_factor_4 (by decide) (fun c15 => ?_) (fun c15 => ?_)
      · have h := it_t c15 h
        exact kx2 _ (Option.some.inj h).symm H locs ls hP hD hS (lv_sub hl [] rfl)
      · have h := it_f c15 h
        refine lv_iconst (v := 0) hx hb d_Fm_factor_7 (by decide) ?_
        refine lv_istore_n (lv' := [(3, .int 0), (0, .ref q0), (1, .int x1), (2, .int x2)]) hx hb d_Fm_factor_8 rfl hl (by decide) rfl (fun ls hl => ?_)
        exact L9 vq0_lower vq0_diagonal x2 0 H locs ls hP hD hS (lv_sub hl [1, 2, 3, 0] rfl) h
    · cases ul2 with
      | inl wl2 =>
        intro H locs ls hP hD hS hl
        refine lv_iconst (v := 1) hx hb d_Fm_factor_74 (by decide) ?_
        obtain ⟨g16, h⟩ := gd_some h
        exact rtZ hx hb hr hlocks g16 hQ (Option.some.inj h) hP hS d_Fm_factor_75 rfl rfl
      | inr wl2 => exact Option.some.inj h
  unfold s_Fm_factor at h
  refine lv_iconst (v := 0) hx hb d_Fm_factor_0 (by decide) ?_
  refine lv_istore_n (lv' := [(2, .int 0), (0, .ref q0), (1, .int x1)]) hx hb d_Fm_factor_1 rfl hl (by decide) rfl (fun ls hl => ?_)
  exact L2 vq0_lower vq0_diagonal x1 0 H locs ls hP hD hS (lv_sub hl [1, 2, 0] rfl) h
theorem d_Fm_solve_0 : decode prog_2_method_5_code 0 = .ok (.iconst 0, 1) := by decide +kernel
theorem d_Fm_solve_1 : decode prog_2_method_5_code 1 = .ok (.istore 4, 2) := by decide +kernel
theorem d_Fm_solve_3 : decode prog_2_method_5_code 3 = .ok (.iload 4, 2) := by decide +kernel
theorem d_Fm_solve_5 : decode prog_2_method_5_code 5 = .ok (.iload_n 3, 1) := by decide +kernel
theorem d_Fm_solve_6 : decode prog_2_method_5_code 6 = .ok (.if_icmp .ge 63, 3) := by decide +kernel
theorem d_Fm_solve_9 : decode prog_2_method_5_code 9 = .ok (.aload_n 1, 1) := by decide +kernel
theorem d_Fm_solve_10 : decode prog_2_method_5_code 10 = .ok (.iload 4, 2) := by decide +kernel
theorem d_Fm_solve_12 : decode prog_2_method_5_code 12 = .ok (.daload, 1) := by decide +kernel
theorem d_Fm_solve_13 : decode prog_2_method_5_code 13 = .ok (.dstore 5, 2) := by decide +kernel
theorem d_Fm_solve_15 : decode prog_2_method_5_code 15 = .ok (.iconst 0, 1) := by decide +kernel
theorem d_Fm_solve_16 : decode prog_2_method_5_code 16 = .ok (.istore 7, 2) := by decide +kernel
theorem d_Fm_solve_18 : decode prog_2_method_5_code 18 = .ok (.iload 7, 2) := by decide +kernel
theorem d_Fm_solve_20 : decode prog_2_method_5_code 20 = .ok (.iload 4, 2) := by decide +kernel
theorem d_Fm_solve_22 : decode prog_2_method_5_code 22 = .ok (.if_icmp .ge 32, 3) := by decide +kernel
theorem d_Fm_solve_25 : decode prog_2_method_5_code 25 = .ok (.dload 5, 2) := by decide +kernel
theorem d_Fm_solve_27 : decode prog_2_method_5_code 27 = .ok (.aload_n 0, 1) := by decide +kernel
theorem d_Fm_solve_28 : decode prog_2_method_5_code 28 = .ok (.getfield 16, 3) := by decide +kernel
theorem d_Fm_solve_31 : decode prog_2_method_5_code 31 = .ok (.iload 4, 2) := by decide +kernel
theorem d_Fm_solve_33 : decode prog_2_method_5_code 33 = .ok (.aaload, 1) := by decide +kernel
theorem d_Fm_solve_34 : decode prog_2_method_5_code 34 = .ok (.iload 7, 2) := by decide +kernel
theorem d_Fm_solve_36 : decode prog_2_method_5_code 36 = .ok (.daload, 1) := by decide +kernel
theorem d_Fm_solve_37 : decode prog_2_method_5_code 37 = .ok (.aload_n 0, 1) := by decide +kernel
theorem d_Fm_solve_38 : decode prog_2_method_5_code 38 = .ok (.getfield 23, 3) := by decide +kernel
theorem d_Fm_solve_41 : decode prog_2_method_5_code 41 = .ok (.iload 7, 2) := by decide +kernel
theorem d_Fm_solve_43 : decode prog_2_method_5_code 43 = .ok (.daload, 1) := by decide +kernel
theorem d_Fm_solve_44 : decode prog_2_method_5_code 44 = .ok (.dmul, 1) := by decide +kernel
theorem d_Fm_solve_45 : decode prog_2_method_5_code 45 = .ok (.dsub, 1) := by decide +kernel
theorem d_Fm_solve_46 : decode prog_2_method_5_code 46 = .ok (.dstore 5, 2) := by decide +kernel
theorem d_Fm_solve_48 : decode prog_2_method_5_code 48 = .ok (.iinc 7 1, 3) := by decide +kernel
theorem d_Fm_solve_51 : decode prog_2_method_5_code 51 = .ok (.goto (-33), 3) := by decide +kernel
theorem d_Fm_solve_54 : decode prog_2_method_5_code 54 = .ok (.aload_n 0, 1) := by decide +kernel
theorem d_Fm_solve_55 : decode prog_2_method_5_code 55 = .ok (.getfield 23, 3) := by decide +kernel
theorem d_Fm_solve_58 : decode prog_2_method_5_code 58 = .ok (.iload 4, 2) := by decide +kernel
theorem d_Fm_solve_60 : decode prog_2_method_5_code 60 = .ok (.dload 5, 2) := by decide +kernel
theorem d_Fm_solve_62 : decode prog_2_method_5_code 62 = .ok (.dastore, 1) := by decide +kernel
theorem d_Fm_solve_63 : decode prog_2_method_5_code 63 = .ok (.iinc 4 1, 3) := by decide +kernel
theorem d_Fm_solve_66 : decode prog_2_method_5_code 66 = .ok (.goto (-63), 3) := by decide +kernel
theorem d_Fm_solve_69 : decode prog_2_method_5_code 69 = .ok (.iload_n 3, 1) := by decide +kernel
theorem d_Fm_solve_70 : decode prog_2_method_5_code 70 = .ok (.iconst 1, 1) := by decide +kernel
theorem d_Fm_solve_71 : decode prog_2_method_5_code 71 = .ok (.isub, 1) := by decide +kernel
theorem d_Fm_solve_72 : decode prog_2_method_5_code 72 = .ok (.istore 4, 2) := by decide +kernel
theorem d_Fm_solve_74 : decode prog_2_method_5_code 74 = .ok (.iload 4, 2) := by decide +kernel
theorem d_Fm_solve_76 : decode prog_2_method_5_code 76 = .ok (.ifCond .lt 70, 3) := by decide +kernel
theorem d_Fm_solve_79 : decode prog_2_method_5_code 79 = .ok (.aload_n 0, 1) := by decide +kernel
theorem d_Fm_solve_80 : decode prog_2_method_5_code 80 = .ok (.getfield 23, 3) := by decide +kernel
theorem d_Fm_solve_83 : decode prog_2_method_5_code 83 = .ok (.iload 4, 2) := by decide +kernel
theorem d_Fm_solve_85 : decode prog_2_method_5_code 85 = .ok (.daload, 1) := by decide +kernel
theorem d_Fm_solve_86 : decode prog_2_method_5_code 86 = .ok (.aload_n 0, 1) := by decide +kernel
theorem d_Fm_solve_87 : decode prog_2_method_5_code 87 = .ok (.getfield 19, 3) := by decide +kernel
theorem d_Fm_solve_90 : decode prog_2_method_5_code 90 = .ok (.iload 4, 2) := by decide +kernel
theorem d_Fm_solve_92 : decode prog_2_method_5_code 92 = .ok (.daload, 1) := by decide +kernel
theorem d_Fm_solve_93 : decode prog_2_method_5_code 93 = .ok (.ddiv, 1) := by decide +kernel
theorem d_Fm_solve_94 : decode prog_2_method_5_code 94 = .ok (.dstore 5, 2) := by decide +kernel
theorem d_Fm_solve_96 : decode prog_2_method_5_code 96 = .ok (.iload 4, 2) := by decide +kernel
theorem d_Fm_solve_98 : decode prog_2_method_5_code 98 = .ok (.iconst 1, 1) := by decide +kernel
theorem d_Fm_solve_99 : decode prog_2_method_5_code 99 = .ok (.iadd, 1) := by decide +kernel
theorem d_Fm_solve_100 : decode prog_2_method_5_code 100 = .ok (.istore 7, 2) := by decide +kernel
theorem d_Fm_solve_102 : decode prog_2_method_5_code 102 = .ok (.iload 7, 2) := by decide +kernel
theorem d_Fm_solve_104 : decode prog_2_method_5_code 104 = .ok (.iload_n 3, 1) := by decide +kernel
theorem d_Fm_solve_105 : decode prog_2_method_5_code 105 = .ok (.if_icmp .ge 29, 3) := by decide +kernel
theorem d_Fm_solve_108 : decode prog_2_method_5_code 108 = .ok (.dload 5, 2) := by decide +kernel
theorem d_Fm_solve_110 : decode prog_2_method_5_code 110 = .ok (.aload_n 0, 1) := by decide +kernel
theorem d_Fm_solve_111 : decode prog_2_method_5_code 111 = .ok (.getfield 16, 3) := by decide +kernel
theorem d_Fm_solve_114 : decode prog_2_method_5_code 114 = .ok (.iload 7, 2) := by decide +kernel
theorem d_Fm_solve_116 : decode prog_2_method_5_code 116 = .ok (.aaload, 1) := by decide +kernel
theorem d_Fm_solve_117 : decode prog_2_method_5_code 117 = .ok (.iload 4, 2) := by decide +kernel
theorem d_Fm_solve_119 : decode prog_2_method_5_code 119 = .ok (.daload, 1) := by decide +kernel
theorem d_Fm_solve_120 : decode prog_2_method_5_code 120 = .ok (.aload_n 2, 1) := by decide +kernel
theorem d_Fm_solve_121 : decode prog_2_method_5_code 121 = .ok (.iload 7, 2) := by decide +kernel
theorem d_Fm_solve_123 : decode prog_2_method_5_code 123 = .ok (.daload, 1) := by decide +kernel
theorem d_Fm_solve_124 : decode prog_2_method_5_code 124 = .ok (.dmul, 1) := by decide +kernel
theorem d_Fm_solve_125 : decode prog_2_method_5_code 125 = .ok (.dsub, 1) := by decide +kernel
theorem d_Fm_solve_126 : decode prog_2_method_5_code 126 = .ok (.dstore 5, 2) := by decide +kernel
theorem d_Fm_solve_128 : decode prog_2_method_5_code 128 = .ok (.iinc 7 1, 3) := by decide +kernel
theorem d_Fm_solve_131 : decode prog_2_method_5_code 131 = .ok (.goto (-29), 3) := by decide +kernel
theorem d_Fm_solve_134 : decode prog_2_method_5_code 134 = .ok (.aload_n 2, 1) := by decide +kernel
theorem d_Fm_solve_135 : decode prog_2_method_5_code 135 = .ok (.iload 4, 2) := by decide +kernel
theorem d_Fm_solve_137 : decode prog_2_method_5_code 137 = .ok (.dload 5, 2) := by decide +kernel
theorem d_Fm_solve_139 : decode prog_2_method_5_code 139 = .ok (.dastore, 1) := by decide +kernel
theorem d_Fm_solve_140 : decode prog_2_method_5_code 140 = .ok (.iinc 4 (-1), 3) := by decide +kernel
theorem d_Fm_solve_143 : decode prog_2_method_5_code 143 = .ok (.goto (-69), 3) := by decide +kernel
theorem d_Fm_solve_146 : decode prog_2_method_5_code 146 = .ok (.return_, 1) := by decide +kernel
abbrev w_Fm_solve (T : Nat → ClassId) (q0 : Nat) (q0_entries : Nat) (q0_lower : Nat) (q0_diagonal : Nat) (q0_middle : Nat) (Rq0_lower : Nat → Nat) (q1 : Nat) (q2 : Nat) (n1 : Nat) (n2 : Nat) (vq0_lower : Nat → Nat → UInt64) (vq0_diagonal : Nat → UInt64) (vq0_middle : Nat → UInt64) (vq1 : Nat → UInt64) (vq2 : Nat → UInt64) : va_W := [(q0, .inr (4, [.ref q0_entries, .ref q0_lower, .ref q0_diagonal, .ref q0_middle])), (q0_lower, .inl (T 3, 5, .inr (.inr (.inr (.inr (fun i => some (Rq0_lower i))))))), (Rq0_lower 0, .inl (T 0, 5, .inr (.inr (.inr (.inl (vq0_lower 0)))))), (Rq0_lower 1, .inl (T 0, 5, .inr (.inr (.inr (.inl (vq0_lower 1)))))), (Rq0_lower 2, .inl (T 0, 5, .inr (.inr (.inr (.inl (vq0_lower 2)))))), (Rq0_lower 3, .inl (T 0, 5, .inr (.inr (.inr (.inl (vq0_lower 3)))))), (Rq0_lower 4, .inl (T 0, 5, .inr (.inr (.inr (.inl (vq0_lower 4)))))), (q0_diagonal, .inl (T 0, 5, .inr (.inr (.inr (.inl vq0_diagonal))))), (q0_middle, .inl (T 0, 5, .inr (.inr (.inr (.inl vq0_middle))))), (q1, .inl (T 0, n1, .inr (.inr (.inr (.inl vq1))))), (q2, .inl (T 0, n2, .inr (.inr (.inr (.inl vq2)))))]
def s_Fm_solve_B102 (n1 : Nat) (n2 : Nat) (vq0_lower : Nat → Nat → UInt64) (vq0_diagonal : Nat → UInt64) (vq0_middle : Nat → UInt64) (vq1 : Nat → UInt64) (vq2 : Nat → UInt64) (x3 : Int32) (x4 : Int32) (x5 : UInt64) (x7 : Int32) : Option ((UInt64 × Int32) ⊕ (UInt64)) :=
  if x3 ≤ x7 then (some (.inr x5)) else (gd (inb x7 5) <| gd (inb x4 5) <| gd (inb x7 n2) <| gd (isn (FP.dmul (vq0_lower x7.toNatClampNeg x4.toNatClampNeg) (vq2 x7.toNatClampNeg))) <| gd (isn (FP.dsub x5 (FP.dmul (vq0_lower x7.toNatClampNeg x4.toNatClampNeg) (vq2 x7.toNatClampNeg)))) <| some (.inl (FP.dsub x5 (FP.dmul (vq0_lower x7.toNatClampNeg x4.toNatClampNeg) (vq2 x7.toNatClampNeg)), x7 + 1)))
def s_Fm_solve_L102 (n1 : Nat) (n2 : Nat) (vq0_lower : Nat → Nat → UInt64) (vq0_diagonal : Nat → UInt64) (vq0_middle : Nat → UInt64) (vq1 : Nat → UInt64) (vq2 : Nat → UInt64) (x3 : Int32) (x4 : Int32) (x5 : UInt64) (x7 : Int32) : Option (((Nat → UInt64) × Int32) ⊕ ((Nat → UInt64))) :=
  (loopO (fun (st : UInt64 × Int32) => s_Fm_solve_B102 n1 n2 vq0_lower vq0_diagonal vq0_middle vq1 vq2 x3 x4 st.1 st.2) 2000 (x5, x7)).bind fun ul102 => gd (inb x4 n2) <| some (.inl (vf_upd vq2 x4.toNatClampNeg ul102, x4 + (-1)))
def s_Fm_solve_B74 (n1 : Nat) (n2 : Nat) (vq0_lower : Nat → Nat → UInt64) (vq0_diagonal : Nat → UInt64) (vq0_middle : Nat → UInt64) (vq1 : Nat → UInt64) (x3 : Int32) (vq2 : Nat → UInt64) (x4 : Int32) : Option (((Nat → UInt64) × Int32) ⊕ ((Nat → UInt64))) :=
  if x4 < 0 then (some (.inr vq2)) else (gd (inb x4 5) <| gd (inb x4 5) <| gd (isn (FP.ddiv (vq0_middle x4.toNatClampNeg) (vq0_diagonal x4.toNatClampNeg))) <| s_Fm_solve_L102 n1 n2 vq0_lower vq0_diagonal vq0_middle vq1 vq2 x3 x4 (FP.ddiv (vq0_middle x4.toNatClampNeg) (vq0_diagonal x4.toNatClampNeg)) (x4 + 1))
def s_Fm_solve_L74 (n1 : Nat) (n2 : Nat) (vq0_lower : Nat → Nat → UInt64) (vq0_diagonal : Nat → UInt64) (vq0_middle : Nat → UInt64) (vq1 : Nat → UInt64) (vq2 : Nat → UInt64) (x3 : Int32) (x4 : Int32) : Option ((Nat → UInt64) × (Nat → UInt64)) :=
  (loopO (fun (st : (Nat → UInt64) × Int32) => s_Fm_solve_B74 n1 n2 vq0_lower vq0_diagonal vq0_middle vq1 x3 st.1 st.2) 2000 (vq2, x4)).bind fun ul74 => some (vq0_middle, ul74)
def s_Fm_solve_B18 (n1 : Nat) (n2 : Nat) (vq0_lower : Nat → Nat → UInt64) (vq0_diagonal : Nat → UInt64) (vq0_middle : Nat → UInt64) (vq1 : Nat → UInt64) (vq2 : Nat → UInt64) (x3 : Int32) (x4 : Int32) (x5 : UInt64) (x7 : Int32) : Option ((UInt64 × Int32) ⊕ (UInt64)) :=
  if x4 ≤ x7 then (some (.inr x5)) else (gd (inb x4 5) <| gd (inb x7 5) <| gd (inb x7 5) <| gd (isn (FP.dmul (vq0_lower x4.toNatClampNeg x7.toNatClampNeg) (vq0_middle x7.toNatClampNeg))) <| gd (isn (FP.dsub x5 (FP.dmul (vq0_lower x4.toNatClampNeg x7.toNatClampNeg) (vq0_middle x7.toNatClampNeg)))) <| some (.inl (FP.dsub x5 (FP.dmul (vq0_lower x4.toNatClampNeg x7.toNatClampNeg) (vq0_middle x7.toNatClampNeg)), x7 + 1)))
def s_Fm_solve_L18 (n1 : Nat) (n2 : Nat) (vq0_lower : Nat → Nat → UInt64) (vq0_diagonal : Nat → UInt64) (vq0_middle : Nat → UInt64) (vq1 : Nat → UInt64) (vq2 : Nat → UInt64) (x3 : Int32) (x4 : Int32) (x5 : UInt64) (x7 : Int32) : Option (((Nat → UInt64) × Int32) ⊕ ((Nat → UInt64))) :=
  (loopO (fun (st : UInt64 × Int32) => s_Fm_solve_B18 n1 n2 vq0_lower vq0_diagonal vq0_middle vq1 vq2 x3 x4 st.1 st.2) 2000 (x5, x7)).bind fun ul18 => gd (inb x4 5) <| some (.inl (vf_upd vq0_middle x4.toNatClampNeg ul18, x4 + 1))
def s_Fm_solve_B3 (n1 : Nat) (n2 : Nat) (vq0_lower : Nat → Nat → UInt64) (vq0_diagonal : Nat → UInt64) (vq1 : Nat → UInt64) (vq2 : Nat → UInt64) (x3 : Int32) (vq0_middle : Nat → UInt64) (x4 : Int32) : Option (((Nat → UInt64) × Int32) ⊕ ((Nat → UInt64))) :=
  if x3 ≤ x4 then (some (.inr vq0_middle)) else (gd (inb x4 n1) <| s_Fm_solve_L18 n1 n2 vq0_lower vq0_diagonal vq0_middle vq1 vq2 x3 x4 (vq1 x4.toNatClampNeg) 0)
def s_Fm_solve_L3 (n1 : Nat) (n2 : Nat) (vq0_lower : Nat → Nat → UInt64) (vq0_diagonal : Nat → UInt64) (vq0_middle : Nat → UInt64) (vq1 : Nat → UInt64) (vq2 : Nat → UInt64) (x3 : Int32) (x4 : Int32) : Option ((Nat → UInt64) × (Nat → UInt64)) :=
  (loopO (fun (st : (Nat → UInt64) × Int32) => s_Fm_solve_B3 n1 n2 vq0_lower vq0_diagonal vq1 vq2 x3 st.1 st.2) 2000 (vq0_middle, x4)).bind fun ul3 => s_Fm_solve_L74 n1 n2 vq0_lower vq0_diagonal ul3 vq1 vq2 x3 (x3 - 1)
def s_Fm_solve (n1 : Nat) (n2 : Nat) (vq0_lower : Nat → Nat → UInt64) (vq0_diagonal : Nat → UInt64) (vq0_middle : Nat → UInt64) (vq1 : Nat → UInt64) (vq2 : Nat → UInt64) (x3 : Int32) : Option ((Nat → UInt64) × (Nat → UInt64)) :=
  s_Fm_solve_L3 n1 n2 vq0_lower vq0_diagonal vq0_middle vq1 vq2 x3 0
set_option maxHeartbeats 40000000 in
set_option maxRecDepth 100000 in
theorem c_Fm_solve (l : Launch) (D : va_G) (T : Nat → ClassId) (q0 : Nat) (q0_entries : Nat) (q0_lower : Nat) (q0_diagonal : Nat) (q0_middle : Nat) (Rq0_lower : Nat → Nat) (q1 : Nat) (q2 : Nat) (n1 : Nat) (n2 : Nat) (vq0_lower : Nat → Nat → UInt64) (vq0_diagonal : Nat → UInt64) (vq0_middle : Nat → UInt64) (vq1 : Nat → UInt64) (vq2 : Nat → UInt64) (x3 : Int32) (rm : (Nat → UInt64) × (Nat → UInt64)) (h : s_Fm_solve n1 n2 vq0_lower vq0_diagonal vq0_middle vq1 vq2 x3 = some rm) : CtV l y_Fm_solve (Cond.code y_Fm_solve prog_2_method_5_code 8 none :: BIG) 0 0 D T [.ref q0, .ref q1, .ref q2, .int x3] (w_Fm_solve T q0 q0_entries q0_lower q0_diagonal q0_middle Rq0_lower q1 q2 n1 n2 vq0_lower vq0_diagonal vq0_middle vq1 vq2) (fun r => (w_Fm_solve T q0 q0_entries q0_lower q0_diagonal q0_middle Rq0_lower q1 q2 n1 n2 vq0_lower vq0_diagonal r.1 vq1 r.2)) rm := by
  refine cf_entry (y := y_Fm_solve) (cc := prog_2_method_5_code) (nL := 8) (ret := none) (fr := 0) (lo := 0) (T := T) (av := [.ref q0, .ref q1, .ref q2, .int x3]) (w := (w_Fm_solve T q0 q0_entries q0_lower q0_diagonal q0_middle Rq0_lower q1 q2 n1 n2 vq0_lower vq0_diagonal vq0_middle vq1 vq2)) (Qc := cfQv D (fun r => (w_Fm_solve T q0 q0_entries q0_lower q0_diagonal q0_middle Rq0_lower q1 q2 n1 n2 vq0_lower vq0_diagonal r.1 vq1 r.2)) rm) (by decide) rfl (Nat.le_of_ble_eq_true rfl) ?_
  intro p e s m args below meth c A Q H locs ls hx hb hr hlocks hml hown hts hNW hK hA hQ hP hD hS hl
  have hown : s.vm.findClass "ConeForge$FactoredMatrix" = some m.cls := hown
  have hl : lv_has ls 8 [(0, .ref q0), (1, .ref q1), (2, .ref q2), (3, .int x3)] := hl
  have L74 : ∀ (vq0_middle : Nat → UInt64) (vq2 : Nat → UInt64) (x3 : Int32) (x4 : Int32), ∀ (H : Heap) (locs : List Loc) (ls : Array Slot), va_P D CL (w_Fm_solve T q0 q0_entries q0_lower q0_diagonal q0_middle Rq0_lower q1 q2 n1 n2 vq0_lower vq0_diagonal vq0_middle vq1 vq2) H → va_D A (w_Fm_solve T q0 q0_entries q0_lower q0_diagonal q0_middle Rq0_lower q1 q2 n1 n2 vq0_lower vq0_diagonal vq0_middle vq1 vq2) → va_S A s.heap H locs → lv_has ls 8 [(0, .ref q0), (2, .ref q2), (3, .int x3), (4, .int x4)] → s_Fm_solve_L74 n1 n2 vq0_lower vq0_diagonal vq0_middle vq1 vq2 x3 x4 = some rm → W p l e (rmk 0 0) s m args below meth c H locs 0 0 Q (F0 m 74 ls []) := by
    intro vq0_middle vq2 x3 x4 H locs ls hP hD hS hl h
    unfold s_Fm_solve_L74 at h
    obtain ⟨ul74, hul74, h⟩ := bi_some h
    refine loopO_W (Wh := fun (st : (Nat → UInt64) × Int32) => ∀ (H : Heap) (locs : List Loc) (ls : Array Slot), va_P D CL (w_Fm_solve T q0 q0_entries q0_lower q0_diagonal q0_middle Rq0_lower q1 q2 n1 n2 vq0_lower vq0_diagonal vq0_middle vq1 st.1) H → va_D A (w_Fm_solve T q0 q0_entries q0_lower q0_diagonal q0_middle Rq0_lower q1 q2 n1 n2 vq0_lower vq0_diagonal vq0_middle vq1 st.1) → va_S A s.heap H locs → lv_has ls 8 [(0, .ref q0), (2, .ref q2), (3, .int x3), (4, .int st.2)] → W p l e (rmk 0 0) s m args below meth c H locs 0 0 Q (F0 m 74 ls [])) (Wx := fun (e1 : (Nat → UInt64)) => ∀ (H : Heap) (locs : List Loc) (ls : Array Slot), va_P D CL (w_Fm_solve T q0 q0_entries q0_lower q0_diagonal q0_middle Rq0_lower q1 q2 n1 n2 vq0_lower vq0_diagonal vq0_middle vq1 e1) H → va_D A (w_Fm_solve T q0 q0_entries q0_lower q0_diagonal q0_middle Rq0_lower q1 q2 n1 n2 vq0_lower vq0_diagonal vq0_middle vq1 e1) → va_S A s.heap H locs → lv_has ls 8 [] → W p l e (rmk 0 0) s m args below meth c H locs 0 0 Q (F0 m 146 ls [])) ?_ 2000 _ ul74 hul74 ?_ H locs ls hP hD hS hl
    · intro st rb74 h kc74 kx74 H locs ls hP hD hS hl
      obtain ⟨vq2, x4⟩ := st
      have h : s_Fm_solve_B74 n1 n2 vq0_lower vq0_diagonal vq0_middle vq1 x3 vq2 x4 = some rb74 := h
      have L102 : ∀ (vq2 : Nat → UInt64) (x4 : Int32) (x5 : UInt64) (x7 : Int32), ∀ (H : Heap) (locs : List Loc) (ls : Array Slot), va_P D CL (w_Fm_solve T q0 q0_entries q0_lower q0_diagonal q0_middle Rq0_lower q1 q2 n1 n2 vq0_lower vq0_diagonal vq0_middle vq1 vq2) H → va_D A (w_Fm_solve T q0 q0_entries q0_lower q0_diagonal q0_middle Rq0_lower q1 q2 n1 n2 vq0_lower vq0_diagonal vq0_middle vq1 vq2) → va_S A s.heap H locs → lv_has ls 8 [(0, .ref q0), (2, .ref q2), (3, .int x3), (4, .int x4), (5, .double x5), (7, .int x7)] → s_Fm_solve_L102 n1 n2 vq0_lower vq0_diagonal vq0_middle vq1 vq2 x3 x4 x5 x7 = some rb74 → W p l e (rmk 0 0) s m args below meth c H locs 0 0 Q (F0 m 102 ls []) := by
        intro vq2 x4 x5 x7 H locs ls hP hD hS hl h
        unfold s_Fm_solve_L102 at h
        obtain ⟨ul102, hul102, h⟩ := bi_some h
        refine loopO_W (Wh := fun (st : UInt64 × Int32) => ∀ (H : Heap) (locs : List Loc) (ls : Array Slot), va_P D CL (w_Fm_solve T q0 q0_entries q0_lower q0_diagonal q0_middle Rq0_lower q1 q2 n1 n2 vq0_lower vq0_diagonal vq0_middle vq1 vq2) H → va_D A (w_Fm_solve T q0 q0_entries q0_lower q0_diagonal q0_middle Rq0_lower q1 q2 n1 n2 vq0_lower vq0_diagonal vq0_middle vq1 vq2) → va_S A s.heap H locs → lv_has ls 8 [(0, .ref q0), (2, .ref q2), (3, .int x3), (4, .int x4), (5, .double st.1), (7, .int st.2)] → W p l e (rmk 0 0) s m args below meth c H locs 0 0 Q (F0 m 102 ls [])) (Wx := fun (e1 : UInt64) => ∀ (H : Heap) (locs : List Loc) (ls : Array Slot), va_P D CL (w_Fm_solve T q0 q0_entries q0_lower q0_diagonal q0_middle Rq0_lower q1 q2 n1 n2 vq0_lower vq0_diagonal vq0_middle vq1 vq2) H → va_D A (w_Fm_solve T q0 q0_entries q0_lower q0_diagonal q0_middle Rq0_lower q1 q2 n1 n2 vq0_lower vq0_diagonal vq0_middle vq1 vq2) → va_S A s.heap H locs → lv_has ls 8 [(0, .ref q0), (2, .ref q2), (3, .int x3), (4, .int x4), (5, .double e1)] → W p l e (rmk 0 0) s m args below meth c H locs 0 0 Q (F0 m 134 ls [])) ?_ 2000 _ ul102 hul102 ?_ H locs ls hP hD hS hl
        · intro st rb102 h kc102 kx102 H locs ls hP hD hS hl
          obtain ⟨x5, x7⟩ := st
          have h : s_Fm_solve_B102 n1 n2 vq0_lower vq0_diagonal vq0_middle vq1 vq2 x3 x4 x5 x7 = some rb102 := h
          unfold s_Fm_solve_B102 at h
          refine lv_iload hx hb d_Fm_solve_102 (lv_at hl 5 rfl) ?_
          refine lv_iload_n hx hb d_Fm_solve_104 rfl (lv_at hl 2 rfl) ?_
          refine lv_icmp_ge (tgt := 134) hx hb d_Fm_solve_105 (by decide) (fun c1 => ?_) (fun c1 => ?_)
          · have h := it_t c1 h
            exact kx102 _ (Option.some.inj h).symm H locs ls hP hD hS (lv_sub hl [0, 1, 2, 3, 4] rfl)
          · have h := it_f c1 h
            refine lv_dload hx hb d_Fm_solve_108 (lv_at hl 4 rfl) ?_
            refine lv_aload_n hx hb d_Fm_solve_110 rfl (lv_at hl 0 rfl) ?_
            refine va_get (D := D) (ci := 4) (v := .ref q0_lower) (C := "ConeForge$FactoredMatrix") (T := FFm) (N := 4) hx hb hts iFm hown hK hP 0 rfl rfl 1 (by decide) (hts _ (bgc bw199)) (fun _ h9 => h9) rfl d_Fm_solve_111 ?_
            refine lv_iload hx hb d_Fm_solve_114 (lv_at hl 5 rfl) ?_
            obtain ⟨g2, h⟩ := gd_some h
            refine va_aldg (f := Rq0_lower) hx hb hK hP 1 3 rfl rfl (inb_in g2) d_Fm_solve_116 ?_
            refine lv_iload hx hb d_Fm_solve_117 (lv_at hl 3 rfl) ?_
            obtain ⟨g3, h⟩ := gd_some h
            refine va_dald hx hb hK hP (2 + x7.toNatClampNeg) 0 (gk5 (P := fun k => (w_Fm_solve T q0 q0_entries q0_lower q0_diagonal q0_middle Rq0_lower q1 q2 n1 n2 vq0_lower vq0_diagonal vq0_middle vq1 vq2)[2 + k]? = some (Rq0_lower k, .inl (T 0, 5, .inr (.inr (.inr (.inl (vq0_lower k))))))) rfl rfl rfl rfl rfl _ (inb_lt g2)) rfl (inb_in g3) d_Fm_solve_119 ?_
            refine lv_aload_n hx hb d_Fm_solve_120 rfl (lv_at hl 1 rfl) ?_
            refine lv_iload hx hb d_Fm_solve_121 (lv_at hl 5 rfl) ?_
            obtain ⟨g4, h⟩ := gd_some h
            refine va_dald hx hb hK hP 10 0 rfl rfl (inb_in g4) d_Fm_solve_123 ?_
            obtain ⟨g5, h⟩ := gd_some h
            refine lv_dmul hx hb d_Fm_solve_124 (isn_n g5) ?_
            obtain ⟨g6, h⟩ := gd_some h
            refine lv_dsub hx hb d_Fm_solve_125 (isn_n g6) ?_
            refine lv_dstore (lv' := [(5, .double (FP.dsub x5 (FP.dmul (vq0_lower x7.toNatClampNeg x4.toNatClampNeg) (vq2 x7.toNatClampNeg)))), (0, .ref q0), (2, .ref q2), (3, .int x3), (4, .int x4), (7, .int x7)]) hx hb d_Fm_solve_126 hl (by decide) rfl (fun ls hl => ?_)
            refine lv_iinc (v := x7 + 1) (lv' := [(7, .int (x7 + 1)), (5, .double (FP.dsub x5 (FP.dmul (vq0_lower x7.toNatClampNeg x4.toNatClampNeg) (vq2 x7.toNatClampNeg)))), (0, .ref q0), (2, .ref q2), (3, .int x3), (4, .int x4)]) hx hb d_Fm_solve_128 hl (k := 5) rfl rfl (by decide) rfl (fun ls hl => ?_)
            refine lv_goto (tgt := 102) hx hb d_Fm_solve_131 (by decide) ?_
            exact kc102 _ (Option.some.inj h).symm H locs ls hP hD hS (lv_sub hl [2, 3, 4, 5, 1, 0] rfl)
        · intro H locs ls hP hD hS hl
          refine lv_aload_n hx hb d_Fm_solve_134 rfl (lv_at hl 1 rfl) ?_
          refine lv_iload hx hb d_Fm_solve_135 (lv_at hl 3 rfl) ?_
          refine lv_dload hx hb d_Fm_solve_137 (lv_at hl 4 rfl) ?_
          obtain ⟨g7, h⟩ := gd_some h
          refine va_dast hx hb hK hP hD hS 10 0 rfl rfl (inb_in g7) d_Fm_solve_139 (fun H locs hP hD hS => ?_)
          have hP : va_P D CL (w_Fm_solve T q0 q0_entries q0_lower q0_diagonal q0_middle Rq0_lower q1 q2 n1 n2 vq0_lower vq0_diagonal vq0_middle vq1 (vf_upd vq2 x4.toNatClampNeg ul102)) H := hP
          have hD : va_D A (w_Fm_solve T q0 q0_entries q0_lower q0_diagonal q0_middle Rq0_lower q1 q2 n1 n2 vq0_lower vq0_diagonal vq0_middle vq1 (vf_upd vq2 x4.toNatClampNeg ul102)) := hD
          refine lv_iinc (v := x4 + (-1)) (lv' := [(4, .int (x4 + (-1))), (0, .ref q0), (2, .ref q2), (3, .int x3), (5, .double ul102)]) hx hb d_Fm_solve_140 hl (k := 3) rfl rfl (by decide) rfl (fun ls hl => ?_)
          refine lv_goto (tgt := 74) hx hb d_Fm_solve_143 (by decide) ?_
          exact kc74 _ (Option.some.inj h).symm H locs ls hP hD hS (lv_sub hl [1, 2, 3, 0] rfl)
      unfold s_Fm_solve_B74 at h
      refine lv_iload hx hb d_Fm_solve_74 (lv_at hl 3 rfl) ?_
      refine lv_if_lt (tgt := 146) hx hb d_Fm_solve_76 (by decide) (fun c8 => ?_) (fun c8 => ?_)
      · have h := it_t c8 h
        exact kx74 _ (Option.some.inj h).symm H locs ls hP hD hS (lv_sub hl [] rfl)
      · have h := it_f c8 h
        refine lv_aload_n hx hb d_Fm_solve_79 rfl (lv_at hl 0 rfl) ?_
        refine va_get (D := D) (ci := 4) (v := .ref q0_middle) (C := "ConeForge$FactoredMatrix") (T := FFm) (N := 4) hx hb hts iFm hown hK hP 0 rfl rfl 3 (by decide) (hts _ (bgc bw201)) (fun _ h9 => h9) rfl d_Fm_solve_80 ?_
        refine lv_iload hx hb d_Fm_solve_83 (lv_at hl 3 rfl) ?_
        obtain ⟨g9, h⟩ := gd_some h
        refine va_dald hx hb hK hP 8 0 rfl rfl (inb_in g9) d_Fm_solve_85 ?_
        refine lv_aload_n hx hb d_Fm_solve_86 rfl (lv_at hl 0 rfl) ?_
        refine va_get (D := D) (ci := 4) (v := .ref q0_diagonal) (C := "ConeForge$FactoredMatrix") (T := FFm) (N := 4) hx hb hts iFm hown hK hP 0 rfl rfl 2 (by decide) (hts _ (bgc bw200)) (fun _ h9 => h9) rfl d_Fm_solve_87 ?_
        refine lv_iload hx hb d_Fm_solve_90 (lv_at hl 3 rfl) ?_
        obtain ⟨g10, h⟩ := gd_some h
        refine va_dald hx hb hK hP 7 0 rfl rfl (inb_in g10) d_Fm_solve_92 ?_
        obtain ⟨g11, h⟩ := gd_some h
        refine lv_ddiv hx hb d_Fm_solve_93 (isn_n g11) ?_
        refine lv_dstore (lv' := [(5, .double (FP.ddiv (vq0_middle x4.toNatClampNeg) (vq0_diagonal x4.toNatClampNeg))), (0, .ref q0), (2, .ref q2), (3, .int x3), (4, .int x4)]) hx hb d_Fm_solve_94 hl (by decide) rfl (fun ls hl => ?_)
        refine lv_iload hx hb d_Fm_solve_96 (lv_at hl 4 rfl) ?_
        refine lv_iconst (v := 1) hx hb d_Fm_solve_98 (by decide) ?_
        refine lv_iadd hx hb d_Fm_solve_99 ?_
        refine lv_istore (lv' := [(7, .int (x4 + 1)), (5, .double (FP.ddiv (vq0_middle x4.toNatClampNeg) (vq0_diagonal x4.toNatClampNeg))), (0, .ref q0), (2, .ref q2), (3, .int x3), (4, .int x4)]) hx hb d_Fm_solve_100 hl (by decide) rfl (fun ls hl => ?_)
        exact L102 vq2 x4 (FP.ddiv (vq0_middle x4.toNatClampNeg) (vq0_diagonal x4.toNatClampNeg)) (x4 + 1) H locs ls hP hD hS (lv_sub hl [2, 3, 4, 5, 1, 0] rfl) h
    · intro H locs ls hP hD hS hl
      exact rtV hx hb hr hlocks hQ (Option.some.inj h) hP hS d_Fm_solve_146 rfl
  have L3 : ∀ (vq0_middle : Nat → UInt64) (vq2 : Nat → UInt64) (x3 : Int32) (x4 : Int32), ∀ (H : Heap) (locs : List Loc) (ls : Array Slot), va_P D CL (w_Fm_solve T q0 q0_entries q0_lower q0_diagonal q0_middle Rq0_lower q1 q2 n1 n2 vq0_lower vq0_diagonal vq0_middle vq1 vq2) H → va_D A (w_Fm_solve T q0 q0_entries q0_lower q0_diagonal q0_middle Rq0_lower q1 q2 n1 n2 vq0_lower vq0_diagonal vq0_middle vq1 vq2) → va_S A s.heap H locs → lv_has ls 8 [(0, .ref q0), (1, .ref q1), (2, .ref q2), (3, .int x3), (4, .int x4)] → s_Fm_solve_L3 n1 n2 vq0_lower vq0_diagonal vq0_middle vq1 vq2 x3 x4 = some rm → W p l e (rmk 0 0) s m args below meth c H locs 0 0 Q (F0 m 3 ls []) := by
    intro vq0_middle vq2 x3 x4 H locs ls hP hD hS hl h
    unfold s_Fm_solve_L3 at h
    obtain ⟨ul3, hul3, h⟩ := bi_some h
    refine loopO_W (Wh := fun (st : (Nat → UInt64) × Int32) => ∀ (H : Heap) (locs : List Loc) (ls : Array Slot), va_P D CL (w_Fm_solve T q0 q0_entries q0_lower q0_diagonal q0_middle Rq0_lower q1 q2 n1 n2 vq0_lower vq0_diagonal st.1 vq1 vq2) H → va_D A (w_Fm_solve T q0 q0_entries q0_lower q0_diagonal q0_middle Rq0_lower q1 q2 n1 n2 vq0_lower vq0_diagonal st.1 vq1 vq2) → va_S A s.heap H locs → lv_has ls 8 [(0, .ref q0), (1, .ref q1), (2, .ref q2), (3, .int x3), (4, .int st.2)] → W p l e (rmk 0 0) s m args below meth c H locs 0 0 Q (F0 m 3 ls [])) (Wx := fun (e1 : (Nat → UInt64)) => ∀ (H : Heap) (locs : List Loc) (ls : Array Slot), va_P D CL (w_Fm_solve T q0 q0_entries q0_lower q0_diagonal q0_middle Rq0_lower q1 q2 n1 n2 vq0_lower vq0_diagonal e1 vq1 vq2) H → va_D A (w_Fm_solve T q0 q0_entries q0_lower q0_diagonal q0_middle Rq0_lower q1 q2 n1 n2 vq0_lower vq0_diagonal e1 vq1 vq2) → va_S A s.heap H locs → lv_has ls 8 [(0, .ref q0), (2, .ref q2), (3, .int x3)] → W p l e (rmk 0 0) s m args below meth c H locs 0 0 Q (F0 m 69 ls [])) ?_ 2000 _ ul3 hul3 ?_ H locs ls hP hD hS hl
    · intro st rb3 h kc3 kx3 H locs ls hP hD hS hl
      obtain ⟨vq0_middle, x4⟩ := st
      have h : s_Fm_solve_B3 n1 n2 vq0_lower vq0_diagonal vq1 vq2 x3 vq0_middle x4 = some rb3 := h
      have L18 : ∀ (vq0_middle : Nat → UInt64) (x4 : Int32) (x5 : UInt64) (x7 : Int32), ∀ (H : Heap) (locs : List Loc) (ls : Array Slot), va_P D CL (w_Fm_solve T q0 q0_entries q0_lower q0_diagonal q0_middle Rq0_lower q1 q2 n1 n2 vq0_lower vq0_diagonal vq0_middle vq1 vq2) H → va_D A (w_Fm_solve T q0 q0_entries q0_lower q0_diagonal q0_middle Rq0_lower q1 q2 n1 n2 vq0_lower vq0_diagonal vq0_middle vq1 vq2) → va_S A s.heap H locs → lv_has ls 8 [(0, .ref q0), (1, .ref q1), (2, .ref q2), (3, .int x3), (4, .int x4), (5, .double x5), (7, .int x7)] → s_Fm_solve_L18 n1 n2 vq0_lower vq0_diagonal vq0_middle vq1 vq2 x3 x4 x5 x7 = some rb3 → W p l e (rmk 0 0) s m args below meth c H locs 0 0 Q (F0 m 18 ls []) := by
        intro vq0_middle x4 x5 x7 H locs ls hP hD hS hl h
        unfold s_Fm_solve_L18 at h
        obtain ⟨ul18, hul18, h⟩ := bi_some h
        refine loopO_W (Wh := fun (st : UInt64 × Int32) => ∀ (H : Heap) (locs : List Loc) (ls : Array Slot), va_P D CL (w_Fm_solve T q0 q0_entries q0_lower q0_diagonal q0_middle Rq0_lower q1 q2 n1 n2 vq0_lower vq0_diagonal vq0_middle vq1 vq2) H → va_D A (w_Fm_solve T q0 q0_entries q0_lower q0_diagonal q0_middle Rq0_lower q1 q2 n1 n2 vq0_lower vq0_diagonal vq0_middle vq1 vq2) → va_S A s.heap H locs → lv_has ls 8 [(0, .ref q0), (1, .ref q1), (2, .ref q2), (3, .int x3), (4, .int x4), (5, .double st.1), (7, .int st.2)] → W p l e (rmk 0 0) s m args below meth c H locs 0 0 Q (F0 m 18 ls [])) (Wx := fun (e1 : UInt64) => ∀ (H : Heap) (locs : List Loc) (ls : Array Slot), va_P D CL (w_Fm_solve T q0 q0_entries q0_lower q0_diagonal q0_middle Rq0_lower q1 q2 n1 n2 vq0_lower vq0_diagonal vq0_middle vq1 vq2) H → va_D A (w_Fm_solve T q0 q0_entries q0_lower q0_diagonal q0_middle Rq0_lower q1 q2 n1 n2 vq0_lower vq0_diagonal vq0_middle vq1 vq2) → va_S A s.heap H locs → lv_has ls 8 [(0, .ref q0), (1, .ref q1), (2, .ref q2), (3, .int x3), (4, .int x4), (5, .double e1)] → W p l e (rmk 0 0) s m args below meth c H locs 0 0 Q (F0 m 54 ls [])) ?_ 2000 _ ul18 hul18 ?_ H locs ls hP hD hS hl
        · intro st rb18 h kc18 kx18 H locs ls hP hD hS hl
          obtain ⟨x5, x7⟩ := st
          have h : s_Fm_solve_B18 n1 n2 vq0_lower vq0_diagonal vq0_middle vq1 vq2 x3 x4 x5 x7 = some rb18 := h
          unfold s_Fm_solve_B18 at h
          refine lv_iload hx hb d_Fm_solve_18 (lv_at hl 6 rfl) ?_
          refine lv_iload hx hb d_Fm_solve_20 (lv_at hl 4 rfl) ?_
          refine lv_icmp_ge (tgt := 54) hx hb d_Fm_solve_22 (by decide) (fun c12 => ?_) (fun c12 => ?_)
          · have h := it_t c12 h
            exact kx18 _ (Option.some.inj h).symm H locs ls hP hD hS (lv_sub hl [0, 1, 2, 3, 4, 5] rfl)
          · have h := it_f c12 h
            refine lv_dload hx hb d_Fm_solve_25 (lv_at hl 5 rfl) ?_
            refine lv_aload_n hx hb d_Fm_solve_27 rfl (lv_at hl 0 rfl) ?_
            refine va_get (D := D) (ci := 4) (v := .ref q0_lower) (C := "ConeForge$FactoredMatrix") (T := FFm) (N := 4) hx hb hts iFm hown hK hP 0 rfl rfl 1 (by decide) (hts _ (bgc bw199)) (fun _ h9 => h9) rfl d_Fm_solve_28 ?_
            refine lv_iload hx hb d_Fm_solve_31 (lv_at hl 4 rfl) ?_
            obtain ⟨g13, h⟩ := gd_some h
            refine va_aldg (f := Rq0_lower) hx hb hK hP 1 3 rfl rfl (inb_in g13) d_Fm_solve_33 ?_
            refine lv_iload hx hb d_Fm_solve_34 (lv_at hl 6 rfl) ?_
            obtain ⟨g14, h⟩ := gd_some h
            refine va_dald hx hb hK hP (2 + x4.toNatClampNeg) 0 (gk5 (P := fun k => (w_Fm_solve T q0 q0_entries q0_lower q0_diagonal q0_middle Rq0_lower q1 q2 n1 n2 vq0_lower vq0_diagonal vq0_middle vq1 vq2)[2 + k]? = some (Rq0_lower k, .inl (T 0, 5, .inr (.inr (.inr (.inl (vq0_lower k))))))) rfl rfl rfl rfl rfl _ (inb_lt g13)) rfl (inb_in g14) d_Fm_solve_36 ?_
            refine lv_aload_n hx hb d_Fm_solve_37 rfl (lv_at hl 0 rfl) ?_
            refine va_get (D := D) (ci := 4) (v := .ref q0_middle) (C := "ConeForge$FactoredMatrix") (T := FFm) (N := 4) hx hb hts iFm hown hK hP 0 rfl rfl 3 (by decide) (hts _ (bgc bw201)) (fun _ h9 => h9) rfl d_Fm_solve_38 ?_
            refine lv_iload hx hb d_Fm_solve_41 (lv_at hl 6 rfl) ?_
            obtain ⟨g15, h⟩ := gd_some h
            refine va_dald hx hb hK hP 8 0 rfl rfl (inb_in g15) d_Fm_solve_43 ?_
            obtain ⟨g16, h⟩ := gd_some h
            refine lv_dmul hx hb d_Fm_solve_44 (isn_n g16) ?_
            obtain ⟨g17, h⟩ := gd_some h
            refine lv_dsub hx hb d_Fm_solve_45 (isn_n g17) ?_
            refine lv_dstore (lv' := [(5, .double (FP.dsub x5 (FP.dmul (vq0_lower x4.toNatClampNeg x7.toNatClampNeg) (vq0_middle x7.toNatClampNeg)))), (0, .ref q0), (1, .ref q1), (2, .ref q2), (3, .int x3), (4, .int x4), (7, .int x7)]) hx hb d_Fm_solve_46 hl (by decide) rfl (fun ls hl => ?_)
            refine lv_iinc (v := x7 + 1) (lv' := [(7, .int (x7 + 1)), (5, .double (FP.dsub x5 (FP.dmul (vq0_lower x4.toNatClampNeg x7.toNatClampNeg) (vq0_middle x7.toNatClampNeg)))), (0, .ref q0), (1, .ref q1), (2, .ref q2), (3, .int x3), (4, .int x4)]) hx hb d_Fm_solve_48 hl (k := 6) rfl rfl (by decide) rfl (fun ls hl => ?_)
            refine lv_goto (tgt := 18) hx hb d_Fm_solve_51 (by decide) ?_
            exact kc18 _ (Option.some.inj h).symm H locs ls hP hD hS (lv_sub hl [2, 3, 4, 5, 6, 1, 0] rfl)
        · intro H locs ls hP hD hS hl
          refine lv_aload_n hx hb d_Fm_solve_54 rfl (lv_at hl 0 rfl) ?_
          refine va_get (D := D) (ci := 4) (v := .ref q0_middle) (C := "ConeForge$FactoredMatrix") (T := FFm) (N := 4) hx hb hts iFm hown hK hP 0 rfl rfl 3 (by decide) (hts _ (bgc bw201)) (fun _ h9 => h9) rfl d_Fm_solve_55 ?_
          refine lv_iload hx hb d_Fm_solve_58 (lv_at hl 4 rfl) ?_
          refine lv_dload hx hb d_Fm_solve_60 (lv_at hl 5 rfl) ?_
          obtain ⟨g18, h⟩ := gd_some h
          refine va_dast hx hb hK hP hD hS 8 0 rfl rfl (inb_in g18) d_Fm_solve_62 (fun H locs hP hD hS => ?_)
          have hP : va_P D CL (w_Fm_solve T q0 q0_entries q0_lower q0_diagonal q0_middle Rq0_lower q1 q2 n1 n2 vq0_lower vq0_diagonal (vf_upd vq0_middle x4.toNatClampNeg ul18) vq1 vq2) H := hP
          have hD : va_D A (w_Fm_solve T q0 q0_entries q0_lower q0_diagonal q0_middle Rq0_lower q1 q2 n1 n2 vq0_lower vq0_diagonal (vf_upd vq0_middle x4.toNatClampNeg ul18) vq1 vq2) := hD
          refine lv_iinc (v := x4 + 1) (lv' := [(4, .int (x4 + 1)), (0, .ref q0), (1, .ref q1), (2, .ref q2), (3, .int x3), (5, .double ul18)]) hx hb d_Fm_solve_63 hl (k := 4) rfl rfl (by decide) rfl (fun ls hl => ?_)
          refine lv_goto (tgt := 3) hx hb d_Fm_solve_66 (by decide) ?_
          exact kc3 _ (Option.some.inj h).symm H locs ls hP hD hS (lv_sub hl [1, 2, 3, 4, 0] rfl)
      unfold s_Fm_solve_B3 at h
      refine lv_iload hx hb d_Fm_solve_3 (lv_at hl 4 rfl) ?_
      refine lv_iload_n hx hb d_Fm_solve_5 rfl (lv_at hl 3 rfl) ?_
      refine lv_icmp_ge (tgt := 69) hx hb d_Fm_solve_6 (by decide) (fun c19 => ?_) (fun c19 => ?_)
      · have h := it_t c19 h
        exact kx3 _ (Option.some.inj h).symm H locs ls hP hD hS (lv_sub hl [0, 2, 3] rfl)
      · have h := it_f c19 h
        refine lv_aload_n hx hb d_Fm_solve_9 rfl (lv_at hl 1 rfl) ?_
        refine lv_iload hx hb d_Fm_solve_10 (lv_at hl 4 rfl) ?_
        obtain ⟨g20, h⟩ := gd_some h
        refine va_dald hx hb hK hP 9 0 rfl rfl (inb_in g20) d_Fm_solve_12 ?_
        refine lv_dstore (lv' := [(5, .double (vq1 x4.toNatClampNeg)), (0, .ref q0), (1, .ref q1), (2, .ref q2), (3, .int x3), (4, .int x4)]) hx hb d_Fm_solve_13 hl (by decide) rfl (fun ls hl => ?_)
        refine lv_iconst (v := 0) hx hb d_Fm_solve_15 (by decide) ?_
        refine lv_istore (lv' := [(7, .int 0), (5, .double (vq1 x4.toNatClampNeg)), (0, .ref q0), (1, .ref q1), (2, .ref q2), (3, .int x3), (4, .int x4)]) hx hb d_Fm_solve_16 hl (by decide) rfl (fun ls hl => ?_)
        exact L18 vq0_middle x4 (vq1 x4.toNatClampNeg) 0 H locs ls hP hD hS (lv_sub hl [2, 3, 4, 5, 6, 1, 0] rfl) h
    · intro H locs ls hP hD hS hl
      refine lv_iload_n hx hb d_Fm_solve_69 rfl (lv_at hl 2 rfl) ?_
      refine lv_iconst (v := 1) hx hb d_Fm_solve_70 (by decide) ?_
      refine lv_isub hx hb d_Fm_solve_71 ?_
      refine lv_istore (lv' := [(4, .int (x3 - 1)), (0, .ref q0), (2, .ref q2), (3, .int x3)]) hx hb d_Fm_solve_72 hl (by decide) rfl (fun ls hl => ?_)
      exact L74 ul3 vq2 x3 (x3 - 1) H locs ls hP hD hS (lv_sub hl [1, 2, 3, 0] rfl) h
  unfold s_Fm_solve at h
  refine lv_iconst (v := 0) hx hb d_Fm_solve_0 (by decide) ?_
  refine lv_istore (lv' := [(4, .int 0), (0, .ref q0), (1, .ref q1), (2, .ref q2), (3, .int x3)]) hx hb d_Fm_solve_1 hl (by decide) rfl (fun ls hl => ?_)
  exact L3 vq0_middle vq2 x3 0 H locs ls hP hD hS (lv_sub hl [1, 2, 3, 4, 0] rfl) h
