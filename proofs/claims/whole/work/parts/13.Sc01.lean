theorem d_Sc_powerFor_0 : decode prog_6_method_5_code 0 = .ok (.dload_n 0, 1) := by decide +kernel
theorem d_Sc_powerFor_1 : decode prog_6_method_5_code 1 = .ok (.dconst 0, 1) := by decide +kernel
theorem d_Sc_powerFor_2 : decode prog_6_method_5_code 2 = .ok (.dcmp .g, 1) := by decide +kernel
theorem d_Sc_powerFor_3 : decode prog_6_method_5_code 3 = .ok (.ifCond .gt 5, 3) := by decide +kernel
theorem d_Sc_powerFor_6 : decode prog_6_method_5_code 6 = .ok (.dconst 1, 1) := by decide +kernel
theorem d_Sc_powerFor_7 : decode prog_6_method_5_code 7 = .ok (.dreturn, 1) := by decide +kernel
theorem d_Sc_powerFor_8 : decode prog_6_method_5_code 8 = .ok (.dconst 1, 1) := by decide +kernel
theorem d_Sc_powerFor_9 : decode prog_6_method_5_code 9 = .ok (.dload_n 0, 1) := by decide +kernel
theorem d_Sc_powerFor_10 : decode prog_6_method_5_code 10 = .ok (.ddiv, 1) := by decide +kernel
theorem d_Sc_powerFor_11 : decode prog_6_method_5_code 11 = .ok (.dstore_n 2, 1) := by decide +kernel
theorem d_Sc_powerFor_12 : decode prog_6_method_5_code 12 = .ok (.dconst 1, 1) := by decide +kernel
theorem d_Sc_powerFor_13 : decode prog_6_method_5_code 13 = .ok (.dstore 4, 2) := by decide +kernel
theorem d_Sc_powerFor_15 : decode prog_6_method_5_code 15 = .ok (.iconst 0, 1) := by decide +kernel
theorem d_Sc_powerFor_16 : decode prog_6_method_5_code 16 = .ok (.istore 6, 2) := by decide +kernel
theorem d_Sc_powerFor_18 : decode prog_6_method_5_code 18 = .ok (.iload 6, 2) := by decide +kernel
theorem d_Sc_powerFor_20 : decode prog_6_method_5_code 20 = .ok (.bipush 64, 2) := by decide +kernel
theorem d_Sc_powerFor_22 : decode prog_6_method_5_code 22 = .ok (.if_icmp .ge 24, 3) := by decide +kernel
theorem d_Sc_powerFor_25 : decode prog_6_method_5_code 25 = .ok (.dload 4, 2) := by decide +kernel
theorem d_Sc_powerFor_27 : decode prog_6_method_5_code 27 = .ok (.dload_n 2, 1) := by decide +kernel
theorem d_Sc_powerFor_28 : decode prog_6_method_5_code 28 = .ok (.dcmp .l, 1) := by decide +kernel
theorem d_Sc_powerFor_29 : decode prog_6_method_5_code 29 = .ok (.ifCond .le 17, 3) := by decide +kernel
theorem d_Sc_powerFor_32 : decode prog_6_method_5_code 32 = .ok (.dload 4, 2) := by decide +kernel
theorem d_Sc_powerFor_34 : decode prog_6_method_5_code 34 = .ok (.ldc2_w 59, 3) := by decide +kernel
theorem d_Sc_powerFor_37 : decode prog_6_method_5_code 37 = .ok (.ddiv, 1) := by decide +kernel
theorem d_Sc_powerFor_38 : decode prog_6_method_5_code 38 = .ok (.dstore 4, 2) := by decide +kernel
theorem d_Sc_powerFor_40 : decode prog_6_method_5_code 40 = .ok (.iinc 6 1, 3) := by decide +kernel
theorem d_Sc_powerFor_43 : decode prog_6_method_5_code 43 = .ok (.goto (-25), 3) := by decide +kernel
theorem d_Sc_powerFor_46 : decode prog_6_method_5_code 46 = .ok (.iconst 0, 1) := by decide +kernel
theorem d_Sc_powerFor_47 : decode prog_6_method_5_code 47 = .ok (.istore 6, 2) := by decide +kernel
theorem d_Sc_powerFor_49 : decode prog_6_method_5_code 49 = .ok (.iload 6, 2) := by decide +kernel
theorem d_Sc_powerFor_51 : decode prog_6_method_5_code 51 = .ok (.bipush 64, 2) := by decide +kernel
theorem d_Sc_powerFor_53 : decode prog_6_method_5_code 53 = .ok (.if_icmp .ge 28, 3) := by decide +kernel
theorem d_Sc_powerFor_56 : decode prog_6_method_5_code 56 = .ok (.dload 4, 2) := by decide +kernel
theorem d_Sc_powerFor_58 : decode prog_6_method_5_code 58 = .ok (.ldc2_w 59, 3) := by decide +kernel
theorem d_Sc_powerFor_61 : decode prog_6_method_5_code 61 = .ok (.dmul, 1) := by decide +kernel
theorem d_Sc_powerFor_62 : decode prog_6_method_5_code 62 = .ok (.dload_n 2, 1) := by decide +kernel
theorem d_Sc_powerFor_63 : decode prog_6_method_5_code 63 = .ok (.dcmp .g, 1) := by decide +kernel
theorem d_Sc_powerFor_64 : decode prog_6_method_5_code 64 = .ok (.ifCond .gt 17, 3) := by decide +kernel
theorem d_Sc_powerFor_67 : decode prog_6_method_5_code 67 = .ok (.dload 4, 2) := by decide +kernel
theorem d_Sc_powerFor_69 : decode prog_6_method_5_code 69 = .ok (.ldc2_w 59, 3) := by decide +kernel
theorem d_Sc_powerFor_72 : decode prog_6_method_5_code 72 = .ok (.dmul, 1) := by decide +kernel
theorem d_Sc_powerFor_73 : decode prog_6_method_5_code 73 = .ok (.dstore 4, 2) := by decide +kernel
theorem d_Sc_powerFor_75 : decode prog_6_method_5_code 75 = .ok (.iinc 6 1, 3) := by decide +kernel
theorem d_Sc_powerFor_78 : decode prog_6_method_5_code 78 = .ok (.goto (-29), 3) := by decide +kernel
theorem d_Sc_powerFor_81 : decode prog_6_method_5_code 81 = .ok (.dload 4, 2) := by decide +kernel
theorem d_Sc_powerFor_83 : decode prog_6_method_5_code 83 = .ok (.dreturn, 1) := by decide +kernel
abbrev w_Sc_powerFor (T : Nat → ClassId)   : va_W := []
def s_Sc_powerFor_B49 (x2 : UInt64) (x4 : UInt64) (x6 : Int32) : Option ((UInt64 × Int32) ⊕ (UInt64)) :=
  if 64 ≤ x6 then (some (.inr x4)) else (gd (isn (FP.dmul x4 4611686018427387904)) <| if 0 < (Op.cmpValue (FP.dcmp (FP.dmul x4 4611686018427387904) x2) .g) then (some (.inr x4)) else (gd (isn (FP.dmul x4 4611686018427387904)) <| some (.inl (FP.dmul x4 4611686018427387904, x6 + 1))))
def s_Sc_powerFor_L49 (x2 : UInt64) (x4 : UInt64) (x6 : Int32) : Option (UInt64) :=
  (loopO (fun (st : UInt64 × Int32) => s_Sc_powerFor_B49 x2 st.1 st.2) 2000 (x4, x6)).bind fun ul49 => some ul49
def s_Sc_powerFor_J46 (x2 : UInt64) (x4 : UInt64) : Option (UInt64) :=
  s_Sc_powerFor_L49 x2 x4 0
def s_Sc_powerFor_B18 (x2 : UInt64) (x4 : UInt64) (x6 : Int32) : Option ((UInt64 × Int32) ⊕ (UInt64)) :=
  if 64 ≤ x6 then (some (.inr x4)) else (if (Op.cmpValue (FP.dcmp x4 x2) .l) ≤ 0 then (some (.inr x4)) else (gd (isn (FP.ddiv x4 4611686018427387904)) <| some (.inl (FP.ddiv x4 4611686018427387904, x6 + 1))))
def s_Sc_powerFor_L18 (x2 : UInt64) (x4 : UInt64) (x6 : Int32) : Option (UInt64) :=
  (loopO (fun (st : UInt64 × Int32) => s_Sc_powerFor_B18 x2 st.1 st.2) 2000 (x4, x6)).bind fun ul18 => s_Sc_powerFor_J46 x2 ul18
def s_Sc_powerFor (x0 : UInt64) : Option (UInt64) :=
  if 0 < (Op.cmpValue (FP.dcmp x0 FP.dconst0) .g) then (gd (isn (FP.ddiv FP.dconst1 x0)) <| s_Sc_powerFor_L18 (FP.ddiv FP.dconst1 x0) FP.dconst1 0) else (some FP.dconst1)
set_option maxHeartbeats 40000000 in
set_option maxRecDepth 100000 in
theorem c_Sc_powerFor (l : Launch) (D : va_G) (T : Nat → ClassId) (x0 : UInt64) (rm : UInt64) (h : s_Sc_powerFor x0 = some rm) : CtD l y_Sc_powerFor (Cond.code y_Sc_powerFor prog_6_method_5_code 7 (some .double) :: BIG) 0 0 D T [.double x0] (w_Sc_powerFor T  ) (fun r => r) (fun r => (w_Sc_powerFor T  )) rm := by
  refine cf_entry (y := y_Sc_powerFor) (cc := prog_6_method_5_code) (nL := 7) (ret := (some .double)) (fr := 0) (lo := 0) (T := T) (av := [.double x0]) (w := (w_Sc_powerFor T  )) (Qc := cfQd D (fun r => r) (fun r => (w_Sc_powerFor T  )) rm) (by decide) rfl (Nat.le_of_ble_eq_true rfl) ?_
  intro p e s m args below meth c A Q H locs ls hx hb hr hlocks hml hown hts hNW hK hA hQ hP hD hS hl
  have hown : s.vm.findClass "ConeForge$Scales" = some m.cls := hown
  have hl : lv_has ls 7 [(0, .double x0)] := hl
  have L49 : ∀ (x2 : UInt64) (x4 : UInt64) (x6 : Int32), ∀ (H : Heap) (locs : List Loc) (ls : Array Slot), va_P D CL (w_Sc_powerFor T  ) H → va_D A (w_Sc_powerFor T  ) → va_S A s.heap H locs → lv_has ls 7 [(2, .double x2), (4, .double x4), (6, .int x6)] → s_Sc_powerFor_L49 x2 x4 x6 = some rm → W p l e (rmk 0 0) s m args below meth c H locs 0 0 Q (F0 m 49 ls []) := by
    intro x2 x4 x6 H locs ls hP hD hS hl h
    unfold s_Sc_powerFor_L49 at h
    obtain ⟨ul49, hul49, h⟩ := bi_some h
    refine loopO_W (Wh := fun (st : UInt64 × Int32) => ∀ (H : Heap) (locs : List Loc) (ls : Array Slot), va_P D CL (w_Sc_powerFor T  ) H → va_D A (w_Sc_powerFor T  ) → va_S A s.heap H locs → lv_has ls 7 [(2, .double x2), (4, .double st.1), (6, .int st.2)] → W p l e (rmk 0 0) s m args below meth c H locs 0 0 Q (F0 m 49 ls [])) (Wx := fun (e1 : UInt64) => ∀ (H : Heap) (locs : List Loc) (ls : Array Slot), va_P D CL (w_Sc_powerFor T  ) H → va_D A (w_Sc_powerFor T  ) → va_S A s.heap H locs → lv_has ls 7 [(4, .double e1)] → W p l e (rmk 0 0) s m args below meth c H locs 0 0 Q (F0 m 81 ls [])) ?_ 2000 _ ul49 hul49 ?_ H locs ls hP hD hS hl
    · intro st rb49 h kc49 kx49 H locs ls hP hD hS hl
      obtain ⟨x4, x6⟩ := st
      have h : s_Sc_powerFor_B49 x2 x4 x6 = some rb49 := h
      unfold s_Sc_powerFor_B49 at h
      refine lv_iload hx hb d_Sc_powerFor_49 (lv_at hl 2 rfl) ?_
      refine lv_bipush (v := 64) hx hb d_Sc_powerFor_51 (by decide) ?_
      refine lv_icmp_ge (tgt := 81) hx hb d_Sc_powerFor_53 (by decide) (fun c1 => ?_) (fun c1 => ?_)
      · have h := it_t c1 h
        exact kx49 _ (Option.some.inj h).symm H locs ls hP hD hS (lv_sub hl [1] rfl)
      · have h := it_f c1 h
        refine lv_dload hx hb d_Sc_powerFor_56 (lv_at hl 1 rfl) ?_
        refine lv_ldc2d (v := 4611686018427387904) hx hb hown (hts _ (bgc bw312)) d_Sc_powerFor_58 ?_
        obtain ⟨g2, h⟩ := gd_some h
        refine lv_dmul hx hb d_Sc_powerFor_61 (isn_n g2) ?_
        refine lv_dload_n hx hb d_Sc_powerFor_62 rfl (lv_at hl 0 rfl) ?_
        refine lv_dcmp hx hb d_Sc_powerFor_63 ?_
        refine lv_if_gt (tgt := 81) hx hb d_Sc_powerFor_64 (by decide) (fun c3 => ?_) (fun c3 => ?_)
        · have h := it_t c3 h
          exact kx49 _ (Option.some.inj h).symm H locs ls hP hD hS (lv_sub hl [1] rfl)
        · have h := it_f c3 h
          refine lv_dload hx hb d_Sc_powerFor_67 (lv_at hl 1 rfl) ?_
          refine lv_ldc2d (v := 4611686018427387904) hx hb hown (hts _ (bgc bw312)) d_Sc_powerFor_69 ?_
          obtain ⟨g4, h⟩ := gd_some h
          refine lv_dmul hx hb d_Sc_powerFor_72 (isn_n g4) ?_
          refine lv_dstore (lv' := [(4, .double (FP.dmul x4 4611686018427387904)), (2, .double x2), (6, .int x6)]) hx hb d_Sc_powerFor_73 hl (by decide) rfl (fun ls hl => ?_)
          refine lv_iinc (v := x6 + 1) (lv' := [(6, .int (x6 + 1)), (4, .double (FP.dmul x4 4611686018427387904)), (2, .double x2)]) hx hb d_Sc_powerFor_75 hl (k := 2) rfl rfl (by decide) rfl (fun ls hl => ?_)
          refine lv_goto (tgt := 49) hx hb d_Sc_powerFor_78 (by decide) ?_
          exact kc49 _ (Option.some.inj h).symm H locs ls hP hD hS (lv_sub hl [2, 1, 0] rfl)
    · intro H locs ls hP hD hS hl
      refine lv_dload hx hb d_Sc_powerFor_81 (lv_at hl 0 rfl) ?_
      exact rtD hx hb hr hlocks hQ (Option.some.inj h) hP hS d_Sc_powerFor_83 rfl rfl
  have J46 : ∀ (x2 : UInt64) (x4 : UInt64), ∀ (H : Heap) (locs : List Loc) (ls : Array Slot), va_P D CL (w_Sc_powerFor T  ) H → va_D A (w_Sc_powerFor T  ) → va_S A s.heap H locs → lv_has ls 7 [(2, .double x2), (4, .double x4)] → s_Sc_powerFor_J46 x2 x4 = some rm → W p l e (rmk 0 0) s m args below meth c H locs 0 0 Q (F0 m 46 ls []) := by
    intro x2 x4 H locs ls hP hD hS hl h
    unfold s_Sc_powerFor_J46 at h
    refine lv_iconst (v := 0) hx hb d_Sc_powerFor_46 (by decide) ?_
    refine lv_istore (lv' := [(6, .int 0), (2, .double x2), (4, .double x4)]) hx hb d_Sc_powerFor_47 hl (by decide) rfl (fun ls hl => ?_)
    exact L49 x2 x4 0 H locs ls hP hD hS (lv_sub hl [1, 2, 0] rfl) h
  have L18 : ∀ (x2 : UInt64) (x4 : UInt64) (x6 : Int32), ∀ (H : Heap) (locs : List Loc) (ls : Array Slot), va_P D CL (w_Sc_powerFor T  ) H → va_D A (w_Sc_powerFor T  ) → va_S A s.heap H locs → lv_has ls 7 [(2, .double x2), (4, .double x4), (6, .int x6)] → s_Sc_powerFor_L18 x2 x4 x6 = some rm → W p l e (rmk 0 0) s m args below meth c H locs 0 0 Q (F0 m 18 ls []) := by
    intro x2 x4 x6 H locs ls hP hD hS hl h
    unfold s_Sc_powerFor_L18 at h
    obtain ⟨ul18, hul18, h⟩ := bi_some h
    refine loopO_W (Wh := fun (st : UInt64 × Int32) => ∀ (H : Heap) (locs : List Loc) (ls : Array Slot), va_P D CL (w_Sc_powerFor T  ) H → va_D A (w_Sc_powerFor T  ) → va_S A s.heap H locs → lv_has ls 7 [(2, .double x2), (4, .double st.1), (6, .int st.2)] → W p l e (rmk 0 0) s m args below meth c H locs 0 0 Q (F0 m 18 ls [])) (Wx := fun (e1 : UInt64) => ∀ (H : Heap) (locs : List Loc) (ls : Array Slot), va_P D CL (w_Sc_powerFor T  ) H → va_D A (w_Sc_powerFor T  ) → va_S A s.heap H locs → lv_has ls 7 [(2, .double x2), (4, .double e1)] → W p l e (rmk 0 0) s m args below meth c H locs 0 0 Q (F0 m 46 ls [])) ?_ 2000 _ ul18 hul18 ?_ H locs ls hP hD hS hl
    · intro st rb18 h kc18 kx18 H locs ls hP hD hS hl
      obtain ⟨x4, x6⟩ := st
      have h : s_Sc_powerFor_B18 x2 x4 x6 = some rb18 := h
      unfold s_Sc_powerFor_B18 at h
      refine lv_iload hx hb d_Sc_powerFor_18 (lv_at hl 2 rfl) ?_
      refine lv_bipush (v := 64) hx hb d_Sc_powerFor_20 (by decide) ?_
      refine lv_icmp_ge (tgt := 46) hx hb d_Sc_powerFor_22 (by decide) (fun c5 => ?_) (fun c5 => ?_)
      · have h := it_t c5 h
        exact kx18 _ (Option.some.inj h).symm H locs ls hP hD hS (lv_sub hl [0, 1] rfl)
      · have h := it_f c5 h
        refine lv_dload hx hb d_Sc_powerFor_25 (lv_at hl 1 rfl) ?_
        refine lv_dload_n hx hb d_Sc_powerFor_27 rfl (lv_at hl 0 rfl) ?_
        refine lv_dcmp hx hb d_Sc_powerFor_28 ?_
        refine lv_if_le (tgt := 46) hx hb d_Sc_powerFor_29 (by decide) (fun c6 => ?_) (fun c6 => ?_)
        · have h := it_t c6 h
          exact kx18 _ (Option.some.inj h).symm H locs ls hP hD hS (lv_sub hl [0, 1] rfl)
        · have h := it_f c6 h
          refine lv_dload hx hb d_Sc_powerFor_32 (lv_at hl 1 rfl) ?_
          refine lv_ldc2d (v := 4611686018427387904) hx hb hown (hts _ (bgc bw312)) d_Sc_powerFor_34 ?_
          obtain ⟨g7, h⟩ := gd_some h
          refine lv_ddiv hx hb d_Sc_powerFor_37 (isn_n g7) ?_
          refine lv_dstore (lv' := [(4, .double (FP.ddiv x4 4611686018427387904)), (2, .double x2), (6, .int x6)]) hx hb d_Sc_powerFor_38 hl (by decide) rfl (fun ls hl => ?_)
          refine lv_iinc (v := x6 + 1) (lv' := [(6, .int (x6 + 1)), (4, .double (FP.ddiv x4 4611686018427387904)), (2, .double x2)]) hx hb d_Sc_powerFor_40 hl (k := 2) rfl rfl (by decide) rfl (fun ls hl => ?_)
          refine lv_goto (tgt := 18) hx hb d_Sc_powerFor_43 (by decide) ?_
          exact kc18 _ (Option.some.inj h).symm H locs ls hP hD hS (lv_sub hl [2, 1, 0] rfl)
    · intro H locs ls hP hD hS hl
      exact J46 x2 ul18 H locs ls hP hD hS (lv_sub hl [0, 1] rfl) h
  unfold s_Sc_powerFor at h
  refine lv_dload_n hx hb d_Sc_powerFor_0 rfl (lv_at hl 0 rfl) ?_
  refine lv_dconst0 hx hb d_Sc_powerFor_1 ?_
  refine lv_dcmp hx hb d_Sc_powerFor_2 ?_
  refine lv_if_gt (tgt := 8) hx hb d_Sc_powerFor_3 (by decide) (fun c8 => ?_) (fun c8 => ?_)
  · have h := it_t c8 h
    refine lv_dconst1 hx hb d_Sc_powerFor_8 ?_
    refine lv_dload_n hx hb d_Sc_powerFor_9 rfl (lv_at hl 0 rfl) ?_
    obtain ⟨g9, h⟩ := gd_some h
    refine lv_ddiv hx hb d_Sc_powerFor_10 (isn_n g9) ?_
    refine lv_dstore_n (lv' := [(2, .double (FP.ddiv FP.dconst1 x0)), (0, .double x0)]) hx hb d_Sc_powerFor_11 rfl hl (by decide) rfl (fun ls hl => ?_)
    refine lv_dconst1 hx hb d_Sc_powerFor_12 ?_
    refine lv_dstore (lv' := [(4, .double FP.dconst1), (2, .double (FP.ddiv FP.dconst1 x0)), (0, .double x0)]) hx hb d_Sc_powerFor_13 hl (by decide) rfl (fun ls hl => ?_)
    refine lv_iconst (v := 0) hx hb d_Sc_powerFor_15 (by decide) ?_
    refine lv_istore (lv' := [(6, .int 0), (4, .double FP.dconst1), (2, .double (FP.ddiv FP.dconst1 x0)), (0, .double x0)]) hx hb d_Sc_powerFor_16 hl (by decide) rfl (fun ls hl => ?_)
    exact L18 (FP.ddiv FP.dconst1 x0) FP.dconst1 0 H locs ls hP hD hS (lv_sub hl [2, 1, 0] rfl) h
  · have h := it_f c8 h
    refine lv_dconst1 hx hb d_Sc_powerFor_6 ?_
    exact rtD hx hb hr hlocks hQ (Option.some.inj h) hP hS d_Sc_powerFor_7 rfl rfl
theorem d_Sc_measureRows_0 : decode prog_6_method_3_code 0 = .ok (.iconst 0, 1) := by decide +kernel
theorem d_Sc_measureRows_1 : decode prog_6_method_3_code 1 = .ok (.istore_n 2, 1) := by decide +kernel
theorem d_Sc_measureRows_2 : decode prog_6_method_3_code 2 = .ok (.iload_n 2, 1) := by decide +kernel
theorem d_Sc_measureRows_3 : decode prog_6_method_3_code 3 = .ok (.aload_n 1, 1) := by decide +kernel
theorem d_Sc_measureRows_4 : decode prog_6_method_3_code 4 = .ok (.getfield 31, 3) := by decide +kernel
theorem d_Sc_measureRows_7 : decode prog_6_method_3_code 7 = .ok (.if_icmp .ge 31, 3) := by decide +kernel
theorem d_Sc_measureRows_10 : decode prog_6_method_3_code 10 = .ok (.aload_n 0, 1) := by decide +kernel
theorem d_Sc_measureRows_11 : decode prog_6_method_3_code 11 = .ok (.getfield 9, 3) := by decide +kernel
theorem d_Sc_measureRows_14 : decode prog_6_method_3_code 14 = .ok (.iload_n 2, 1) := by decide +kernel
theorem d_Sc_measureRows_15 : decode prog_6_method_3_code 15 = .ok (.aload_n 1, 1) := by decide +kernel
theorem d_Sc_measureRows_16 : decode prog_6_method_3_code 16 = .ok (.getfield 37, 3) := by decide +kernel
theorem d_Sc_measureRows_19 : decode prog_6_method_3_code 19 = .ok (.iload_n 2, 1) := by decide +kernel
theorem d_Sc_measureRows_20 : decode prog_6_method_3_code 20 = .ok (.aaload, 1) := by decide +kernel
theorem d_Sc_measureRows_21 : decode prog_6_method_3_code 21 = .ok (.aload_n 1, 1) := by decide +kernel
theorem d_Sc_measureRows_22 : decode prog_6_method_3_code 22 = .ok (.getfield 41, 3) := by decide +kernel
theorem d_Sc_measureRows_25 : decode prog_6_method_3_code 25 = .ok (.invokestatic 44, 3) := by decide +kernel
theorem d_Sc_measureRows_28 : decode prog_6_method_3_code 28 = .ok (.invokestatic 48, 3) := by decide +kernel
theorem d_Sc_measureRows_31 : decode prog_6_method_3_code 31 = .ok (.dastore, 1) := by decide +kernel
theorem d_Sc_measureRows_32 : decode prog_6_method_3_code 32 = .ok (.iinc 2 1, 3) := by decide +kernel
theorem d_Sc_measureRows_35 : decode prog_6_method_3_code 35 = .ok (.goto (-33), 3) := by decide +kernel
theorem d_Sc_measureRows_38 : decode prog_6_method_3_code 38 = .ok (.return_, 1) := by decide +kernel
abbrev w_Sc_measureRows (T : Nat → ClassId) (q0 : Nat) (q0_ofRows : Nat) (q0_ofVariables : Nat) (q1 : Nat) (q1_a : Nat) (q1_b : Nat) (q1_c : Nat) (Rq1_a : Nat → Nat) (vq0_ofRows : Nat → UInt64) (vq1_rows : Int32) (vq1_variables : Int32) (vq1_a : Nat → Nat → UInt64) : va_W := [(q0, .inr (2, [.ref q0_ofRows, .ref q0_ofVariables])), (q0_ofRows, .inl (T 0, 5, .inr (.inr (.inr (.inl vq0_ofRows))))), (q1, .inr (0, [.int vq1_rows, .int vq1_variables, .ref q1_a, .ref q1_b, .ref q1_c])), (q1_a, .inl (T 3, 5, .inr (.inr (.inr (.inr (fun i => some (Rq1_a i))))))), (Rq1_a 0, .inl (T 0, 8, .inr (.inr (.inr (.inl (vq1_a 0)))))), (Rq1_a 1, .inl (T 0, 8, .inr (.inr (.inr (.inl (vq1_a 1)))))), (Rq1_a 2, .inl (T 0, 8, .inr (.inr (.inr (.inl (vq1_a 2)))))), (Rq1_a 3, .inl (T 0, 8, .inr (.inr (.inr (.inl (vq1_a 3)))))), (Rq1_a 4, .inl (T 0, 8, .inr (.inr (.inr (.inl (vq1_a 4))))))]
def s_Sc_measureRows_B2 (vq1_rows : Int32) (vq1_variables : Int32) (vq1_a : Nat → Nat → UInt64) (vq0_ofRows : Nat → UInt64) (x2 : Int32) : Option (((Nat → UInt64) × Int32) ⊕ ((Nat → UInt64))) :=
  if vq1_rows ≤ x2 then (some (.inr vq0_ofRows)) else (gd (inb x2 5) <| (s_C_greatestOf 8 (vq1_a x2.toNatClampNeg) vq1_variables).bind fun u3 => (s_Sc_powerFor u3).bind fun u5 => gd (inb x2 5) <| some (.inl (vf_upd vq0_ofRows x2.toNatClampNeg u5, x2 + 1)))
def s_Sc_measureRows_L2 (vq0_ofRows : Nat → UInt64) (vq1_rows : Int32) (vq1_variables : Int32) (vq1_a : Nat → Nat → UInt64) (x2 : Int32) : Option ((Nat → UInt64)) :=
  (loopO (fun (st : (Nat → UInt64) × Int32) => s_Sc_measureRows_B2 vq1_rows vq1_variables vq1_a st.1 st.2) 2000 (vq0_ofRows, x2)).bind fun ul2 => some ul2
def s_Sc_measureRows (vq0_ofRows : Nat → UInt64) (vq1_rows : Int32) (vq1_variables : Int32) (vq1_a : Nat → Nat → UInt64) : Option ((Nat → UInt64)) :=
  s_Sc_measureRows_L2 vq0_ofRows vq1_rows vq1_variables vq1_a 0
set_option maxRecDepth 100000 in
theorem j_Sc_measureRows_28 (T : Nat → ClassId) (q0 : Nat) (q0_ofRows : Nat) (q0_ofVariables : Nat) (q1 : Nat) (q1_a : Nat) (q1_b : Nat) (q1_c : Nat) (Rq1_a : Nat → Nat) (vq0_ofRows : Nat → UInt64) (vq1_rows : Int32) (vq1_variables : Int32) (vq1_a : Nat → Nat → UInt64) : ([].map (fun (i : Nat) => (w_Sc_measureRows T q0 q0_ofRows q0_ofVariables q1 q1_a q1_b q1_c Rq1_a vq0_ofRows vq1_rows vq1_variables vq1_a)[i]?) = (w_Sc_powerFor T  ).map some) ∧ ([].map (fun (i : Nat) => (w_Sc_measureRows T q0 q0_ofRows q0_ofVariables q1 q1_a q1_b q1_c Rq1_a vq0_ofRows vq1_rows vq1_variables vq1_a)[i]?) = (w_Sc_powerFor T  ).map some) ∧ ([0, 1, 2, 3, 4, 5, 6, 7, 8].map (fun (i : Nat) => (w_Sc_measureRows T q0 q0_ofRows q0_ofVariables q1 q1_a q1_b q1_c Rq1_a vq0_ofRows vq1_rows vq1_variables vq1_a)[i]?) = [0, 1, 2, 3, 4, 5, 6, 7, 8].map (fun (i : Nat) => (w_Sc_measureRows T q0 q0_ofRows q0_ofVariables q1 q1_a q1_b q1_c Rq1_a vq0_ofRows vq1_rows vq1_variables vq1_a)[i]?)) ∧ (w_Sc_powerFor T  ).map Prod.fst = (w_Sc_powerFor T  ).map Prod.fst ∧ (w_Sc_measureRows T q0 q0_ofRows q0_ofVariables q1 q1_a q1_b q1_c Rq1_a vq0_ofRows vq1_rows vq1_variables vq1_a).length = 9 :=
  ⟨rfl, rfl, Eq.trans (b := ([some (q0, .inr (2, [.ref q0_ofRows, .ref q0_ofVariables])), some (q0_ofRows, .inl (T 0, 5, .inr (.inr (.inr (.inl vq0_ofRows))))), some (q1, .inr (0, [.int vq1_rows, .int vq1_variables, .ref q1_a, .ref q1_b, .ref q1_c])), some (q1_a, .inl (T 3, 5, .inr (.inr (.inr (.inr (fun i => some (Rq1_a i))))))), some (Rq1_a 0, .inl (T 0, 8, .inr (.inr (.inr (.inl (vq1_a 0)))))), some (Rq1_a 1, .inl (T 0, 8, .inr (.inr (.inr (.inl (vq1_a 1)))))), some (Rq1_a 2, .inl (T 0, 8, .inr (.inr (.inr (.inl (vq1_a 2)))))), some (Rq1_a 3, .inl (T 0, 8, .inr (.inr (.inr (.inl (vq1_a 3)))))), some (Rq1_a 4, .inl (T 0, 8, .inr (.inr (.inr (.inl (vq1_a 4))))))] : List (Option (Nat × va_E)))) rfl rfl, rfl, rfl⟩
set_option maxHeartbeats 40000000 in
set_option maxRecDepth 100000 in
theorem c_Sc_measureRows (l : Launch) (D : va_G) (T : Nat → ClassId) (q0 : Nat) (q0_ofRows : Nat) (q0_ofVariables : Nat) (q1 : Nat) (q1_a : Nat) (q1_b : Nat) (q1_c : Nat) (Rq1_a : Nat → Nat) (vq0_ofRows : Nat → UInt64) (vq1_rows : Int32) (vq1_variables : Int32) (vq1_a : Nat → Nat → UInt64) (rm : (Nat → UInt64)) (h : s_Sc_measureRows vq0_ofRows vq1_rows vq1_variables vq1_a = some rm) : CtV l y_Sc_measureRows (Cond.code y_Sc_measureRows prog_6_method_3_code 3 none :: BIG) 2 47 D T [.ref q0, .ref q1] (w_Sc_measureRows T q0 q0_ofRows q0_ofVariables q1 q1_a q1_b q1_c Rq1_a vq0_ofRows vq1_rows vq1_variables vq1_a) (fun r => (w_Sc_measureRows T q0 q0_ofRows q0_ofVariables q1 q1_a q1_b q1_c Rq1_a r vq1_rows vq1_variables vq1_a)) rm := by
  refine cf_entry (y := y_Sc_measureRows) (cc := prog_6_method_3_code) (nL := 3) (ret := none) (fr := 2) (lo := 47) (T := T) (av := [.ref q0, .ref q1]) (w := (w_Sc_measureRows T q0 q0_ofRows q0_ofVariables q1 q1_a q1_b q1_c Rq1_a vq0_ofRows vq1_rows vq1_variables vq1_a)) (Qc := cfQv D (fun r => (w_Sc_measureRows T q0 q0_ofRows q0_ofVariables q1 q1_a q1_b q1_c Rq1_a r vq1_rows vq1_variables vq1_a)) rm) (by decide) rfl (Nat.le_of_ble_eq_true rfl) ?_
  intro p e s m args below meth c A Q H locs ls hx hb hr hlocks hml hown hts hNW hK hA hQ hP hD hS hl
  have hown : s.vm.findClass "ConeForge$Scales" = some m.cls := hown
  have hl : lv_has ls 3 [(0, .ref q0), (1, .ref q1)] := hl
  have L2 : ∀ (vq0_ofRows : Nat → UInt64) (x2 : Int32), ∀ (H : Heap) (locs : List Loc) (ls : Array Slot), va_P D CL (w_Sc_measureRows T q0 q0_ofRows q0_ofVariables q1 q1_a q1_b q1_c Rq1_a vq0_ofRows vq1_rows vq1_variables vq1_a) H → va_D A (w_Sc_measureRows T q0 q0_ofRows q0_ofVariables q1 q1_a q1_b q1_c Rq1_a vq0_ofRows vq1_rows vq1_variables vq1_a) → va_S A s.heap H locs → lv_has ls 3 [(0, .ref q0), (1, .ref q1), (2, .int x2)] → s_Sc_measureRows_L2 vq0_ofRows vq1_rows vq1_variables vq1_a x2 = some rm → W p l e (rmk 2 47) s m args below meth c H locs 0 0 Q (F0 m 2 ls []) := by
    intro vq0_ofRows x2 H locs ls hP hD hS hl h
    unfold s_Sc_measureRows_L2 at h
    obtain ⟨ul2, hul2, h⟩ := bi_some h
    refine loopO_W (Wh := fun (st : (Nat → UInt64) × Int32) => ∀ (H : Heap) (locs : List Loc) (ls : Array Slot), va_P D CL (w_Sc_measureRows T q0 q0_ofRows q0_ofVariables q1 q1_a q1_b q1_c Rq1_a st.1 vq1_rows vq1_variables vq1_a) H → va_D A (w_Sc_measureRows T q0 q0_ofRows q0_ofVariables q1 q1_a q1_b q1_c Rq1_a st.1 vq1_rows vq1_variables vq1_a) → va_S A s.heap H locs → lv_has ls 3 [(0, .ref q0), (1, .ref q1), (2, .int st.2)] → W p l e (rmk 2 47) s m args below meth c H locs 0 0 Q (F0 m 2 ls [])) (Wx := fun (e1 : (Nat → UInt64)) => ∀ (H : Heap) (locs : List Loc) (ls : Array Slot), va_P D CL (w_Sc_measureRows T q0 q0_ofRows q0_ofVariables q1 q1_a q1_b q1_c Rq1_a e1 vq1_rows vq1_variables vq1_a) H → va_D A (w_Sc_measureRows T q0 q0_ofRows q0_ofVariables q1 q1_a q1_b q1_c Rq1_a e1 vq1_rows vq1_variables vq1_a) → va_S A s.heap H locs → lv_has ls 3 [] → W p l e (rmk 2 47) s m args below meth c H locs 0 0 Q (F0 m 38 ls [])) ?_ 2000 _ ul2 hul2 ?_ H locs ls hP hD hS hl
    · intro st rb2 h kc2 kx2 H locs ls hP hD hS hl
      obtain ⟨vq0_ofRows, x2⟩ := st
      have h : s_Sc_measureRows_B2 vq1_rows vq1_variables vq1_a vq0_ofRows x2 = some rb2 := h
      unfold s_Sc_measureRows_B2 at h
      refine lv_iload_n hx hb d_Sc_measureRows_2 rfl (lv_at hl 2 rfl) ?_
      refine lv_aload_n hx hb d_Sc_measureRows_3 rfl (lv_at hl 1 rfl) ?_
      refine va_getN (D := D) (ci := 0) (v := .int vq1_rows) (C := "ConeForge$Problem") (T := FPb) (N := 5) hx hb hts iPb hown hK hP 2 rfl rfl 0 (by decide) (hNW.use nw2) (fun _ h9 => h9) rfl d_Sc_measureRows_4 ?_
      refine lv_icmp_ge (tgt := 38) hx hb d_Sc_measureRows_7 (by decide) (fun c1 => ?_) (fun c1 => ?_)
      · have h := it_t c1 h
        exact kx2 _ (Option.some.inj h).symm H locs ls hP hD hS (lv_sub hl [] rfl)
      · have h := it_f c1 h
        refine lv_aload_n hx hb d_Sc_measureRows_10 rfl (lv_at hl 0 rfl) ?_
        refine va_get (D := D) (ci := 2) (v := .ref q0_ofRows) (C := "ConeForge$Scales") (T := FSc) (N := 2) hx hb hts iSc hown hK hP 0 rfl rfl 0 (by decide) (hts _ (bgc bw145)) (fun _ h9 => h9) rfl d_Sc_measureRows_11 ?_
        refine lv_iload_n hx hb d_Sc_measureRows_14 rfl (lv_at hl 2 rfl) ?_
        refine lv_aload_n hx hb d_Sc_measureRows_15 rfl (lv_at hl 1 rfl) ?_
        refine va_getN (D := D) (ci := 0) (v := .ref q1_a) (C := "ConeForge$Problem") (T := FPb) (N := 5) hx hb hts iPb hown hK hP 2 rfl rfl 2 (by decide) (hNW.use nw14) (fun _ h9 => h9) rfl d_Sc_measureRows_16 ?_
        refine lv_iload_n hx hb d_Sc_measureRows_19 rfl (lv_at hl 2 rfl) ?_
        obtain ⟨g2, h⟩ := gd_some h
        refine va_aldg (f := Rq1_a) hx hb hK hP 3 3 rfl rfl (inb_in g2) d_Sc_measureRows_20 ?_
        refine lv_aload_n hx hb d_Sc_measureRows_21 rfl (lv_at hl 1 rfl) ?_
        refine va_getN (D := D) (ci := 0) (v := .int vq1_variables) (C := "ConeForge$Problem") (T := FPb) (N := 5) hx hb hts iPb hown hK hP 2 rfl rfl 1 (by decide) (hNW.use nw9) (fun _ h9 => h9) rfl d_Sc_measureRows_22 ?_
        obtain ⟨u3, hu3, h⟩ := bi_some h
        refine kD (v := u3) (wc := (w_C_greatestOf T (Rq1_a x2.toNatClampNeg) 8 (vq1_a x2.toNatClampNeg))) (wc' := (w_C_greatestOf T (Rq1_a x2.toNatClampNeg) 8 (vq1_a x2.toNatClampNeg))) (runNS (As := [.ref (Rq1_a x2.toNatClampNeg), .int vq1_variables]) (rest := [.int x2, .ref q0_ofRows]) ((c_C_greatestOf l D T (Rq1_a x2.toNatClampNeg) 8 (vq1_a x2.toNatClampNeg) vq1_variables u3 hu3) H.size) ⟨hx, hb, hml, hown, hts⟩ (cwNS nw64 bw301 bw97 bw302 dd_C_greatestOf hts hNW ⟨Nat.le_of_ble_eq_true rfl, Nat.le_of_ble_eq_true rfl⟩)  hNW hK hP hD [4 + x2.toNatClampNeg] (congrArg (fun z => [z]) (gk5 (P := fun k => (w_Sc_measureRows T q0 q0_ofRows q0_ofVariables q1 q1_a q1_b q1_c Rq1_a vq0_ofRows vq1_rows vq1_variables vq1_a)[4 + k]? = some (Rq1_a k, .inl (T 0, 8, .inr (.inr (.inr (.inl (vq1_a k))))))) rfl rfl rfl rfl rfl _ (inb_lt g2))) rfl rfl hl.1 rfl (lv_room (Nat.le_of_ble_eq_true rfl)) d_Sc_measureRows_25 ⟨Nat.le_of_ble_eq_true rfl, Nat.le_of_ble_eq_true rfl⟩) hP hD hS hA [4 + x2.toNatClampNeg] (congrArg (fun z => [z]) (gk5 (P := fun k => (w_Sc_measureRows T q0 q0_ofRows q0_ofVariables q1 q1_a q1_b q1_c Rq1_a vq0_ofRows vq1_rows vq1_variables vq1_a)[4 + k]? = some (Rq1_a k, .inl (T 0, 8, .inr (.inr (.inr (.inl (vq1_a k))))))) rfl rfl rfl rfl rfl _ (inb_lt g2))) rfl (fun H locs hP hD hS => ?_)
        have e4 : (w_Sc_measureRows T q0 q0_ofRows q0_ofVariables q1 q1_a q1_b q1_c Rq1_a vq0_ofRows vq1_rows vq1_variables vq1_a).set (4 + x2.toNatClampNeg) (Rq1_a x2.toNatClampNeg, .inl (T 0, 8, .inr (.inr (.inr (.inl (vq1_a x2.toNatClampNeg)))))) = (w_Sc_measureRows T q0 q0_ofRows q0_ofVariables q1 q1_a q1_b q1_c Rq1_a vq0_ofRows vq1_rows vq1_variables vq1_a) := gk5 (P := fun k => (w_Sc_measureRows T q0 q0_ofRows q0_ofVariables q1 q1_a q1_b q1_c Rq1_a vq0_ofRows vq1_rows vq1_variables vq1_a).set (4 + k) (Rq1_a k, .inl (T 0, 8, .inr (.inr (.inr (.inl (vq1_a k)))))) = (w_Sc_measureRows T q0 q0_ofRows q0_ofVariables q1 q1_a q1_b q1_c Rq1_a vq0_ofRows vq1_rows vq1_variables vq1_a)) rfl rfl rfl rfl rfl _ (inb_lt g2)
        have hP : va_P D CL (w_Sc_measureRows T q0 q0_ofRows q0_ofVariables q1 q1_a q1_b q1_c Rq1_a vq0_ofRows vq1_rows vq1_variables vq1_a) H := e4 ▸ hP
        have hD : va_D A (w_Sc_measureRows T q0 q0_ofRows q0_ofVariables q1 q1_a q1_b q1_c Rq1_a vq0_ofRows vq1_rows vq1_variables vq1_a) := e4 ▸ hD
        obtain ⟨u5, hu5, h⟩ := bi_some h
        have jj6 := j_Sc_measureRows_28 T q0 q0_ofRows q0_ofVariables q1 q1_a q1_b q1_c Rq1_a vq0_ofRows vq1_rows vq1_variables vq1_a
        refine kD2 (v := u5) (wc := (w_Sc_powerFor T  )) (wc' := (w_Sc_powerFor T  )) (w_Sc_measureRows T q0 q0_ofRows q0_ofVariables q1 q1_a q1_b q1_c Rq1_a vq0_ofRows vq1_rows vq1_variables vq1_a) (runOS (As := [.double u3]) (rest := [.int x2, .ref q0_ofRows]) ((c_Sc_powerFor l D T   u3 u5 hu5) H.size) ⟨hx, hb, hml, hown, hts⟩ (cwOS bw309 bw310 bw99 bw311 dd_Sc_powerFor hts ⟨Nat.le_of_ble_eq_true rfl, Nat.le_of_ble_eq_true rfl⟩)  hNW hK hP hD [] jj6.1 (by decide) rfl hl.1 rfl (lv_room (Nat.le_of_ble_eq_true rfl)) d_Sc_measureRows_28 ⟨Nat.le_of_ble_eq_true rfl, Nat.le_of_ble_eq_true rfl⟩) hP hD hS hA [] [0, 1, 2, 3, 4, 5, 6, 7, 8] jj6.1 jj6.2.1 jj6.2.2.1 (N := 9) jj6.2.2.2.2 (by decide) jj6.2.2.2.1 (fun H locs hP hD hS => ?_)
        obtain ⟨g7, h⟩ := gd_some h
        refine va_dast hx hb hK hP hD hS 1 0 rfl rfl (inb_in g7) d_Sc_measureRows_31 (fun H locs hP hD hS => ?_)
        have hP : va_P D CL (w_Sc_measureRows T q0 q0_ofRows q0_ofVariables q1 q1_a q1_b q1_c Rq1_a (vf_upd vq0_ofRows x2.toNatClampNeg u5) vq1_rows vq1_variables vq1_a) H := hP
        have hD : va_D A (w_Sc_measureRows T q0 q0_ofRows q0_ofVariables q1 q1_a q1_b q1_c Rq1_a (vf_upd vq0_ofRows x2.toNatClampNeg u5) vq1_rows vq1_variables vq1_a) := hD
        refine lv_iinc (v := x2 + 1) (lv' := [(2, .int (x2 + 1)), (0, .ref q0), (1, .ref q1)]) hx hb d_Sc_measureRows_32 hl (k := 2) rfl rfl (by decide) rfl (fun ls hl => ?_)
        refine lv_goto (tgt := 2) hx hb d_Sc_measureRows_35 (by decide) ?_
        exact kc2 _ (Option.some.inj h).symm H locs ls hP hD hS (lv_sub hl [1, 2, 0] rfl)
    · intro H locs ls hP hD hS hl
      exact rtV hx hb hr hlocks hQ (Option.some.inj h) hP hS d_Sc_measureRows_38 rfl
  unfold s_Sc_measureRows at h
  refine lv_iconst (v := 0) hx hb d_Sc_measureRows_0 (by decide) ?_
  refine lv_istore_n (lv' := [(2, .int 0), (0, .ref q0), (1, .ref q1)]) hx hb d_Sc_measureRows_1 rfl hl (by decide) rfl (fun ls hl => ?_)
  exact L2 vq0_ofRows 0 H locs ls hP hD hS (lv_sub hl [1, 2, 0] rfl) h
theorem d_Sc_measureVariables_0 : decode prog_6_method_4_code 0 = .ok (.iconst 0, 1) := by decide +kernel
theorem d_Sc_measureVariables_1 : decode prog_6_method_4_code 1 = .ok (.istore_n 2, 1) := by decide +kernel
theorem d_Sc_measureVariables_2 : decode prog_6_method_4_code 2 = .ok (.iload_n 2, 1) := by decide +kernel
theorem d_Sc_measureVariables_3 : decode prog_6_method_4_code 3 = .ok (.aload_n 1, 1) := by decide +kernel
theorem d_Sc_measureVariables_4 : decode prog_6_method_4_code 4 = .ok (.getfield 41, 3) := by decide +kernel
theorem d_Sc_measureVariables_7 : decode prog_6_method_4_code 7 = .ok (.if_icmp .ge 64, 3) := by decide +kernel
theorem d_Sc_measureVariables_10 : decode prog_6_method_4_code 10 = .ok (.dconst 0, 1) := by decide +kernel
theorem d_Sc_measureVariables_11 : decode prog_6_method_4_code 11 = .ok (.dstore_n 3, 1) := by decide +kernel
theorem d_Sc_measureVariables_12 : decode prog_6_method_4_code 12 = .ok (.iconst 0, 1) := by decide +kernel
theorem d_Sc_measureVariables_13 : decode prog_6_method_4_code 13 = .ok (.istore 5, 2) := by decide +kernel
theorem d_Sc_measureVariables_15 : decode prog_6_method_4_code 15 = .ok (.iload 5, 2) := by decide +kernel
theorem d_Sc_measureVariables_17 : decode prog_6_method_4_code 17 = .ok (.aload_n 1, 1) := by decide +kernel
theorem d_Sc_measureVariables_18 : decode prog_6_method_4_code 18 = .ok (.getfield 31, 3) := by decide +kernel
theorem d_Sc_measureVariables_21 : decode prog_6_method_4_code 21 = .ok (.if_icmp .ge 34, 3) := by decide +kernel
theorem d_Sc_measureVariables_24 : decode prog_6_method_4_code 24 = .ok (.dload_n 3, 1) := by decide +kernel
theorem d_Sc_measureVariables_25 : decode prog_6_method_4_code 25 = .ok (.aload_n 0, 1) := by decide +kernel
theorem d_Sc_measureVariables_26 : decode prog_6_method_4_code 26 = .ok (.getfield 9, 3) := by decide +kernel
theorem d_Sc_measureVariables_29 : decode prog_6_method_4_code 29 = .ok (.iload 5, 2) := by decide +kernel
theorem d_Sc_measureVariables_31 : decode prog_6_method_4_code 31 = .ok (.daload, 1) := by decide +kernel
theorem d_Sc_measureVariables_32 : decode prog_6_method_4_code 32 = .ok (.aload_n 1, 1) := by decide +kernel
theorem d_Sc_measureVariables_33 : decode prog_6_method_4_code 33 = .ok (.getfield 37, 3) := by decide +kernel
theorem d_Sc_measureVariables_36 : decode prog_6_method_4_code 36 = .ok (.iload 5, 2) := by decide +kernel
theorem d_Sc_measureVariables_38 : decode prog_6_method_4_code 38 = .ok (.aaload, 1) := by decide +kernel
theorem d_Sc_measureVariables_39 : decode prog_6_method_4_code 39 = .ok (.iload_n 2, 1) := by decide +kernel
theorem d_Sc_measureVariables_40 : decode prog_6_method_4_code 40 = .ok (.daload, 1) := by decide +kernel
theorem d_Sc_measureVariables_41 : decode prog_6_method_4_code 41 = .ok (.dmul, 1) := by decide +kernel
theorem d_Sc_measureVariables_42 : decode prog_6_method_4_code 42 = .ok (.invokestatic 52, 3) := by decide +kernel
theorem d_Sc_measureVariables_45 : decode prog_6_method_4_code 45 = .ok (.invokestatic 55, 3) := by decide +kernel
theorem d_Sc_measureVariables_48 : decode prog_6_method_4_code 48 = .ok (.dstore_n 3, 1) := by decide +kernel
theorem d_Sc_measureVariables_49 : decode prog_6_method_4_code 49 = .ok (.iinc 5 1, 3) := by decide +kernel
theorem d_Sc_measureVariables_52 : decode prog_6_method_4_code 52 = .ok (.goto (-37), 3) := by decide +kernel
theorem d_Sc_measureVariables_55 : decode prog_6_method_4_code 55 = .ok (.aload_n 0, 1) := by decide +kernel
theorem d_Sc_measureVariables_56 : decode prog_6_method_4_code 56 = .ok (.getfield 15, 3) := by decide +kernel
theorem d_Sc_measureVariables_59 : decode prog_6_method_4_code 59 = .ok (.iload_n 2, 1) := by decide +kernel
theorem d_Sc_measureVariables_60 : decode prog_6_method_4_code 60 = .ok (.dload_n 3, 1) := by decide +kernel
theorem d_Sc_measureVariables_61 : decode prog_6_method_4_code 61 = .ok (.invokestatic 48, 3) := by decide +kernel
theorem d_Sc_measureVariables_64 : decode prog_6_method_4_code 64 = .ok (.dastore, 1) := by decide +kernel
theorem d_Sc_measureVariables_65 : decode prog_6_method_4_code 65 = .ok (.iinc 2 1, 3) := by decide +kernel
theorem d_Sc_measureVariables_68 : decode prog_6_method_4_code 68 = .ok (.goto (-66), 3) := by decide +kernel
theorem d_Sc_measureVariables_71 : decode prog_6_method_4_code 71 = .ok (.return_, 1) := by decide +kernel
abbrev w_Sc_measureVariables (T : Nat → ClassId) (q0 : Nat) (q0_ofRows : Nat) (q0_ofVariables : Nat) (q1 : Nat) (q1_a : Nat) (q1_b : Nat) (q1_c : Nat) (Rq1_a : Nat → Nat) (vq0_ofRows : Nat → UInt64) (vq0_ofVariables : Nat → UInt64) (vq1_rows : Int32) (vq1_variables : Int32) (vq1_a : Nat → Nat → UInt64) : va_W := [(q0, .inr (2, [.ref q0_ofRows, .ref q0_ofVariables])), (q0_ofRows, .inl (T 0, 5, .inr (.inr (.inr (.inl vq0_ofRows))))), (q0_ofVariables, .inl (T 0, 8, .inr (.inr (.inr (.inl vq0_ofVariables))))), (q1, .inr (0, [.int vq1_rows, .int vq1_variables, .ref q1_a, .ref q1_b, .ref q1_c])), (q1_a, .inl (T 3, 5, .inr (.inr (.inr (.inr (fun i => some (Rq1_a i))))))), (Rq1_a 0, .inl (T 0, 8, .inr (.inr (.inr (.inl (vq1_a 0)))))), (Rq1_a 1, .inl (T 0, 8, .inr (.inr (.inr (.inl (vq1_a 1)))))), (Rq1_a 2, .inl (T 0, 8, .inr (.inr (.inr (.inl (vq1_a 2)))))), (Rq1_a 3, .inl (T 0, 8, .inr (.inr (.inr (.inl (vq1_a 3)))))), (Rq1_a 4, .inl (T 0, 8, .inr (.inr (.inr (.inl (vq1_a 4))))))]
def s_Sc_measureVariables_B15 (vq0_ofRows : Nat → UInt64) (vq0_ofVariables : Nat → UInt64) (vq1_rows : Int32) (vq1_variables : Int32) (vq1_a : Nat → Nat → UInt64) (x2 : Int32) (x3 : UInt64) (x5 : Int32) : Option ((UInt64 × Int32) ⊕ (UInt64)) :=
  if vq1_rows ≤ x5 then (some (.inr x3)) else (gd (inb x5 5) <| gd (inb x5 5) <| gd (inb x2 8) <| gd (isn (FP.dmul (vq0_ofRows x5.toNatClampNeg) (vq1_a x5.toNatClampNeg x2.toNatClampNeg))) <| (s_C_absolute (FP.dmul (vq0_ofRows x5.toNatClampNeg) (vq1_a x5.toNatClampNeg x2.toNatClampNeg))).bind fun u6 => (s_C_greater x3 u6).bind fun u8 => some (.inl (u8, x5 + 1)))
def s_Sc_measureVariables_L15 (vq0_ofRows : Nat → UInt64) (vq0_ofVariables : Nat → UInt64) (vq1_rows : Int32) (vq1_variables : Int32) (vq1_a : Nat → Nat → UInt64) (x2 : Int32) (x3 : UInt64) (x5 : Int32) : Option (((Nat → UInt64) × Int32) ⊕ ((Nat → UInt64))) :=
  (loopO (fun (st : UInt64 × Int32) => s_Sc_measureVariables_B15 vq0_ofRows vq0_ofVariables vq1_rows vq1_variables vq1_a x2 st.1 st.2) 2000 (x3, x5)).bind fun ul15 => (s_Sc_powerFor ul15).bind fun u10 => gd (inb x2 8) <| some (.inl (vf_upd vq0_ofVariables x2.toNatClampNeg u10, x2 + 1))
def s_Sc_measureVariables_B2 (vq0_ofRows : Nat → UInt64) (vq1_rows : Int32) (vq1_variables : Int32) (vq1_a : Nat → Nat → UInt64) (vq0_ofVariables : Nat → UInt64) (x2 : Int32) : Option (((Nat → UInt64) × Int32) ⊕ ((Nat → UInt64))) :=
  if vq1_variables ≤ x2 then (some (.inr vq0_ofVariables)) else (s_Sc_measureVariables_L15 vq0_ofRows vq0_ofVariables vq1_rows vq1_variables vq1_a x2 FP.dconst0 0)
def s_Sc_measureVariables_L2 (vq0_ofRows : Nat → UInt64) (vq0_ofVariables : Nat → UInt64) (vq1_rows : Int32) (vq1_variables : Int32) (vq1_a : Nat → Nat → UInt64) (x2 : Int32) : Option ((Nat → UInt64)) :=
  (loopO (fun (st : (Nat → UInt64) × Int32) => s_Sc_measureVariables_B2 vq0_ofRows vq1_rows vq1_variables vq1_a st.1 st.2) 2000 (vq0_ofVariables, x2)).bind fun ul2 => some ul2
def s_Sc_measureVariables (vq0_ofRows : Nat → UInt64) (vq0_ofVariables : Nat → UInt64) (vq1_rows : Int32) (vq1_variables : Int32) (vq1_a : Nat → Nat → UInt64) : Option ((Nat → UInt64)) :=
  s_Sc_measureVariables_L2 vq0_ofRows vq0_ofVariables vq1_rows vq1_variables vq1_a 0
set_option maxRecDepth 100000 in
theorem j_Sc_measureVariables_42 (T : Nat → ClassId) (q0 : Nat) (q0_ofRows : Nat) (q0_ofVariables : Nat) (q1 : Nat) (q1_a : Nat) (q1_b : Nat) (q1_c : Nat) (Rq1_a : Nat → Nat) (vq0_ofRows : Nat → UInt64) (vq0_ofVariables : Nat → UInt64) (vq1_rows : Int32) (vq1_variables : Int32) (vq1_a : Nat → Nat → UInt64) : ([].map (fun (i : Nat) => (w_Sc_measureVariables T q0 q0_ofRows q0_ofVariables q1 q1_a q1_b q1_c Rq1_a vq0_ofRows vq0_ofVariables vq1_rows vq1_variables vq1_a)[i]?) = (w_C_absolute T  ).map some) ∧ ([].map (fun (i : Nat) => (w_Sc_measureVariables T q0 q0_ofRows q0_ofVariables q1 q1_a q1_b q1_c Rq1_a vq0_ofRows vq0_ofVariables vq1_rows vq1_variables vq1_a)[i]?) = (w_C_absolute T  ).map some) ∧ ([0, 1, 2, 3, 4, 5, 6, 7, 8, 9].map (fun (i : Nat) => (w_Sc_measureVariables T q0 q0_ofRows q0_ofVariables q1 q1_a q1_b q1_c Rq1_a vq0_ofRows vq0_ofVariables vq1_rows vq1_variables vq1_a)[i]?) = [0, 1, 2, 3, 4, 5, 6, 7, 8, 9].map (fun (i : Nat) => (w_Sc_measureVariables T q0 q0_ofRows q0_ofVariables q1 q1_a q1_b q1_c Rq1_a vq0_ofRows vq0_ofVariables vq1_rows vq1_variables vq1_a)[i]?)) ∧ (w_C_absolute T  ).map Prod.fst = (w_C_absolute T  ).map Prod.fst ∧ (w_Sc_measureVariables T q0 q0_ofRows q0_ofVariables q1 q1_a q1_b q1_c Rq1_a vq0_ofRows vq0_ofVariables vq1_rows vq1_variables vq1_a).length = 10 :=
  ⟨rfl, rfl, Eq.trans (b := ([some (q0, .inr (2, [.ref q0_ofRows, .ref q0_ofVariables])), some (q0_ofRows, .inl (T 0, 5, .inr (.inr (.inr (.inl vq0_ofRows))))), some (q0_ofVariables, .inl (T 0, 8, .inr (.inr (.inr (.inl vq0_ofVariables))))), some (q1, .inr (0, [.int vq1_rows, .int vq1_variables, .ref q1_a, .ref q1_b, .ref q1_c])), some (q1_a, .inl (T 3, 5, .inr (.inr (.inr (.inr (fun i => some (Rq1_a i))))))), some (Rq1_a 0, .inl (T 0, 8, .inr (.inr (.inr (.inl (vq1_a 0)))))), some (Rq1_a 1, .inl (T 0, 8, .inr (.inr (.inr (.inl (vq1_a 1)))))), some (Rq1_a 2, .inl (T 0, 8, .inr (.inr (.inr (.inl (vq1_a 2)))))), some (Rq1_a 3, .inl (T 0, 8, .inr (.inr (.inr (.inl (vq1_a 3)))))), some (Rq1_a 4, .inl (T 0, 8, .inr (.inr (.inr (.inl (vq1_a 4))))))] : List (Option (Nat × va_E)))) rfl rfl, rfl, rfl⟩
set_option maxRecDepth 100000 in
theorem j_Sc_measureVariables_45 (T : Nat → ClassId) (q0 : Nat) (q0_ofRows : Nat) (q0_ofVariables : Nat) (q1 : Nat) (q1_a : Nat) (q1_b : Nat) (q1_c : Nat) (Rq1_a : Nat → Nat) (vq0_ofRows : Nat → UInt64) (vq0_ofVariables : Nat → UInt64) (vq1_rows : Int32) (vq1_variables : Int32) (vq1_a : Nat → Nat → UInt64) : ([].map (fun (i : Nat) => (w_Sc_measureVariables T q0 q0_ofRows q0_ofVariables q1 q1_a q1_b q1_c Rq1_a vq0_ofRows vq0_ofVariables vq1_rows vq1_variables vq1_a)[i]?) = (w_C_greater T  ).map some) ∧ ([].map (fun (i : Nat) => (w_Sc_measureVariables T q0 q0_ofRows q0_ofVariables q1 q1_a q1_b q1_c Rq1_a vq0_ofRows vq0_ofVariables vq1_rows vq1_variables vq1_a)[i]?) = (w_C_greater T  ).map some) ∧ ([0, 1, 2, 3, 4, 5, 6, 7, 8, 9].map (fun (i : Nat) => (w_Sc_measureVariables T q0 q0_ofRows q0_ofVariables q1 q1_a q1_b q1_c Rq1_a vq0_ofRows vq0_ofVariables vq1_rows vq1_variables vq1_a)[i]?) = [0, 1, 2, 3, 4, 5, 6, 7, 8, 9].map (fun (i : Nat) => (w_Sc_measureVariables T q0 q0_ofRows q0_ofVariables q1 q1_a q1_b q1_c Rq1_a vq0_ofRows vq0_ofVariables vq1_rows vq1_variables vq1_a)[i]?)) ∧ (w_C_greater T  ).map Prod.fst = (w_C_greater T  ).map Prod.fst ∧ (w_Sc_measureVariables T q0 q0_ofRows q0_ofVariables q1 q1_a q1_b q1_c Rq1_a vq0_ofRows vq0_ofVariables vq1_rows vq1_variables vq1_a).length = 10 :=
  ⟨rfl, rfl, Eq.trans (b := ([some (q0, .inr (2, [.ref q0_ofRows, .ref q0_ofVariables])), some (q0_ofRows, .inl (T 0, 5, .inr (.inr (.inr (.inl vq0_ofRows))))), some (q0_ofVariables, .inl (T 0, 8, .inr (.inr (.inr (.inl vq0_ofVariables))))), some (q1, .inr (0, [.int vq1_rows, .int vq1_variables, .ref q1_a, .ref q1_b, .ref q1_c])), some (q1_a, .inl (T 3, 5, .inr (.inr (.inr (.inr (fun i => some (Rq1_a i))))))), some (Rq1_a 0, .inl (T 0, 8, .inr (.inr (.inr (.inl (vq1_a 0)))))), some (Rq1_a 1, .inl (T 0, 8, .inr (.inr (.inr (.inl (vq1_a 1)))))), some (Rq1_a 2, .inl (T 0, 8, .inr (.inr (.inr (.inl (vq1_a 2)))))), some (Rq1_a 3, .inl (T 0, 8, .inr (.inr (.inr (.inl (vq1_a 3)))))), some (Rq1_a 4, .inl (T 0, 8, .inr (.inr (.inr (.inl (vq1_a 4))))))] : List (Option (Nat × va_E)))) rfl rfl, rfl, rfl⟩
set_option maxRecDepth 100000 in
theorem j_Sc_measureVariables_61 (T : Nat → ClassId) (q0 : Nat) (q0_ofRows : Nat) (q0_ofVariables : Nat) (q1 : Nat) (q1_a : Nat) (q1_b : Nat) (q1_c : Nat) (Rq1_a : Nat → Nat) (vq0_ofRows : Nat → UInt64) (vq0_ofVariables : Nat → UInt64) (vq1_rows : Int32) (vq1_variables : Int32) (vq1_a : Nat → Nat → UInt64) : ([].map (fun (i : Nat) => (w_Sc_measureVariables T q0 q0_ofRows q0_ofVariables q1 q1_a q1_b q1_c Rq1_a vq0_ofRows vq0_ofVariables vq1_rows vq1_variables vq1_a)[i]?) = (w_Sc_powerFor T  ).map some) ∧ ([].map (fun (i : Nat) => (w_Sc_measureVariables T q0 q0_ofRows q0_ofVariables q1 q1_a q1_b q1_c Rq1_a vq0_ofRows vq0_ofVariables vq1_rows vq1_variables vq1_a)[i]?) = (w_Sc_powerFor T  ).map some) ∧ ([0, 1, 2, 3, 4, 5, 6, 7, 8, 9].map (fun (i : Nat) => (w_Sc_measureVariables T q0 q0_ofRows q0_ofVariables q1 q1_a q1_b q1_c Rq1_a vq0_ofRows vq0_ofVariables vq1_rows vq1_variables vq1_a)[i]?) = [0, 1, 2, 3, 4, 5, 6, 7, 8, 9].map (fun (i : Nat) => (w_Sc_measureVariables T q0 q0_ofRows q0_ofVariables q1 q1_a q1_b q1_c Rq1_a vq0_ofRows vq0_ofVariables vq1_rows vq1_variables vq1_a)[i]?)) ∧ (w_Sc_powerFor T  ).map Prod.fst = (w_Sc_powerFor T  ).map Prod.fst ∧ (w_Sc_measureVariables T q0 q0_ofRows q0_ofVariables q1 q1_a q1_b q1_c Rq1_a vq0_ofRows vq0_ofVariables vq1_rows vq1_variables vq1_a).length = 10 :=
  ⟨rfl, rfl, Eq.trans (b := ([some (q0, .inr (2, [.ref q0_ofRows, .ref q0_ofVariables])), some (q0_ofRows, .inl (T 0, 5, .inr (.inr (.inr (.inl vq0_ofRows))))), some (q0_ofVariables, .inl (T 0, 8, .inr (.inr (.inr (.inl vq0_ofVariables))))), some (q1, .inr (0, [.int vq1_rows, .int vq1_variables, .ref q1_a, .ref q1_b, .ref q1_c])), some (q1_a, .inl (T 3, 5, .inr (.inr (.inr (.inr (fun i => some (Rq1_a i))))))), some (Rq1_a 0, .inl (T 0, 8, .inr (.inr (.inr (.inl (vq1_a 0)))))), some (Rq1_a 1, .inl (T 0, 8, .inr (.inr (.inr (.inl (vq1_a 1)))))), some (Rq1_a 2, .inl (T 0, 8, .inr (.inr (.inr (.inl (vq1_a 2)))))), some (Rq1_a 3, .inl (T 0, 8, .inr (.inr (.inr (.inl (vq1_a 3)))))), some (Rq1_a 4, .inl (T 0, 8, .inr (.inr (.inr (.inl (vq1_a 4))))))] : List (Option (Nat × va_E)))) rfl rfl, rfl, rfl⟩
set_option maxHeartbeats 40000000 in
set_option maxRecDepth 100000 in
theorem c_Sc_measureVariables (l : Launch) (D : va_G) (T : Nat → ClassId) (q0 : Nat) (q0_ofRows : Nat) (q0_ofVariables : Nat) (q1 : Nat) (q1_a : Nat) (q1_b : Nat) (q1_c : Nat) (Rq1_a : Nat → Nat) (vq0_ofRows : Nat → UInt64) (vq0_ofVariables : Nat → UInt64) (vq1_rows : Int32) (vq1_variables : Int32) (vq1_a : Nat → Nat → UInt64) (rm : (Nat → UInt64)) (h : s_Sc_measureVariables vq0_ofRows vq0_ofVariables vq1_rows vq1_variables vq1_a = some rm) : CtV l y_Sc_measureVariables (Cond.code y_Sc_measureVariables prog_6_method_4_code 6 none :: BIG) 1 26 D T [.ref q0, .ref q1] (w_Sc_measureVariables T q0 q0_ofRows q0_ofVariables q1 q1_a q1_b q1_c Rq1_a vq0_ofRows vq0_ofVariables vq1_rows vq1_variables vq1_a) (fun r => (w_Sc_measureVariables T q0 q0_ofRows q0_ofVariables q1 q1_a q1_b q1_c Rq1_a vq0_ofRows r vq1_rows vq1_variables vq1_a)) rm := by
  refine cf_entry (y := y_Sc_measureVariables) (cc := prog_6_method_4_code) (nL := 6) (ret := none) (fr := 1) (lo := 26) (T := T) (av := [.ref q0, .ref q1]) (w := (w_Sc_measureVariables T q0 q0_ofRows q0_ofVariables q1 q1_a q1_b q1_c Rq1_a vq0_ofRows vq0_ofVariables vq1_rows vq1_variables vq1_a)) (Qc := cfQv D (fun r => (w_Sc_measureVariables T q0 q0_ofRows q0_ofVariables q1 q1_a q1_b q1_c Rq1_a vq0_ofRows r vq1_rows vq1_variables vq1_a)) rm) (by decide) rfl (Nat.le_of_ble_eq_true rfl) ?_
  intro p e s m args below meth c A Q H locs ls hx hb hr hlocks hml hown hts hNW hK hA hQ hP hD hS hl
  have hown : s.vm.findClass "ConeForge$Scales" = some m.cls := hown
  have hl : lv_has ls 6 [(0, .ref q0), (1, .ref q1)] := hl
  have L2 : ∀ (vq0_ofVariables : Nat → UInt64) (x2 : Int32), ∀ (H : Heap) (locs : List Loc) (ls : Array Slot), va_P D CL (w_Sc_measureVariables T q0 q0_ofRows q0_ofVariables q1 q1_a q1_b q1_c Rq1_a vq0_ofRows vq0_ofVariables vq1_rows vq1_variables vq1_a) H → va_D A (w_Sc_measureVariables T q0 q0_ofRows q0_ofVariables q1 q1_a q1_b q1_c Rq1_a vq0_ofRows vq0_ofVariables vq1_rows vq1_variables vq1_a) → va_S A s.heap H locs → lv_has ls 6 [(0, .ref q0), (1, .ref q1), (2, .int x2)] → s_Sc_measureVariables_L2 vq0_ofRows vq0_ofVariables vq1_rows vq1_variables vq1_a x2 = some rm → W p l e (rmk 1 26) s m args below meth c H locs 0 0 Q (F0 m 2 ls []) := by
    intro vq0_ofVariables x2 H locs ls hP hD hS hl h
    unfold s_Sc_measureVariables_L2 at h
    obtain ⟨ul2, hul2, h⟩ := bi_some h
    refine loopO_W (Wh := fun (st : (Nat → UInt64) × Int32) => ∀ (H : Heap) (locs : List Loc) (ls : Array Slot), va_P D CL (w_Sc_measureVariables T q0 q0_ofRows q0_ofVariables q1 q1_a q1_b q1_c Rq1_a vq0_ofRows st.1 vq1_rows vq1_variables vq1_a) H → va_D A (w_Sc_measureVariables T q0 q0_ofRows q0_ofVariables q1 q1_a q1_b q1_c Rq1_a vq0_ofRows st.1 vq1_rows vq1_variables vq1_a) → va_S A s.heap H locs → lv_has ls 6 [(0, .ref q0), (1, .ref q1), (2, .int st.2)] → W p l e (rmk 1 26) s m args below meth c H locs 0 0 Q (F0 m 2 ls [])) (Wx := fun (e1 : (Nat → UInt64)) => ∀ (H : Heap) (locs : List Loc) (ls : Array Slot), va_P D CL (w_Sc_measureVariables T q0 q0_ofRows q0_ofVariables q1 q1_a q1_b q1_c Rq1_a vq0_ofRows e1 vq1_rows vq1_variables vq1_a) H → va_D A (w_Sc_measureVariables T q0 q0_ofRows q0_ofVariables q1 q1_a q1_b q1_c Rq1_a vq0_ofRows e1 vq1_rows vq1_variables vq1_a) → va_S A s.heap H locs → lv_has ls 6 [] → W p l e (rmk 1 26) s m args below meth c H locs 0 0 Q (F0 m 71 ls [])) ?_ 2000 _ ul2 hul2 ?_ H locs ls hP hD hS hl
    · intro st rb2 h kc2 kx2 H locs ls hP hD hS hl
      obtain ⟨vq0_ofVariables, x2⟩ := st
      have h : s_Sc_measureVariables_B2 vq0_ofRows vq1_rows vq1_variables vq1_a vq0_ofVariables x2 = some rb2 := h
      have L15 : ∀ (vq0_ofVariables : Nat → UInt64) (x2 : Int32) (x3 : UInt64) (x5 : Int32), ∀ (H : Heap) (locs : List Loc) (ls : Array Slot), va_P D CL (w_Sc_measureVariables T q0 q0_ofRows q0_ofVariables q1 q1_a q1_b q1_c Rq1_a vq0_ofRows vq0_ofVariables vq1_rows vq1_variables vq1_a) H → va_D A (w_Sc_measureVariables T q0 q0_ofRows q0_ofVariables q1 q1_a q1_b q1_c Rq1_a vq0_ofRows vq0_ofVariables vq1_rows vq1_variables vq1_a) → va_S A s.heap H locs → lv_has ls 6 [(0, .ref q0), (1, .ref q1), (2, .int x2), (3, .double x3), (5, .int x5)] → s_Sc_measureVariables_L15 vq0_ofRows vq0_ofVariables vq1_rows vq1_variables vq1_a x2 x3 x5 = some rb2 → W p l e (rmk 1 26) s m args below meth c H locs 0 0 Q (F0 m 15 ls []) := by
        intro vq0_ofVariables x2 x3 x5 H locs ls hP hD hS hl h
        unfold s_Sc_measureVariables_L15 at h
        obtain ⟨ul15, hul15, h⟩ := bi_some h
        refine loopO_W (Wh := fun (st : UInt64 × Int32) => ∀ (H : Heap) (locs : List Loc) (ls : Array Slot), va_P D CL (w_Sc_measureVariables T q0 q0_ofRows q0_ofVariables q1 q1_a q1_b q1_c Rq1_a vq0_ofRows vq0_ofVariables vq1_rows vq1_variables vq1_a) H → va_D A (w_Sc_measureVariables T q0 q0_ofRows q0_ofVariables q1 q1_a q1_b q1_c Rq1_a vq0_ofRows vq0_ofVariables vq1_rows vq1_variables vq1_a) → va_S A s.heap H locs → lv_has ls 6 [(0, .ref q0), (1, .ref q1), (2, .int x2), (3, .double st.1), (5, .int st.2)] → W p l e (rmk 1 26) s m args below meth c H locs 0 0 Q (F0 m 15 ls [])) (Wx := fun (e1 : UInt64) => ∀ (H : Heap) (locs : List Loc) (ls : Array Slot), va_P D CL (w_Sc_measureVariables T q0 q0_ofRows q0_ofVariables q1 q1_a q1_b q1_c Rq1_a vq0_ofRows vq0_ofVariables vq1_rows vq1_variables vq1_a) H → va_D A (w_Sc_measureVariables T q0 q0_ofRows q0_ofVariables q1 q1_a q1_b q1_c Rq1_a vq0_ofRows vq0_ofVariables vq1_rows vq1_variables vq1_a) → va_S A s.heap H locs → lv_has ls 6 [(0, .ref q0), (1, .ref q1), (2, .int x2), (3, .double e1)] → W p l e (rmk 1 26) s m args below meth c H locs 0 0 Q (F0 m 55 ls [])) ?_ 2000 _ ul15 hul15 ?_ H locs ls hP hD hS hl
        · intro st rb15 h kc15 kx15 H locs ls hP hD hS hl
          obtain ⟨x3, x5⟩ := st
          have h : s_Sc_measureVariables_B15 vq0_ofRows vq0_ofVariables vq1_rows vq1_variables vq1_a x2 x3 x5 = some rb15 := h
          unfold s_Sc_measureVariables_B15 at h
          refine lv_iload hx hb d_Sc_measureVariables_15 (lv_at hl 4 rfl) ?_
          refine lv_aload_n hx hb d_Sc_measureVariables_17 rfl (lv_at hl 1 rfl) ?_
          refine va_getN (D := D) (ci := 0) (v := .int vq1_rows) (C := "ConeForge$Problem") (T := FPb) (N := 5) hx hb hts iPb hown hK hP 3 rfl rfl 0 (by decide) (hNW.use nw2) (fun _ h9 => h9) rfl d_Sc_measureVariables_18 ?_
          refine lv_icmp_ge (tgt := 55) hx hb d_Sc_measureVariables_21 (by decide) (fun c1 => ?_) (fun c1 => ?_)
          · have h := it_t c1 h
            exact kx15 _ (Option.some.inj h).symm H locs ls hP hD hS (lv_sub hl [0, 1, 2, 3] rfl)
          · have h := it_f c1 h
            refine lv_dload_n hx hb d_Sc_measureVariables_24 rfl (lv_at hl 3 rfl) ?_
            refine lv_aload_n hx hb d_Sc_measureVariables_25 rfl (lv_at hl 0 rfl) ?_
            refine va_get (D := D) (ci := 2) (v := .ref q0_ofRows) (C := "ConeForge$Scales") (T := FSc) (N := 2) hx hb hts iSc hown hK hP 0 rfl rfl 0 (by decide) (hts _ (bgc bw145)) (fun _ h9 => h9) rfl d_Sc_measureVariables_26 ?_
            refine lv_iload hx hb d_Sc_measureVariables_29 (lv_at hl 4 rfl) ?_
            obtain ⟨g2, h⟩ := gd_some h
            refine va_dald hx hb hK hP 1 0 rfl rfl (inb_in g2) d_Sc_measureVariables_31 ?_
            refine lv_aload_n hx hb d_Sc_measureVariables_32 rfl (lv_at hl 1 rfl) ?_
            refine va_getN (D := D) (ci := 0) (v := .ref q1_a) (C := "ConeForge$Problem") (T := FPb) (N := 5) hx hb hts iPb hown hK hP 3 rfl rfl 2 (by decide) (hNW.use nw14) (fun _ h9 => h9) rfl d_Sc_measureVariables_33 ?_
            refine lv_iload hx hb d_Sc_measureVariables_36 (lv_at hl 4 rfl) ?_
            obtain ⟨g3, h⟩ := gd_some h
            refine va_aldg (f := Rq1_a) hx hb hK hP 4 3 rfl rfl (inb_in g3) d_Sc_measureVariables_38 ?_
            refine lv_iload_n hx hb d_Sc_measureVariables_39 rfl (lv_at hl 2 rfl) ?_
            obtain ⟨g4, h⟩ := gd_some h
            refine va_dald hx hb hK hP (5 + x5.toNatClampNeg) 0 (gk5 (P := fun k => (w_Sc_measureVariables T q0 q0_ofRows q0_ofVariables q1 q1_a q1_b q1_c Rq1_a vq0_ofRows vq0_ofVariables vq1_rows vq1_variables vq1_a)[5 + k]? = some (Rq1_a k, .inl (T 0, 8, .inr (.inr (.inr (.inl (vq1_a k))))))) rfl rfl rfl rfl rfl _ (inb_lt g3)) rfl (inb_in g4) d_Sc_measureVariables_40 ?_
            obtain ⟨g5, h⟩ := gd_some h
            refine lv_dmul hx hb d_Sc_measureVariables_41 (isn_n g5) ?_
            obtain ⟨u6, hu6, h⟩ := bi_some h
            have jj7 := j_Sc_measureVariables_42 T q0 q0_ofRows q0_ofVariables q1 q1_a q1_b q1_c Rq1_a vq0_ofRows vq0_ofVariables vq1_rows vq1_variables vq1_a
            refine kD2 (v := u6) (wc := (w_C_absolute T  )) (wc' := (w_C_absolute T  )) (w_Sc_measureVariables T q0 q0_ofRows q0_ofVariables q1 q1_a q1_b q1_c Rq1_a vq0_ofRows vq0_ofVariables vq1_rows vq1_variables vq1_a) (runNS (As := [.double (FP.dmul (vq0_ofRows x5.toNatClampNeg) (vq1_a x5.toNatClampNeg x2.toNatClampNeg))]) (rest := [.double x3]) ((c_C_absolute l D T   (FP.dmul (vq0_ofRows x5.toNatClampNeg) (vq1_a x5.toNatClampNeg x2.toNatClampNeg)) u6 hu6) H.size) ⟨hx, hb, hml, hown, hts⟩ (cwNS nw65 bw304 bw97 bw305 dd_C_absolute hts hNW ⟨Nat.le_of_ble_eq_true rfl, Nat.le_of_ble_eq_true rfl⟩)  hNW hK hP hD [] jj7.1 (by decide) rfl hl.1 rfl (lv_room (Nat.le_of_ble_eq_true rfl)) d_Sc_measureVariables_42 ⟨Nat.le_of_ble_eq_true rfl, Nat.le_of_ble_eq_true rfl⟩) hP hD hS hA [] [0, 1, 2, 3, 4, 5, 6, 7, 8, 9] jj7.1 jj7.2.1 jj7.2.2.1 (N := 10) jj7.2.2.2.2 (by decide) jj7.2.2.2.1 (fun H locs hP hD hS => ?_)
            obtain ⟨u8, hu8, h⟩ := bi_some h
            have jj9 := j_Sc_measureVariables_45 T q0 q0_ofRows q0_ofVariables q1 q1_a q1_b q1_c Rq1_a vq0_ofRows vq0_ofVariables vq1_rows vq1_variables vq1_a
            refine kD2 (v := u8) (wc := (w_C_greater T  )) (wc' := (w_C_greater T  )) (w_Sc_measureVariables T q0 q0_ofRows q0_ofVariables q1 q1_a q1_b q1_c Rq1_a vq0_ofRows vq0_ofVariables vq1_rows vq1_variables vq1_a) (runNS (As := [.double x3, .double u6]) (rest := []) ((c_C_greater l D T   x3 u6 u8 hu8) H.size) ⟨hx, hb, hml, hown, hts⟩ (cwNS nw66 bw307 bw97 bw308 dd_C_greater hts hNW ⟨Nat.le_of_ble_eq_true rfl, Nat.le_of_ble_eq_true rfl⟩)  hNW hK hP hD [] jj9.1 (by decide) rfl hl.1 rfl (lv_room (Nat.le_of_ble_eq_true rfl)) d_Sc_measureVariables_45 ⟨Nat.le_of_ble_eq_true rfl, Nat.le_of_ble_eq_true rfl⟩) hP hD hS hA [] [0, 1, 2, 3, 4, 5, 6, 7, 8, 9] jj9.1 jj9.2.1 jj9.2.2.1 (N := 10) jj9.2.2.2.2 (by decide) jj9.2.2.2.1 (fun H locs hP hD hS => ?_)
            refine lv_dstore_n (lv' := [(3, .double u8), (0, .ref q0), (1, .ref q1), (2, .int x2), (5, .int x5)]) hx hb d_Sc_measureVariables_48 rfl hl (by decide) rfl (fun ls hl => ?_)
            refine lv_iinc (v := x5 + 1) (lv' := [(5, .int (x5 + 1)), (3, .double u8), (0, .ref q0), (1, .ref q1), (2, .int x2)]) hx hb d_Sc_measureVariables_49 hl (k := 4) rfl rfl (by decide) rfl (fun ls hl => ?_)
            refine lv_goto (tgt := 15) hx hb d_Sc_measureVariables_52 (by decide) ?_
            exact kc15 _ (Option.some.inj h).symm H locs ls hP hD hS (lv_sub hl [2, 3, 4, 1, 0] rfl)
        · intro H locs ls hP hD hS hl
          refine lv_aload_n hx hb d_Sc_measureVariables_55 rfl (lv_at hl 0 rfl) ?_
          refine va_get (D := D) (ci := 2) (v := .ref q0_ofVariables) (C := "ConeForge$Scales") (T := FSc) (N := 2) hx hb hts iSc hown hK hP 0 rfl rfl 1 (by decide) (hts _ (bgc bw146)) (fun _ h9 => h9) rfl d_Sc_measureVariables_56 ?_
          refine lv_iload_n hx hb d_Sc_measureVariables_59 rfl (lv_at hl 2 rfl) ?_
          refine lv_dload_n hx hb d_Sc_measureVariables_60 rfl (lv_at hl 3 rfl) ?_
          obtain ⟨u10, hu10, h⟩ := bi_some h
          have jj11 := j_Sc_measureVariables_61 T q0 q0_ofRows q0_ofVariables q1 q1_a q1_b q1_c Rq1_a vq0_ofRows vq0_ofVariables vq1_rows vq1_variables vq1_a
          refine kD2 (v := u10) (wc := (w_Sc_powerFor T  )) (wc' := (w_Sc_powerFor T  )) (w_Sc_measureVariables T q0 q0_ofRows q0_ofVariables q1 q1_a q1_b q1_c Rq1_a vq0_ofRows vq0_ofVariables vq1_rows vq1_variables vq1_a) (runOS (As := [.double ul15]) (rest := [.int x2, .ref q0_ofVariables]) ((c_Sc_powerFor l D T   ul15 u10 hu10) H.size) ⟨hx, hb, hml, hown, hts⟩ (cwOS bw309 bw310 bw99 bw311 dd_Sc_powerFor hts ⟨Nat.le_of_ble_eq_true rfl, Nat.le_of_ble_eq_true rfl⟩)  hNW hK hP hD [] jj11.1 (by decide) rfl hl.1 rfl (lv_room (Nat.le_of_ble_eq_true rfl)) d_Sc_measureVariables_61 ⟨Nat.le_of_ble_eq_true rfl, Nat.le_of_ble_eq_true rfl⟩) hP hD hS hA [] [0, 1, 2, 3, 4, 5, 6, 7, 8, 9] jj11.1 jj11.2.1 jj11.2.2.1 (N := 10) jj11.2.2.2.2 (by decide) jj11.2.2.2.1 (fun H locs hP hD hS => ?_)
          obtain ⟨g12, h⟩ := gd_some h
          refine va_dast hx hb hK hP hD hS 2 0 rfl rfl (inb_in g12) d_Sc_measureVariables_64 (fun H locs hP hD hS => ?_)
          have hP : va_P D CL (w_Sc_measureVariables T q0 q0_ofRows q0_ofVariables q1 q1_a q1_b q1_c Rq1_a vq0_ofRows (vf_upd vq0_ofVariables x2.toNatClampNeg u10) vq1_rows vq1_variables vq1_a) H := hP
          have hD : va_D A (w_Sc_measureVariables T q0 q0_ofRows q0_ofVariables q1 q1_a q1_b q1_c Rq1_a vq0_ofRows (vf_upd vq0_ofVariables x2.toNatClampNeg u10) vq1_rows vq1_variables vq1_a) := hD
          refine lv_iinc (v := x2 + 1) (lv' := [(2, .int (x2 + 1)), (0, .ref q0), (1, .ref q1), (3, .double ul15)]) hx hb d_Sc_measureVariables_65 hl (k := 2) rfl rfl (by decide) rfl (fun ls hl => ?_)
          refine lv_goto (tgt := 2) hx hb d_Sc_measureVariables_68 (by decide) ?_
          exact kc2 _ (Option.some.inj h).symm H locs ls hP hD hS (lv_sub hl [1, 2, 0] rfl)
      unfold s_Sc_measureVariables_B2 at h
      refine lv_iload_n hx hb d_Sc_measureVariables_2 rfl (lv_at hl 2 rfl) ?_
      refine lv_aload_n hx hb d_Sc_measureVariables_3 rfl (lv_at hl 1 rfl) ?_
      refine va_getN (D := D) (ci := 0) (v := .int vq1_variables) (C := "ConeForge$Problem") (T := FPb) (N := 5) hx hb hts iPb hown hK hP 3 rfl rfl 1 (by decide) (hNW.use nw9) (fun _ h9 => h9) rfl d_Sc_measureVariables_4 ?_
      refine lv_icmp_ge (tgt := 71) hx hb d_Sc_measureVariables_7 (by decide) (fun c13 => ?_) (fun c13 => ?_)
      · have h := it_t c13 h
        exact kx2 _ (Option.some.inj h).symm H locs ls hP hD hS (lv_sub hl [] rfl)
      · have h := it_f c13 h
        refine lv_dconst0 hx hb d_Sc_measureVariables_10 ?_
        refine lv_dstore_n (lv' := [(3, .double FP.dconst0), (0, .ref q0), (1, .ref q1), (2, .int x2)]) hx hb d_Sc_measureVariables_11 rfl hl (by decide) rfl (fun ls hl => ?_)
        refine lv_iconst (v := 0) hx hb d_Sc_measureVariables_12 (by decide) ?_
        refine lv_istore (lv' := [(5, .int 0), (3, .double FP.dconst0), (0, .ref q0), (1, .ref q1), (2, .int x2)]) hx hb d_Sc_measureVariables_13 hl (by decide) rfl (fun ls hl => ?_)
        exact L15 vq0_ofVariables x2 FP.dconst0 0 H locs ls hP hD hS (lv_sub hl [2, 3, 4, 1, 0] rfl) h
    · intro H locs ls hP hD hS hl
      exact rtV hx hb hr hlocks hQ (Option.some.inj h) hP hS d_Sc_measureVariables_71 rfl
  unfold s_Sc_measureVariables at h
  refine lv_iconst (v := 0) hx hb d_Sc_measureVariables_0 (by decide) ?_
  refine lv_istore_n (lv' := [(2, .int 0), (0, .ref q0), (1, .ref q1)]) hx hb d_Sc_measureVariables_1 rfl hl (by decide) rfl (fun ls hl => ?_)
  exact L2 vq0_ofVariables 0 H locs ls hP hD hS (lv_sub hl [1, 2, 0] rfl) h
theorem d_Sc_measure_0 : decode prog_6_method_2_code 0 = .ok (.aload_n 0, 1) := by decide +kernel
theorem d_Sc_measure_1 : decode prog_6_method_2_code 1 = .ok (.getfield 9, 3) := by decide +kernel
theorem d_Sc_measure_4 : decode prog_6_method_2_code 4 = .ok (.dconst 1, 1) := by decide +kernel
theorem d_Sc_measure_5 : decode prog_6_method_2_code 5 = .ok (.invokestatic 18, 3) := by decide +kernel
theorem d_Sc_measure_8 : decode prog_6_method_2_code 8 = .ok (.aload_n 0, 1) := by decide +kernel
theorem d_Sc_measure_9 : decode prog_6_method_2_code 9 = .ok (.getfield 15, 3) := by decide +kernel
theorem d_Sc_measure_12 : decode prog_6_method_2_code 12 = .ok (.dconst 1, 1) := by decide +kernel
theorem d_Sc_measure_13 : decode prog_6_method_2_code 13 = .ok (.invokestatic 18, 3) := by decide +kernel
theorem d_Sc_measure_16 : decode prog_6_method_2_code 16 = .ok (.iload_n 2, 1) := by decide +kernel
theorem d_Sc_measure_17 : decode prog_6_method_2_code 17 = .ok (.ifCond .eq 13, 3) := by decide +kernel
theorem d_Sc_measure_20 : decode prog_6_method_2_code 20 = .ok (.aload_n 0, 1) := by decide +kernel
theorem d_Sc_measure_21 : decode prog_6_method_2_code 21 = .ok (.aload_n 1, 1) := by decide +kernel
theorem d_Sc_measure_22 : decode prog_6_method_2_code 22 = .ok (.invokevirtual 24, 3) := by decide +kernel
theorem d_Sc_measure_25 : decode prog_6_method_2_code 25 = .ok (.aload_n 0, 1) := by decide +kernel
theorem d_Sc_measure_26 : decode prog_6_method_2_code 26 = .ok (.aload_n 1, 1) := by decide +kernel
theorem d_Sc_measure_27 : decode prog_6_method_2_code 27 = .ok (.invokevirtual 28, 3) := by decide +kernel
theorem d_Sc_measure_30 : decode prog_6_method_2_code 30 = .ok (.return_, 1) := by decide +kernel
abbrev w_Sc_measure (T : Nat → ClassId) (q0 : Nat) (q0_ofRows : Nat) (q0_ofVariables : Nat) (q1 : Nat) (q1_a : Nat) (q1_b : Nat) (q1_c : Nat) (Rq1_a : Nat → Nat) (vq0_ofRows : Nat → UInt64) (vq0_ofVariables : Nat → UInt64) (vq1_rows : Int32) (vq1_variables : Int32) (vq1_a : Nat → Nat → UInt64) : va_W := [(q0, .inr (2, [.ref q0_ofRows, .ref q0_ofVariables])), (q0_ofRows, .inl (T 0, 5, .inr (.inr (.inr (.inl vq0_ofRows))))), (q0_ofVariables, .inl (T 0, 8, .inr (.inr (.inr (.inl vq0_ofVariables))))), (q1, .inr (0, [.int vq1_rows, .int vq1_variables, .ref q1_a, .ref q1_b, .ref q1_c])), (q1_a, .inl (T 3, 5, .inr (.inr (.inr (.inr (fun i => some (Rq1_a i))))))), (Rq1_a 0, .inl (T 0, 8, .inr (.inr (.inr (.inl (vq1_a 0)))))), (Rq1_a 1, .inl (T 0, 8, .inr (.inr (.inr (.inl (vq1_a 1)))))), (Rq1_a 2, .inl (T 0, 8, .inr (.inr (.inr (.inl (vq1_a 2)))))), (Rq1_a 3, .inl (T 0, 8, .inr (.inr (.inr (.inl (vq1_a 3)))))), (Rq1_a 4, .inl (T 0, 8, .inr (.inr (.inr (.inl (vq1_a 4))))))]
def s_Sc_measure (vq0_ofRows : Nat → UInt64) (vq0_ofVariables : Nat → UInt64) (vq1_rows : Int32) (vq1_variables : Int32) (vq1_a : Nat → Nat → UInt64) (x2 : Int32) : Option ((Nat → UInt64) × (Nat → UInt64)) :=
  (s_Ar_fill 5 vq0_ofRows FP.dconst1).bind fun u1 => (s_Ar_fill 8 vq0_ofVariables FP.dconst1).bind fun u3 => if x2 = 0 then (some (u1, u3)) else ((s_Sc_measureRows u1 vq1_rows vq1_variables vq1_a).bind fun u6 => (s_Sc_measureVariables u6 u3 vq1_rows vq1_variables vq1_a).bind fun u8 => some (u6, u8))
set_option maxRecDepth 100000 in
theorem j_Sc_measure_5 (T : Nat → ClassId) (q0 : Nat) (q0_ofRows : Nat) (q0_ofVariables : Nat) (q1 : Nat) (q1_a : Nat) (q1_b : Nat) (q1_c : Nat) (Rq1_a : Nat → Nat) (vq0_ofRows : Nat → UInt64) (vq0_ofVariables : Nat → UInt64) (vq1_rows : Int32) (vq1_variables : Int32) (vq1_a : Nat → Nat → UInt64) (zvq0_ofRows : Nat → UInt64) : ([1].map (fun (i : Nat) => (w_Sc_measure T q0 q0_ofRows q0_ofVariables q1 q1_a q1_b q1_c Rq1_a vq0_ofRows vq0_ofVariables vq1_rows vq1_variables vq1_a)[i]?) = (w_Ar_fill T q0_ofRows 5 vq0_ofRows).map some) ∧ ([1].map (fun (i : Nat) => (w_Sc_measure T q0 q0_ofRows q0_ofVariables q1 q1_a q1_b q1_c Rq1_a zvq0_ofRows vq0_ofVariables vq1_rows vq1_variables vq1_a)[i]?) = (w_Ar_fill T q0_ofRows 5 zvq0_ofRows).map some) ∧ ([0, 2, 3, 4, 5, 6, 7, 8, 9].map (fun (i : Nat) => (w_Sc_measure T q0 q0_ofRows q0_ofVariables q1 q1_a q1_b q1_c Rq1_a vq0_ofRows vq0_ofVariables vq1_rows vq1_variables vq1_a)[i]?) = [0, 2, 3, 4, 5, 6, 7, 8, 9].map (fun (i : Nat) => (w_Sc_measure T q0 q0_ofRows q0_ofVariables q1 q1_a q1_b q1_c Rq1_a zvq0_ofRows vq0_ofVariables vq1_rows vq1_variables vq1_a)[i]?)) ∧ (w_Ar_fill T q0_ofRows 5 zvq0_ofRows).map Prod.fst = (w_Ar_fill T q0_ofRows 5 vq0_ofRows).map Prod.fst ∧ (w_Sc_measure T q0 q0_ofRows q0_ofVariables q1 q1_a q1_b q1_c Rq1_a zvq0_ofRows vq0_ofVariables vq1_rows vq1_variables vq1_a).length = 10 :=
  ⟨rfl, rfl, Eq.trans (b := ([some (q0, .inr (2, [.ref q0_ofRows, .ref q0_ofVariables])), some (q0_ofVariables, .inl (T 0, 8, .inr (.inr (.inr (.inl vq0_ofVariables))))), some (q1, .inr (0, [.int vq1_rows, .int vq1_variables, .ref q1_a, .ref q1_b, .ref q1_c])), some (q1_a, .inl (T 3, 5, .inr (.inr (.inr (.inr (fun i => some (Rq1_a i))))))), some (Rq1_a 0, .inl (T 0, 8, .inr (.inr (.inr (.inl (vq1_a 0)))))), some (Rq1_a 1, .inl (T 0, 8, .inr (.inr (.inr (.inl (vq1_a 1)))))), some (Rq1_a 2, .inl (T 0, 8, .inr (.inr (.inr (.inl (vq1_a 2)))))), some (Rq1_a 3, .inl (T 0, 8, .inr (.inr (.inr (.inl (vq1_a 3)))))), some (Rq1_a 4, .inl (T 0, 8, .inr (.inr (.inr (.inl (vq1_a 4))))))] : List (Option (Nat × va_E)))) rfl rfl, rfl, rfl⟩
set_option maxRecDepth 100000 in
theorem j_Sc_measure_13 (T : Nat → ClassId) (q0 : Nat) (q0_ofRows : Nat) (q0_ofVariables : Nat) (q1 : Nat) (q1_a : Nat) (q1_b : Nat) (q1_c : Nat) (Rq1_a : Nat → Nat) (vq0_ofRows : Nat → UInt64) (vq0_ofVariables : Nat → UInt64) (vq1_rows : Int32) (vq1_variables : Int32) (vq1_a : Nat → Nat → UInt64) (zvq0_ofVariables : Nat → UInt64) : ([2].map (fun (i : Nat) => (w_Sc_measure T q0 q0_ofRows q0_ofVariables q1 q1_a q1_b q1_c Rq1_a vq0_ofRows vq0_ofVariables vq1_rows vq1_variables vq1_a)[i]?) = (w_Ar_fill T q0_ofVariables 8 vq0_ofVariables).map some) ∧ ([2].map (fun (i : Nat) => (w_Sc_measure T q0 q0_ofRows q0_ofVariables q1 q1_a q1_b q1_c Rq1_a vq0_ofRows zvq0_ofVariables vq1_rows vq1_variables vq1_a)[i]?) = (w_Ar_fill T q0_ofVariables 8 zvq0_ofVariables).map some) ∧ ([0, 1, 3, 4, 5, 6, 7, 8, 9].map (fun (i : Nat) => (w_Sc_measure T q0 q0_ofRows q0_ofVariables q1 q1_a q1_b q1_c Rq1_a vq0_ofRows vq0_ofVariables vq1_rows vq1_variables vq1_a)[i]?) = [0, 1, 3, 4, 5, 6, 7, 8, 9].map (fun (i : Nat) => (w_Sc_measure T q0 q0_ofRows q0_ofVariables q1 q1_a q1_b q1_c Rq1_a vq0_ofRows zvq0_ofVariables vq1_rows vq1_variables vq1_a)[i]?)) ∧ (w_Ar_fill T q0_ofVariables 8 zvq0_ofVariables).map Prod.fst = (w_Ar_fill T q0_ofVariables 8 vq0_ofVariables).map Prod.fst ∧ (w_Sc_measure T q0 q0_ofRows q0_ofVariables q1 q1_a q1_b q1_c Rq1_a vq0_ofRows zvq0_ofVariables vq1_rows vq1_variables vq1_a).length = 10 :=
  ⟨rfl, rfl, Eq.trans (b := ([some (q0, .inr (2, [.ref q0_ofRows, .ref q0_ofVariables])), some (q0_ofRows, .inl (T 0, 5, .inr (.inr (.inr (.inl vq0_ofRows))))), some (q1, .inr (0, [.int vq1_rows, .int vq1_variables, .ref q1_a, .ref q1_b, .ref q1_c])), some (q1_a, .inl (T 3, 5, .inr (.inr (.inr (.inr (fun i => some (Rq1_a i))))))), some (Rq1_a 0, .inl (T 0, 8, .inr (.inr (.inr (.inl (vq1_a 0)))))), some (Rq1_a 1, .inl (T 0, 8, .inr (.inr (.inr (.inl (vq1_a 1)))))), some (Rq1_a 2, .inl (T 0, 8, .inr (.inr (.inr (.inl (vq1_a 2)))))), some (Rq1_a 3, .inl (T 0, 8, .inr (.inr (.inr (.inl (vq1_a 3)))))), some (Rq1_a 4, .inl (T 0, 8, .inr (.inr (.inr (.inl (vq1_a 4))))))] : List (Option (Nat × va_E)))) rfl rfl, rfl, rfl⟩
set_option maxRecDepth 100000 in
theorem j_Sc_measure_22 (T : Nat → ClassId) (q0 : Nat) (q0_ofRows : Nat) (q0_ofVariables : Nat) (q1 : Nat) (q1_a : Nat) (q1_b : Nat) (q1_c : Nat) (Rq1_a : Nat → Nat) (vq0_ofRows : Nat → UInt64) (vq0_ofVariables : Nat → UInt64) (vq1_rows : Int32) (vq1_variables : Int32) (vq1_a : Nat → Nat → UInt64) (zvq0_ofRows : Nat → UInt64) : ([0, 1, 3, 4, 5, 6, 7, 8, 9].map (fun (i : Nat) => (w_Sc_measure T q0 q0_ofRows q0_ofVariables q1 q1_a q1_b q1_c Rq1_a vq0_ofRows vq0_ofVariables vq1_rows vq1_variables vq1_a)[i]?) = (w_Sc_measureRows T q0 q0_ofRows q0_ofVariables q1 q1_a q1_b q1_c Rq1_a vq0_ofRows vq1_rows vq1_variables vq1_a).map some) ∧ ([0, 1, 3, 4, 5, 6, 7, 8, 9].map (fun (i : Nat) => (w_Sc_measure T q0 q0_ofRows q0_ofVariables q1 q1_a q1_b q1_c Rq1_a zvq0_ofRows vq0_ofVariables vq1_rows vq1_variables vq1_a)[i]?) = (w_Sc_measureRows T q0 q0_ofRows q0_ofVariables q1 q1_a q1_b q1_c Rq1_a zvq0_ofRows vq1_rows vq1_variables vq1_a).map some) ∧ ([2].map (fun (i : Nat) => (w_Sc_measure T q0 q0_ofRows q0_ofVariables q1 q1_a q1_b q1_c Rq1_a vq0_ofRows vq0_ofVariables vq1_rows vq1_variables vq1_a)[i]?) = [2].map (fun (i : Nat) => (w_Sc_measure T q0 q0_ofRows q0_ofVariables q1 q1_a q1_b q1_c Rq1_a zvq0_ofRows vq0_ofVariables vq1_rows vq1_variables vq1_a)[i]?)) ∧ (w_Sc_measureRows T q0 q0_ofRows q0_ofVariables q1 q1_a q1_b q1_c Rq1_a zvq0_ofRows vq1_rows vq1_variables vq1_a).map Prod.fst = (w_Sc_measureRows T q0 q0_ofRows q0_ofVariables q1 q1_a q1_b q1_c Rq1_a vq0_ofRows vq1_rows vq1_variables vq1_a).map Prod.fst ∧ (w_Sc_measure T q0 q0_ofRows q0_ofVariables q1 q1_a q1_b q1_c Rq1_a zvq0_ofRows vq0_ofVariables vq1_rows vq1_variables vq1_a).length = 10 :=
  ⟨rfl, rfl, Eq.trans (b := ([some (q0_ofVariables, .inl (T 0, 8, .inr (.inr (.inr (.inl vq0_ofVariables)))))] : List (Option (Nat × va_E)))) rfl rfl, rfl, rfl⟩
set_option maxRecDepth 100000 in
theorem j_Sc_measure_27 (T : Nat → ClassId) (q0 : Nat) (q0_ofRows : Nat) (q0_ofVariables : Nat) (q1 : Nat) (q1_a : Nat) (q1_b : Nat) (q1_c : Nat) (Rq1_a : Nat → Nat) (vq0_ofRows : Nat → UInt64) (vq0_ofVariables : Nat → UInt64) (vq1_rows : Int32) (vq1_variables : Int32) (vq1_a : Nat → Nat → UInt64) (zvq0_ofVariables : Nat → UInt64) : ([0, 1, 2, 3, 4, 5, 6, 7, 8, 9].map (fun (i : Nat) => (w_Sc_measure T q0 q0_ofRows q0_ofVariables q1 q1_a q1_b q1_c Rq1_a vq0_ofRows vq0_ofVariables vq1_rows vq1_variables vq1_a)[i]?) = (w_Sc_measureVariables T q0 q0_ofRows q0_ofVariables q1 q1_a q1_b q1_c Rq1_a vq0_ofRows vq0_ofVariables vq1_rows vq1_variables vq1_a).map some) ∧ ([0, 1, 2, 3, 4, 5, 6, 7, 8, 9].map (fun (i : Nat) => (w_Sc_measure T q0 q0_ofRows q0_ofVariables q1 q1_a q1_b q1_c Rq1_a vq0_ofRows zvq0_ofVariables vq1_rows vq1_variables vq1_a)[i]?) = (w_Sc_measureVariables T q0 q0_ofRows q0_ofVariables q1 q1_a q1_b q1_c Rq1_a vq0_ofRows zvq0_ofVariables vq1_rows vq1_variables vq1_a).map some) ∧ ([].map (fun (i : Nat) => (w_Sc_measure T q0 q0_ofRows q0_ofVariables q1 q1_a q1_b q1_c Rq1_a vq0_ofRows vq0_ofVariables vq1_rows vq1_variables vq1_a)[i]?) = [].map (fun (i : Nat) => (w_Sc_measure T q0 q0_ofRows q0_ofVariables q1 q1_a q1_b q1_c Rq1_a vq0_ofRows zvq0_ofVariables vq1_rows vq1_variables vq1_a)[i]?)) ∧ (w_Sc_measureVariables T q0 q0_ofRows q0_ofVariables q1 q1_a q1_b q1_c Rq1_a vq0_ofRows zvq0_ofVariables vq1_rows vq1_variables vq1_a).map Prod.fst = (w_Sc_measureVariables T q0 q0_ofRows q0_ofVariables q1 q1_a q1_b q1_c Rq1_a vq0_ofRows vq0_ofVariables vq1_rows vq1_variables vq1_a).map Prod.fst ∧ (w_Sc_measure T q0 q0_ofRows q0_ofVariables q1 q1_a q1_b q1_c Rq1_a vq0_ofRows zvq0_ofVariables vq1_rows vq1_variables vq1_a).length = 10 :=
  ⟨rfl, rfl, Eq.trans (b := ([] : List (Option (Nat × va_E)))) rfl rfl, rfl, rfl⟩
set_option maxHeartbeats 40000000 in
set_option maxRecDepth 100000 in
theorem c_Sc_measure (l : Launch) (D : va_G) (T : Nat → ClassId) (q0 : Nat) (q0_ofRows : Nat) (q0_ofVariables : Nat) (q1 : Nat) (q1_a : Nat) (q1_b : Nat) (q1_c : Nat) (Rq1_a : Nat → Nat) (vq0_ofRows : Nat → UInt64) (vq0_ofVariables : Nat → UInt64) (vq1_rows : Int32) (vq1_variables : Int32) (vq1_a : Nat → Nat → UInt64) (x2 : Int32) (rm : (Nat → UInt64) × (Nat → UInt64)) (h : s_Sc_measure vq0_ofRows vq0_ofVariables vq1_rows vq1_variables vq1_a x2 = some rm) : CtV l y_Sc_measure (Cond.code y_Sc_measure prog_6_method_2_code 3 none :: BIG) 3 69 D T [.ref q0, .ref q1, .int x2] (w_Sc_measure T q0 q0_ofRows q0_ofVariables q1 q1_a q1_b q1_c Rq1_a vq0_ofRows vq0_ofVariables vq1_rows vq1_variables vq1_a) (fun r => (w_Sc_measure T q0 q0_ofRows q0_ofVariables q1 q1_a q1_b q1_c Rq1_a r.1 r.2 vq1_rows vq1_variables vq1_a)) rm := by
  refine cf_entry (y := y_Sc_measure) (cc := prog_6_method_2_code) (nL := 3) (ret := none) (fr := 3) (lo := 69) (T := T) (av := [.ref q0, .ref q1, .int x2]) (w := (w_Sc_measure T q0 q0_ofRows q0_ofVariables q1 q1_a q1_b q1_c Rq1_a vq0_ofRows vq0_ofVariables vq1_rows vq1_variables vq1_a)) (Qc := cfQv D (fun r => (w_Sc_measure T q0 q0_ofRows q0_ofVariables q1 q1_a q1_b q1_c Rq1_a r.1 r.2 vq1_rows vq1_variables vq1_a)) rm) (by decide) rfl (Nat.le_of_ble_eq_true rfl) ?_
  intro p e s m args below meth c A Q H locs ls hx hb hr hlocks hml hown hts hNW hK hA hQ hP hD hS hl
  have hown : s.vm.findClass "ConeForge$Scales" = some m.cls := hown
  have hl : lv_has ls 3 [(0, .ref q0), (1, .ref q1), (2, .int x2)] := hl
  unfold s_Sc_measure at h
  refine lv_aload_n hx hb d_Sc_measure_0 rfl (lv_at hl 0 rfl) ?_
  refine va_get (D := D) (ci := 2) (v := .ref q0_ofRows) (C := "ConeForge$Scales") (T := FSc) (N := 2) hx hb hts iSc hown hK hP 0 rfl rfl 0 (by decide) (hts _ (bgc bw145)) (fun _ h9 => h9) rfl d_Sc_measure_1 ?_
  refine lv_dconst1 hx hb d_Sc_measure_4 ?_
  obtain ⟨u1, hu1, h⟩ := bi_some h
  have jj2 := j_Sc_measure_5 T q0 q0_ofRows q0_ofVariables q1 q1_a q1_b q1_c Rq1_a vq0_ofRows vq0_ofVariables vq1_rows vq1_variables vq1_a u1
  refine kV2 (wc := (w_Ar_fill T q0_ofRows 5 vq0_ofRows)) (wc' := (w_Ar_fill T q0_ofRows 5 u1)) (w_Sc_measure T q0 q0_ofRows q0_ofVariables q1 q1_a q1_b q1_c Rq1_a u1 vq0_ofVariables vq1_rows vq1_variables vq1_a) (runOS (As := [.ref q0_ofRows, .double FP.dconst1]) (rest := []) ((c_Ar_fill l D T q0_ofRows 5 vq0_ofRows FP.dconst1 u1 hu1) H.size) ⟨hx, hb, hml, hown, hts⟩ (cwOS bw295 bw296 bw110 bw297 dd_Ar_fill hts ⟨Nat.le_of_ble_eq_true rfl, Nat.le_of_ble_eq_true rfl⟩)  hNW hK hP hD [1] jj2.1 (by decide) rfl hl.1 rfl (lv_room (Nat.le_of_ble_eq_true rfl)) d_Sc_measure_5 ⟨Nat.le_of_ble_eq_true rfl, Nat.le_of_ble_eq_true rfl⟩) hP hD hS hA [1] [0, 2, 3, 4, 5, 6, 7, 8, 9] jj2.1 jj2.2.1 jj2.2.2.1 (N := 10) jj2.2.2.2.2 (by decide) jj2.2.2.2.1 (fun H locs hP hD hS => ?_)
  refine lv_aload_n hx hb d_Sc_measure_8 rfl (lv_at hl 0 rfl) ?_
  refine va_get (D := D) (ci := 2) (v := .ref q0_ofVariables) (C := "ConeForge$Scales") (T := FSc) (N := 2) hx hb hts iSc hown hK hP 0 rfl rfl 1 (by decide) (hts _ (bgc bw146)) (fun _ h9 => h9) rfl d_Sc_measure_9 ?_
  refine lv_dconst1 hx hb d_Sc_measure_12 ?_
  obtain ⟨u3, hu3, h⟩ := bi_some h
  have jj4 := j_Sc_measure_13 T q0 q0_ofRows q0_ofVariables q1 q1_a q1_b q1_c Rq1_a u1 vq0_ofVariables vq1_rows vq1_variables vq1_a u3
  refine kV2 (wc := (w_Ar_fill T q0_ofVariables 8 vq0_ofVariables)) (wc' := (w_Ar_fill T q0_ofVariables 8 u3)) (w_Sc_measure T q0 q0_ofRows q0_ofVariables q1 q1_a q1_b q1_c Rq1_a u1 u3 vq1_rows vq1_variables vq1_a) (runOS (As := [.ref q0_ofVariables, .double FP.dconst1]) (rest := []) ((c_Ar_fill l D T q0_ofVariables 8 vq0_ofVariables FP.dconst1 u3 hu3) H.size) ⟨hx, hb, hml, hown, hts⟩ (cwOS bw295 bw296 bw110 bw297 dd_Ar_fill hts ⟨Nat.le_of_ble_eq_true rfl, Nat.le_of_ble_eq_true rfl⟩)  hNW hK hP hD [2] jj4.1 (by decide) rfl hl.1 rfl (lv_room (Nat.le_of_ble_eq_true rfl)) d_Sc_measure_13 ⟨Nat.le_of_ble_eq_true rfl, Nat.le_of_ble_eq_true rfl⟩) hP hD hS hA [2] [0, 1, 3, 4, 5, 6, 7, 8, 9] jj4.1 jj4.2.1 jj4.2.2.1 (N := 10) jj4.2.2.2.2 (by decide) jj4.2.2.2.1 (fun H locs hP hD hS => ?_)
  refine lv_iload_n hx hb d_Sc_measure_16 rfl (lv_at hl 2 rfl) ?_
  refine lv_if_eq (tgt := 30) hx hb d_Sc_measure_17 (by decide) (fun c5 => ?_) (fun c5 => ?_)
  · have h := it_t c5 h
    exact rtV hx hb hr hlocks hQ (Option.some.inj h) hP hS d_Sc_measure_30 rfl
  · have h := it_f c5 h
    refine lv_aload_n hx hb d_Sc_measure_20 rfl (lv_at hl 0 rfl) ?_
    refine lv_aload_n hx hb d_Sc_measure_21 rfl (lv_at hl 1 rfl) ?_
    obtain ⟨u6, hu6, h⟩ := bi_some h
    have jj7 := j_Sc_measure_22 T q0 q0_ofRows q0_ofVariables q1 q1_a q1_b q1_c Rq1_a u1 u3 vq1_rows vq1_variables vq1_a u6
    refine kV2 (wc := (w_Sc_measureRows T q0 q0_ofRows q0_ofVariables q1 q1_a q1_b q1_c Rq1_a u1 vq1_rows vq1_variables vq1_a)) (wc' := (w_Sc_measureRows T q0 q0_ofRows q0_ofVariables q1 q1_a q1_b q1_c Rq1_a u6 vq1_rows vq1_variables vq1_a)) (w_Sc_measure T q0 q0_ofRows q0_ofVariables q1 q1_a q1_b q1_c Rq1_a u6 u3 vq1_rows vq1_variables vq1_a) (runOV (As := [.ref q1]) (rest := []) ((c_Sc_measureRows l D T q0 q0_ofRows q0_ofVariables q1 q1_a q1_b q1_c Rq1_a u1 vq1_rows vq1_variables vq1_a  u6 hu6) H.size) ⟨hx, hb, hml, hown, hts⟩ (cwOV bw298 bw299 bw1 bw99 bw300 dd_Sc_measureRows hts ⟨Nat.le_of_ble_eq_true rfl, Nat.le_of_ble_eq_true rfl⟩) (va_recv hK hP (ci := 2) (q0 := 0) rfl rfl) hNW hK hP hD [0, 1, 3, 4, 5, 6, 7, 8, 9] jj7.1 (by decide) rfl hl.1 rfl (lv_room (Nat.le_of_ble_eq_true rfl)) d_Sc_measure_22 ⟨Nat.le_of_ble_eq_true rfl, Nat.le_of_ble_eq_true rfl⟩) hP hD hS hA [0, 1, 3, 4, 5, 6, 7, 8, 9] [2] jj7.1 jj7.2.1 jj7.2.2.1 (N := 10) jj7.2.2.2.2 (by decide) jj7.2.2.2.1 (fun H locs hP hD hS => ?_)
    refine lv_aload_n hx hb d_Sc_measure_25 rfl (lv_at hl 0 rfl) ?_
    refine lv_aload_n hx hb d_Sc_measure_26 rfl (lv_at hl 1 rfl) ?_
    obtain ⟨u8, hu8, h⟩ := bi_some h
    have jj9 := j_Sc_measure_27 T q0 q0_ofRows q0_ofVariables q1 q1_a q1_b q1_c Rq1_a u6 u3 vq1_rows vq1_variables vq1_a u8
    refine kV2 (wc := (w_Sc_measureVariables T q0 q0_ofRows q0_ofVariables q1 q1_a q1_b q1_c Rq1_a u6 u3 vq1_rows vq1_variables vq1_a)) (wc' := (w_Sc_measureVariables T q0 q0_ofRows q0_ofVariables q1 q1_a q1_b q1_c Rq1_a u6 u8 vq1_rows vq1_variables vq1_a)) (w_Sc_measure T q0 q0_ofRows q0_ofVariables q1 q1_a q1_b q1_c Rq1_a u6 u8 vq1_rows vq1_variables vq1_a) (runOV (As := [.ref q1]) (rest := []) ((c_Sc_measureVariables l D T q0 q0_ofRows q0_ofVariables q1 q1_a q1_b q1_c Rq1_a u6 u3 vq1_rows vq1_variables vq1_a  u8 hu8) H.size) ⟨hx, hb, hml, hown, hts⟩ (cwOV bw313 bw314 bw2 bw99 bw315 dd_Sc_measureVariables hts ⟨Nat.le_of_ble_eq_true rfl, Nat.le_of_ble_eq_true rfl⟩) (va_recv hK hP (ci := 2) (q0 := 0) rfl rfl) hNW hK hP hD [0, 1, 2, 3, 4, 5, 6, 7, 8, 9] jj9.1 (by decide) rfl hl.1 rfl (lv_room (Nat.le_of_ble_eq_true rfl)) d_Sc_measure_27 ⟨Nat.le_of_ble_eq_true rfl, Nat.le_of_ble_eq_true rfl⟩) hP hD hS hA [0, 1, 2, 3, 4, 5, 6, 7, 8, 9] [] jj9.1 jj9.2.1 jj9.2.2.1 (N := 10) jj9.2.2.2.2 (by decide) jj9.2.2.2.1 (fun H locs hP hD hS => ?_)
    exact rtV hx hb hr hlocks hQ (Option.some.inj h) hP hS d_Sc_measure_30 rfl
theorem d_Sc_apply_0 : decode prog_6_method_6_code 0 = .ok (.aload_n 2, 1) := by decide +kernel
theorem d_Sc_apply_1 : decode prog_6_method_6_code 1 = .ok (.aload_n 1, 1) := by decide +kernel
theorem d_Sc_apply_2 : decode prog_6_method_6_code 2 = .ok (.getfield 31, 3) := by decide +kernel
theorem d_Sc_apply_5 : decode prog_6_method_6_code 5 = .ok (.aload_n 1, 1) := by decide +kernel
theorem d_Sc_apply_6 : decode prog_6_method_6_code 6 = .ok (.getfield 41, 3) := by decide +kernel
theorem d_Sc_apply_9 : decode prog_6_method_6_code 9 = .ok (.invokevirtual 61, 3) := by decide +kernel
theorem d_Sc_apply_12 : decode prog_6_method_6_code 12 = .ok (.iconst 0, 1) := by decide +kernel
theorem d_Sc_apply_13 : decode prog_6_method_6_code 13 = .ok (.istore_n 3, 1) := by decide +kernel
theorem d_Sc_apply_14 : decode prog_6_method_6_code 14 = .ok (.iload_n 3, 1) := by decide +kernel
theorem d_Sc_apply_15 : decode prog_6_method_6_code 15 = .ok (.aload_n 1, 1) := by decide +kernel
theorem d_Sc_apply_16 : decode prog_6_method_6_code 16 = .ok (.getfield 31, 3) := by decide +kernel
theorem d_Sc_apply_19 : decode prog_6_method_6_code 19 = .ok (.if_icmp .ge 79, 3) := by decide +kernel
theorem d_Sc_apply_22 : decode prog_6_method_6_code 22 = .ok (.iconst 0, 1) := by decide +kernel
theorem d_Sc_apply_23 : decode prog_6_method_6_code 23 = .ok (.istore 4, 2) := by decide +kernel
theorem d_Sc_apply_25 : decode prog_6_method_6_code 25 = .ok (.iload 4, 2) := by decide +kernel
theorem d_Sc_apply_27 : decode prog_6_method_6_code 27 = .ok (.aload_n 1, 1) := by decide +kernel
theorem d_Sc_apply_28 : decode prog_6_method_6_code 28 = .ok (.getfield 41, 3) := by decide +kernel
theorem d_Sc_apply_31 : decode prog_6_method_6_code 31 = .ok (.if_icmp .ge 42, 3) := by decide +kernel
theorem d_Sc_apply_34 : decode prog_6_method_6_code 34 = .ok (.aload_n 2, 1) := by decide +kernel
theorem d_Sc_apply_35 : decode prog_6_method_6_code 35 = .ok (.getfield 37, 3) := by decide +kernel
theorem d_Sc_apply_38 : decode prog_6_method_6_code 38 = .ok (.iload_n 3, 1) := by decide +kernel
theorem d_Sc_apply_39 : decode prog_6_method_6_code 39 = .ok (.aaload, 1) := by decide +kernel
theorem d_Sc_apply_40 : decode prog_6_method_6_code 40 = .ok (.iload 4, 2) := by decide +kernel
theorem d_Sc_apply_42 : decode prog_6_method_6_code 42 = .ok (.aload_n 0, 1) := by decide +kernel
theorem d_Sc_apply_43 : decode prog_6_method_6_code 43 = .ok (.getfield 9, 3) := by decide +kernel
theorem d_Sc_apply_46 : decode prog_6_method_6_code 46 = .ok (.iload_n 3, 1) := by decide +kernel
theorem d_Sc_apply_47 : decode prog_6_method_6_code 47 = .ok (.daload, 1) := by decide +kernel
theorem d_Sc_apply_48 : decode prog_6_method_6_code 48 = .ok (.aload_n 1, 1) := by decide +kernel
theorem d_Sc_apply_49 : decode prog_6_method_6_code 49 = .ok (.getfield 37, 3) := by decide +kernel
theorem d_Sc_apply_52 : decode prog_6_method_6_code 52 = .ok (.iload_n 3, 1) := by decide +kernel
theorem d_Sc_apply_53 : decode prog_6_method_6_code 53 = .ok (.aaload, 1) := by decide +kernel
theorem d_Sc_apply_54 : decode prog_6_method_6_code 54 = .ok (.iload 4, 2) := by decide +kernel
theorem d_Sc_apply_56 : decode prog_6_method_6_code 56 = .ok (.daload, 1) := by decide +kernel
theorem d_Sc_apply_57 : decode prog_6_method_6_code 57 = .ok (.dmul, 1) := by decide +kernel
theorem d_Sc_apply_58 : decode prog_6_method_6_code 58 = .ok (.aload_n 0, 1) := by decide +kernel
theorem d_Sc_apply_59 : decode prog_6_method_6_code 59 = .ok (.getfield 15, 3) := by decide +kernel
theorem d_Sc_apply_62 : decode prog_6_method_6_code 62 = .ok (.iload 4, 2) := by decide +kernel
theorem d_Sc_apply_64 : decode prog_6_method_6_code 64 = .ok (.daload, 1) := by decide +kernel
theorem d_Sc_apply_65 : decode prog_6_method_6_code 65 = .ok (.dmul, 1) := by decide +kernel
theorem d_Sc_apply_66 : decode prog_6_method_6_code 66 = .ok (.dastore, 1) := by decide +kernel
theorem d_Sc_apply_67 : decode prog_6_method_6_code 67 = .ok (.iinc 4 1, 3) := by decide +kernel
theorem d_Sc_apply_70 : decode prog_6_method_6_code 70 = .ok (.goto (-45), 3) := by decide +kernel
theorem d_Sc_apply_73 : decode prog_6_method_6_code 73 = .ok (.aload_n 2, 1) := by decide +kernel
theorem d_Sc_apply_74 : decode prog_6_method_6_code 74 = .ok (.getfield 65, 3) := by decide +kernel
theorem d_Sc_apply_77 : decode prog_6_method_6_code 77 = .ok (.iload_n 3, 1) := by decide +kernel
theorem d_Sc_apply_78 : decode prog_6_method_6_code 78 = .ok (.aload_n 0, 1) := by decide +kernel
theorem d_Sc_apply_79 : decode prog_6_method_6_code 79 = .ok (.getfield 9, 3) := by decide +kernel
theorem d_Sc_apply_82 : decode prog_6_method_6_code 82 = .ok (.iload_n 3, 1) := by decide +kernel
theorem d_Sc_apply_83 : decode prog_6_method_6_code 83 = .ok (.daload, 1) := by decide +kernel
theorem d_Sc_apply_84 : decode prog_6_method_6_code 84 = .ok (.aload_n 1, 1) := by decide +kernel
theorem d_Sc_apply_85 : decode prog_6_method_6_code 85 = .ok (.getfield 65, 3) := by decide +kernel
theorem d_Sc_apply_88 : decode prog_6_method_6_code 88 = .ok (.iload_n 3, 1) := by decide +kernel
theorem d_Sc_apply_89 : decode prog_6_method_6_code 89 = .ok (.daload, 1) := by decide +kernel
theorem d_Sc_apply_90 : decode prog_6_method_6_code 90 = .ok (.dmul, 1) := by decide +kernel
theorem d_Sc_apply_91 : decode prog_6_method_6_code 91 = .ok (.dastore, 1) := by decide +kernel
theorem d_Sc_apply_92 : decode prog_6_method_6_code 92 = .ok (.iinc 3 1, 3) := by decide +kernel
theorem d_Sc_apply_95 : decode prog_6_method_6_code 95 = .ok (.goto (-81), 3) := by decide +kernel
theorem d_Sc_apply_98 : decode prog_6_method_6_code 98 = .ok (.iconst 0, 1) := by decide +kernel
theorem d_Sc_apply_99 : decode prog_6_method_6_code 99 = .ok (.istore_n 3, 1) := by decide +kernel
theorem d_Sc_apply_100 : decode prog_6_method_6_code 100 = .ok (.iload_n 3, 1) := by decide +kernel
theorem d_Sc_apply_101 : decode prog_6_method_6_code 101 = .ok (.aload_n 1, 1) := by decide +kernel
theorem d_Sc_apply_102 : decode prog_6_method_6_code 102 = .ok (.getfield 41, 3) := by decide +kernel
theorem d_Sc_apply_105 : decode prog_6_method_6_code 105 = .ok (.if_icmp .ge 28, 3) := by decide +kernel
theorem d_Sc_apply_108 : decode prog_6_method_6_code 108 = .ok (.aload_n 2, 1) := by decide +kernel
theorem d_Sc_apply_109 : decode prog_6_method_6_code 109 = .ok (.getfield 68, 3) := by decide +kernel
theorem d_Sc_apply_112 : decode prog_6_method_6_code 112 = .ok (.iload_n 3, 1) := by decide +kernel
theorem d_Sc_apply_113 : decode prog_6_method_6_code 113 = .ok (.aload_n 1, 1) := by decide +kernel
theorem d_Sc_apply_114 : decode prog_6_method_6_code 114 = .ok (.getfield 68, 3) := by decide +kernel
theorem d_Sc_apply_117 : decode prog_6_method_6_code 117 = .ok (.iload_n 3, 1) := by decide +kernel
theorem d_Sc_apply_118 : decode prog_6_method_6_code 118 = .ok (.daload, 1) := by decide +kernel
theorem d_Sc_apply_119 : decode prog_6_method_6_code 119 = .ok (.aload_n 0, 1) := by decide +kernel
theorem d_Sc_apply_120 : decode prog_6_method_6_code 120 = .ok (.getfield 15, 3) := by decide +kernel
theorem d_Sc_apply_123 : decode prog_6_method_6_code 123 = .ok (.iload_n 3, 1) := by decide +kernel
theorem d_Sc_apply_124 : decode prog_6_method_6_code 124 = .ok (.daload, 1) := by decide +kernel
theorem d_Sc_apply_125 : decode prog_6_method_6_code 125 = .ok (.dmul, 1) := by decide +kernel
theorem d_Sc_apply_126 : decode prog_6_method_6_code 126 = .ok (.dastore, 1) := by decide +kernel
theorem d_Sc_apply_127 : decode prog_6_method_6_code 127 = .ok (.iinc 3 1, 3) := by decide +kernel
theorem d_Sc_apply_130 : decode prog_6_method_6_code 130 = .ok (.goto (-30), 3) := by decide +kernel
theorem d_Sc_apply_133 : decode prog_6_method_6_code 133 = .ok (.return_, 1) := by decide +kernel
abbrev w_Sc_apply (T : Nat → ClassId) (q0 : Nat) (q0_ofRows : Nat) (q0_ofVariables : Nat) (q1 : Nat) (q1_a : Nat) (q1_b : Nat) (q1_c : Nat) (Rq1_a : Nat → Nat) (q2 : Nat) (q2_a : Nat) (q2_b : Nat) (q2_c : Nat) (Rq2_a : Nat → Nat) (vq0_ofRows : Nat → UInt64) (vq0_ofVariables : Nat → UInt64) (vq1_rows : Int32) (vq1_variables : Int32) (vq1_a : Nat → Nat → UInt64) (vq1_b : Nat → UInt64) (vq1_c : Nat → UInt64) (vq2_rows : Int32) (vq2_variables : Int32) (vq2_a : Nat → Nat → UInt64) (vq2_b : Nat → UInt64) (vq2_c : Nat → UInt64) : va_W := [(q0, .inr (2, [.ref q0_ofRows, .ref q0_ofVariables])), (q0_ofRows, .inl (T 0, 5, .inr (.inr (.inr (.inl vq0_ofRows))))), (q0_ofVariables, .inl (T 0, 8, .inr (.inr (.inr (.inl vq0_ofVariables))))), (q1, .inr (0, [.int vq1_rows, .int vq1_variables, .ref q1_a, .ref q1_b, .ref q1_c])), (q1_a, .inl (T 3, 5, .inr (.inr (.inr (.inr (fun i => some (Rq1_a i))))))), (Rq1_a 0, .inl (T 0, 8, .inr (.inr (.inr (.inl (vq1_a 0)))))), (Rq1_a 1, .inl (T 0, 8, .inr (.inr (.inr (.inl (vq1_a 1)))))), (Rq1_a 2, .inl (T 0, 8, .inr (.inr (.inr (.inl (vq1_a 2)))))), (Rq1_a 3, .inl (T 0, 8, .inr (.inr (.inr (.inl (vq1_a 3)))))), (Rq1_a 4, .inl (T 0, 8, .inr (.inr (.inr (.inl (vq1_a 4)))))), (q1_b, .inl (T 0, 5, .inr (.inr (.inr (.inl vq1_b))))), (q1_c, .inl (T 0, 8, .inr (.inr (.inr (.inl vq1_c))))), (q2, .inr (0, [.int vq2_rows, .int vq2_variables, .ref q2_a, .ref q2_b, .ref q2_c])), (q2_a, .inl (T 3, 5, .inr (.inr (.inr (.inr (fun i => some (Rq2_a i))))))), (Rq2_a 0, .inl (T 0, 8, .inr (.inr (.inr (.inl (vq2_a 0)))))), (Rq2_a 1, .inl (T 0, 8, .inr (.inr (.inr (.inl (vq2_a 1)))))), (Rq2_a 2, .inl (T 0, 8, .inr (.inr (.inr (.inl (vq2_a 2)))))), (Rq2_a 3, .inl (T 0, 8, .inr (.inr (.inr (.inl (vq2_a 3)))))), (Rq2_a 4, .inl (T 0, 8, .inr (.inr (.inr (.inl (vq2_a 4)))))), (q2_b, .inl (T 0, 5, .inr (.inr (.inr (.inl vq2_b))))), (q2_c, .inl (T 0, 8, .inr (.inr (.inr (.inl vq2_c)))))]
def s_Sc_apply_B100 (vq0_ofRows : Nat → UInt64) (vq0_ofVariables : Nat → UInt64) (vq1_rows : Int32) (vq1_variables : Int32) (vq1_a : Nat → Nat → UInt64) (vq1_b : Nat → UInt64) (vq1_c : Nat → UInt64) (vq2_rows : Int32) (vq2_variables : Int32) (vq2_a : Nat → Nat → UInt64) (vq2_b : Nat → UInt64) (vq2_c : Nat → UInt64) (x3 : Int32) : Option (((Nat → UInt64) × Int32) ⊕ ((Nat → UInt64))) :=
  if vq1_variables ≤ x3 then (some (.inr vq2_c)) else (gd (inb x3 8) <| gd (inb x3 8) <| gd (isn (FP.dmul (vq1_c x3.toNatClampNeg) (vq0_ofVariables x3.toNatClampNeg))) <| gd (inb x3 8) <| some (.inl (vf_upd vq2_c x3.toNatClampNeg (FP.dmul (vq1_c x3.toNatClampNeg) (vq0_ofVariables x3.toNatClampNeg)), x3 + 1)))
def s_Sc_apply_L100 (vq0_ofRows : Nat → UInt64) (vq0_ofVariables : Nat → UInt64) (vq1_rows : Int32) (vq1_variables : Int32) (vq1_a : Nat → Nat → UInt64) (vq1_b : Nat → UInt64) (vq1_c : Nat → UInt64) (vq2_rows : Int32) (vq2_variables : Int32) (vq2_a : Nat → Nat → UInt64) (vq2_b : Nat → UInt64) (vq2_c : Nat → UInt64) (x3 : Int32) : Option (Int32 × Int32 × (Nat → Nat → UInt64) × (Nat → UInt64) × (Nat → UInt64)) :=
  (loopO (fun (st : (Nat → UInt64) × Int32) => s_Sc_apply_B100 vq0_ofRows vq0_ofVariables vq1_rows vq1_variables vq1_a vq1_b vq1_c vq2_rows vq2_variables vq2_a vq2_b st.1 st.2) 2000 (vq2_c, x3)).bind fun ul100 => some (vq2_rows, vq2_variables, vq2_a, vq2_b, ul100)
def s_Sc_apply_B25 (vq0_ofRows : Nat → UInt64) (vq0_ofVariables : Nat → UInt64) (vq1_rows : Int32) (vq1_variables : Int32) (vq1_a : Nat → Nat → UInt64) (vq1_b : Nat → UInt64) (vq1_c : Nat → UInt64) (vq2_rows : Int32) (vq2_variables : Int32) (vq2_b : Nat → UInt64) (vq2_c : Nat → UInt64) (x3 : Int32) (vq2_a : Nat → Nat → UInt64) (x4 : Int32) : Option (((Nat → Nat → UInt64) × Int32) ⊕ ((Nat → Nat → UInt64))) :=
  if vq1_variables ≤ x4 then (some (.inr vq2_a)) else (gd (inb x3 5) <| gd (inb x3 5) <| gd (inb x3 5) <| gd (inb x4 8) <| gd (isn (FP.dmul (vq0_ofRows x3.toNatClampNeg) (vq1_a x3.toNatClampNeg x4.toNatClampNeg))) <| gd (inb x4 8) <| gd (isn (FP.dmul (FP.dmul (vq0_ofRows x3.toNatClampNeg) (vq1_a x3.toNatClampNeg x4.toNatClampNeg)) (vq0_ofVariables x4.toNatClampNeg))) <| gd (inb x4 8) <| some (.inl (gset vq2_a x3.toNatClampNeg (vf_upd (vq2_a x3.toNatClampNeg) x4.toNatClampNeg (FP.dmul (FP.dmul (vq0_ofRows x3.toNatClampNeg) (vq1_a x3.toNatClampNeg x4.toNatClampNeg)) (vq0_ofVariables x4.toNatClampNeg))), x4 + 1)))
def s_Sc_apply_L25 (vq0_ofRows : Nat → UInt64) (vq0_ofVariables : Nat → UInt64) (vq1_rows : Int32) (vq1_variables : Int32) (vq1_a : Nat → Nat → UInt64) (vq1_b : Nat → UInt64) (vq1_c : Nat → UInt64) (vq2_rows : Int32) (vq2_variables : Int32) (vq2_a : Nat → Nat → UInt64) (vq2_b : Nat → UInt64) (vq2_c : Nat → UInt64) (x3 : Int32) (x4 : Int32) : Option (((Nat → Nat → UInt64) × (Nat → UInt64) × Int32) ⊕ ((Nat → Nat → UInt64) × (Nat → UInt64))) :=
  (loopO (fun (st : (Nat → Nat → UInt64) × Int32) => s_Sc_apply_B25 vq0_ofRows vq0_ofVariables vq1_rows vq1_variables vq1_a vq1_b vq1_c vq2_rows vq2_variables vq2_b vq2_c x3 st.1 st.2) 2000 (vq2_a, x4)).bind fun ul25 => gd (inb x3 5) <| gd (inb x3 5) <| gd (isn (FP.dmul (vq0_ofRows x3.toNatClampNeg) (vq1_b x3.toNatClampNeg))) <| gd (inb x3 5) <| some (.inl (ul25, vf_upd vq2_b x3.toNatClampNeg (FP.dmul (vq0_ofRows x3.toNatClampNeg) (vq1_b x3.toNatClampNeg)), x3 + 1))
def s_Sc_apply_B14 (vq0_ofRows : Nat → UInt64) (vq0_ofVariables : Nat → UInt64) (vq1_rows : Int32) (vq1_variables : Int32) (vq1_a : Nat → Nat → UInt64) (vq1_b : Nat → UInt64) (vq1_c : Nat → UInt64) (vq2_rows : Int32) (vq2_variables : Int32) (vq2_c : Nat → UInt64) (vq2_a : Nat → Nat → UInt64) (vq2_b : Nat → UInt64) (x3 : Int32) : Option (((Nat → Nat → UInt64) × (Nat → UInt64) × Int32) ⊕ ((Nat → Nat → UInt64) × (Nat → UInt64))) :=
  if vq1_rows ≤ x3 then (some (.inr (vq2_a, vq2_b))) else (s_Sc_apply_L25 vq0_ofRows vq0_ofVariables vq1_rows vq1_variables vq1_a vq1_b vq1_c vq2_rows vq2_variables vq2_a vq2_b vq2_c x3 0)
def s_Sc_apply_L14 (vq0_ofRows : Nat → UInt64) (vq0_ofVariables : Nat → UInt64) (vq1_rows : Int32) (vq1_variables : Int32) (vq1_a : Nat → Nat → UInt64) (vq1_b : Nat → UInt64) (vq1_c : Nat → UInt64) (vq2_rows : Int32) (vq2_variables : Int32) (vq2_a : Nat → Nat → UInt64) (vq2_b : Nat → UInt64) (vq2_c : Nat → UInt64) (x3 : Int32) : Option (Int32 × Int32 × (Nat → Nat → UInt64) × (Nat → UInt64) × (Nat → UInt64)) :=
  (loopO (fun (st : (Nat → Nat → UInt64) × (Nat → UInt64) × Int32) => s_Sc_apply_B14 vq0_ofRows vq0_ofVariables vq1_rows vq1_variables vq1_a vq1_b vq1_c vq2_rows vq2_variables vq2_c st.1 st.2.1 st.2.2) 2000 (vq2_a, vq2_b, x3)).bind fun ul14 => s_Sc_apply_L100 vq0_ofRows vq0_ofVariables vq1_rows vq1_variables vq1_a vq1_b vq1_c vq2_rows vq2_variables ul14.1 ul14.2 vq2_c 0
def s_Sc_apply (vq0_ofRows : Nat → UInt64) (vq0_ofVariables : Nat → UInt64) (vq1_rows : Int32) (vq1_variables : Int32) (vq1_a : Nat → Nat → UInt64) (vq1_b : Nat → UInt64) (vq1_c : Nat → UInt64) (vq2_rows : Int32) (vq2_variables : Int32) (vq2_a : Nat → Nat → UInt64) (vq2_b : Nat → UInt64) (vq2_c : Nat → UInt64) : Option (Int32 × Int32 × (Nat → Nat → UInt64) × (Nat → UInt64) × (Nat → UInt64)) :=
  (s_Pb_clear vq2_rows vq2_variables vq2_a vq2_b vq2_c vq1_rows vq1_variables).bind fun u21 => s_Sc_apply_L14 vq0_ofRows vq0_ofVariables vq1_rows vq1_variables vq1_a vq1_b vq1_c u21.1 u21.2.1 u21.2.2.1 u21.2.2.2.1 u21.2.2.2.2 0
set_option maxRecDepth 100000 in
theorem j_Sc_apply_9 (T : Nat → ClassId) (q0 : Nat) (q0_ofRows : Nat) (q0_ofVariables : Nat) (q1 : Nat) (q1_a : Nat) (q1_b : Nat) (q1_c : Nat) (Rq1_a : Nat → Nat) (q2 : Nat) (q2_a : Nat) (q2_b : Nat) (q2_c : Nat) (Rq2_a : Nat → Nat) (vq0_ofRows : Nat → UInt64) (vq0_ofVariables : Nat → UInt64) (vq1_rows : Int32) (vq1_variables : Int32) (vq1_a : Nat → Nat → UInt64) (vq1_b : Nat → UInt64) (vq1_c : Nat → UInt64) (vq2_rows : Int32) (vq2_variables : Int32) (vq2_a : Nat → Nat → UInt64) (vq2_b : Nat → UInt64) (vq2_c : Nat → UInt64) (zvq2_rows : Int32) (zvq2_variables : Int32) (zvq2_a : Nat → Nat → UInt64) (zvq2_b : Nat → UInt64) (zvq2_c : Nat → UInt64) : ([12, 13, 14, 15, 16, 17, 18, 19, 20].map (fun (i : Nat) => (w_Sc_apply T q0 q0_ofRows q0_ofVariables q1 q1_a q1_b q1_c Rq1_a q2 q2_a q2_b q2_c Rq2_a vq0_ofRows vq0_ofVariables vq1_rows vq1_variables vq1_a vq1_b vq1_c vq2_rows vq2_variables vq2_a vq2_b vq2_c)[i]?) = (w_Pb_clear T q2 q2_a q2_b q2_c Rq2_a vq2_rows vq2_variables vq2_a vq2_b vq2_c).map some) ∧ ([12, 13, 14, 15, 16, 17, 18, 19, 20].map (fun (i : Nat) => (w_Sc_apply T q0 q0_ofRows q0_ofVariables q1 q1_a q1_b q1_c Rq1_a q2 q2_a q2_b q2_c Rq2_a vq0_ofRows vq0_ofVariables vq1_rows vq1_variables vq1_a vq1_b vq1_c zvq2_rows zvq2_variables zvq2_a zvq2_b zvq2_c)[i]?) = (w_Pb_clear T q2 q2_a q2_b q2_c Rq2_a zvq2_rows zvq2_variables zvq2_a zvq2_b zvq2_c).map some) ∧ ([0, 1, 2, 3, 4, 5, 6, 7, 8, 9, 10, 11].map (fun (i : Nat) => (w_Sc_apply T q0 q0_ofRows q0_ofVariables q1 q1_a q1_b q1_c Rq1_a q2 q2_a q2_b q2_c Rq2_a vq0_ofRows vq0_ofVariables vq1_rows vq1_variables vq1_a vq1_b vq1_c vq2_rows vq2_variables vq2_a vq2_b vq2_c)[i]?) = [0, 1, 2, 3, 4, 5, 6, 7, 8, 9, 10, 11].map (fun (i : Nat) => (w_Sc_apply T q0 q0_ofRows q0_ofVariables q1 q1_a q1_b q1_c Rq1_a q2 q2_a q2_b q2_c Rq2_a vq0_ofRows vq0_ofVariables vq1_rows vq1_variables vq1_a vq1_b vq1_c zvq2_rows zvq2_variables zvq2_a zvq2_b zvq2_c)[i]?)) ∧ (w_Pb_clear T q2 q2_a q2_b q2_c Rq2_a zvq2_rows zvq2_variables zvq2_a zvq2_b zvq2_c).map Prod.fst = (w_Pb_clear T q2 q2_a q2_b q2_c Rq2_a vq2_rows vq2_variables vq2_a vq2_b vq2_c).map Prod.fst ∧ (w_Sc_apply T q0 q0_ofRows q0_ofVariables q1 q1_a q1_b q1_c Rq1_a q2 q2_a q2_b q2_c Rq2_a vq0_ofRows vq0_ofVariables vq1_rows vq1_variables vq1_a vq1_b vq1_c zvq2_rows zvq2_variables zvq2_a zvq2_b zvq2_c).length = 21 :=
  ⟨rfl, rfl, Eq.trans (b := ([some (q0, .inr (2, [.ref q0_ofRows, .ref q0_ofVariables])), some (q0_ofRows, .inl (T 0, 5, .inr (.inr (.inr (.inl vq0_ofRows))))), some (q0_ofVariables, .inl (T 0, 8, .inr (.inr (.inr (.inl vq0_ofVariables))))), some (q1, .inr (0, [.int vq1_rows, .int vq1_variables, .ref q1_a, .ref q1_b, .ref q1_c])), some (q1_a, .inl (T 3, 5, .inr (.inr (.inr (.inr (fun i => some (Rq1_a i))))))), some (Rq1_a 0, .inl (T 0, 8, .inr (.inr (.inr (.inl (vq1_a 0)))))), some (Rq1_a 1, .inl (T 0, 8, .inr (.inr (.inr (.inl (vq1_a 1)))))), some (Rq1_a 2, .inl (T 0, 8, .inr (.inr (.inr (.inl (vq1_a 2)))))), some (Rq1_a 3, .inl (T 0, 8, .inr (.inr (.inr (.inl (vq1_a 3)))))), some (Rq1_a 4, .inl (T 0, 8, .inr (.inr (.inr (.inl (vq1_a 4)))))), some (q1_b, .inl (T 0, 5, .inr (.inr (.inr (.inl vq1_b))))), some (q1_c, .inl (T 0, 8, .inr (.inr (.inr (.inl vq1_c)))))] : List (Option (Nat × va_E)))) rfl rfl, rfl, rfl⟩
set_option maxHeartbeats 40000000 in
set_option maxRecDepth 100000 in
theorem c_Sc_apply (l : Launch) (D : va_G) (T : Nat → ClassId) (q0 : Nat) (q0_ofRows : Nat) (q0_ofVariables : Nat) (q1 : Nat) (q1_a : Nat) (q1_b : Nat) (q1_c : Nat) (Rq1_a : Nat → Nat) (q2 : Nat) (q2_a : Nat) (q2_b : Nat) (q2_c : Nat) (Rq2_a : Nat → Nat) (vq0_ofRows : Nat → UInt64) (vq0_ofVariables : Nat → UInt64) (vq1_rows : Int32) (vq1_variables : Int32) (vq1_a : Nat → Nat → UInt64) (vq1_b : Nat → UInt64) (vq1_c : Nat → UInt64) (vq2_rows : Int32) (vq2_variables : Int32) (vq2_a : Nat → Nat → UInt64) (vq2_b : Nat → UInt64) (vq2_c : Nat → UInt64) (rm : Int32 × Int32 × (Nat → Nat → UInt64) × (Nat → UInt64) × (Nat → UInt64)) (h : s_Sc_apply vq0_ofRows vq0_ofVariables vq1_rows vq1_variables vq1_a vq1_b vq1_c vq2_rows vq2_variables vq2_a vq2_b vq2_c = some rm) : CtV l y_Sc_apply (Cond.code y_Sc_apply prog_6_method_6_code 5 none :: BIG) 2 47 D T [.ref q0, .ref q1, .ref q2] (w_Sc_apply T q0 q0_ofRows q0_ofVariables q1 q1_a q1_b q1_c Rq1_a q2 q2_a q2_b q2_c Rq2_a vq0_ofRows vq0_ofVariables vq1_rows vq1_variables vq1_a vq1_b vq1_c vq2_rows vq2_variables vq2_a vq2_b vq2_c) (fun r => (w_Sc_apply T q0 q0_ofRows q0_ofVariables q1 q1_a q1_b q1_c Rq1_a q2 q2_a q2_b q2_c Rq2_a vq0_ofRows vq0_ofVariables vq1_rows vq1_variables vq1_a vq1_b vq1_c r.1 r.2.1 r.2.2.1 r.2.2.2.1 r.2.2.2.2)) rm := by
  refine cf_entry (y := y_Sc_apply) (cc := prog_6_method_6_code) (nL := 5) (ret := none) (fr := 2) (lo := 47) (T := T) (av := [.ref q0, .ref q1, .ref q2]) (w := (w_Sc_apply T q0 q0_ofRows q0_ofVariables q1 q1_a q1_b q1_c Rq1_a q2 q2_a q2_b q2_c Rq2_a vq0_ofRows vq0_ofVariables vq1_rows vq1_variables vq1_a vq1_b vq1_c vq2_rows vq2_variables vq2_a vq2_b vq2_c)) (Qc := cfQv D (fun r => (w_Sc_apply T q0 q0_ofRows q0_ofVariables q1 q1_a q1_b q1_c Rq1_a q2 q2_a q2_b q2_c Rq2_a vq0_ofRows vq0_ofVariables vq1_rows vq1_variables vq1_a vq1_b vq1_c r.1 r.2.1 r.2.2.1 r.2.2.2.1 r.2.2.2.2)) rm) (by decide) rfl (Nat.le_of_ble_eq_true rfl) ?_
  intro p e s m args below meth c A Q H locs ls hx hb hr hlocks hml hown hts hNW hK hA hQ hP hD hS hl
  have hown : s.vm.findClass "ConeForge$Scales" = some m.cls := hown
  have hl : lv_has ls 5 [(0, .ref q0), (1, .ref q1), (2, .ref q2)] := hl
  have L100 : ∀ (vq2_rows : Int32) (vq2_variables : Int32) (vq2_a : Nat → Nat → UInt64) (vq2_b : Nat → UInt64) (vq2_c : Nat → UInt64) (x3 : Int32), ∀ (H : Heap) (locs : List Loc) (ls : Array Slot), va_P D CL (w_Sc_apply T q0 q0_ofRows q0_ofVariables q1 q1_a q1_b q1_c Rq1_a q2 q2_a q2_b q2_c Rq2_a vq0_ofRows vq0_ofVariables vq1_rows vq1_variables vq1_a vq1_b vq1_c vq2_rows vq2_variables vq2_a vq2_b vq2_c) H → va_D A (w_Sc_apply T q0 q0_ofRows q0_ofVariables q1 q1_a q1_b q1_c Rq1_a q2 q2_a q2_b q2_c Rq2_a vq0_ofRows vq0_ofVariables vq1_rows vq1_variables vq1_a vq1_b vq1_c vq2_rows vq2_variables vq2_a vq2_b vq2_c) → va_S A s.heap H locs → lv_has ls 5 [(0, .ref q0), (1, .ref q1), (2, .ref q2), (3, .int x3)] → s_Sc_apply_L100 vq0_ofRows vq0_ofVariables vq1_rows vq1_variables vq1_a vq1_b vq1_c vq2_rows vq2_variables vq2_a vq2_b vq2_c x3 = some rm → W p l e (rmk 2 47) s m args below meth c H locs 0 0 Q (F0 m 100 ls []) := by
    intro vq2_rows vq2_variables vq2_a vq2_b vq2_c x3 H locs ls hP hD hS hl h
    unfold s_Sc_apply_L100 at h
    obtain ⟨ul100, hul100, h⟩ := bi_some h
    refine loopO_W (Wh := fun (st : (Nat → UInt64) × Int32) => ∀ (H : Heap) (locs : List Loc) (ls : Array Slot), va_P D CL (w_Sc_apply T q0 q0_ofRows q0_ofVariables q1 q1_a q1_b q1_c Rq1_a q2 q2_a q2_b q2_c Rq2_a vq0_ofRows vq0_ofVariables vq1_rows vq1_variables vq1_a vq1_b vq1_c vq2_rows vq2_variables vq2_a vq2_b st.1) H → va_D A (w_Sc_apply T q0 q0_ofRows q0_ofVariables q1 q1_a q1_b q1_c Rq1_a q2 q2_a q2_b q2_c Rq2_a vq0_ofRows vq0_ofVariables vq1_rows vq1_variables vq1_a vq1_b vq1_c vq2_rows vq2_variables vq2_a vq2_b st.1) → va_S A s.heap H locs → lv_has ls 5 [(0, .ref q0), (1, .ref q1), (2, .ref q2), (3, .int st.2)] → W p l e (rmk 2 47) s m args below meth c H locs 0 0 Q (F0 m 100 ls [])) (Wx := fun (e1 : (Nat → UInt64)) => ∀ (H : Heap) (locs : List Loc) (ls : Array Slot), va_P D CL (w_Sc_apply T q0 q0_ofRows q0_ofVariables q1 q1_a q1_b q1_c Rq1_a q2 q2_a q2_b q2_c Rq2_a vq0_ofRows vq0_ofVariables vq1_rows vq1_variables vq1_a vq1_b vq1_c vq2_rows vq2_variables vq2_a vq2_b e1) H → va_D A (w_Sc_apply T q0 q0_ofRows q0_ofVariables q1 q1_a q1_b q1_c Rq1_a q2 q2_a q2_b q2_c Rq2_a vq0_ofRows vq0_ofVariables vq1_rows vq1_variables vq1_a vq1_b vq1_c vq2_rows vq2_variables vq2_a vq2_b e1) → va_S A s.heap H locs → lv_has ls 5 [] → W p l e (rmk 2 47) s m args below meth c H locs 0 0 Q (F0 m 133 ls [])) ?_ 2000 _ ul100 hul100 ?_ H locs ls hP hD hS hl
    · intro st rb100 h kc100 kx100 H locs ls hP hD hS hl
      obtain ⟨vq2_c, x3⟩ := st
      have h : s_Sc_apply_B100 vq0_ofRows vq0_ofVariables vq1_rows vq1_variables vq1_a vq1_b vq1_c vq2_rows vq2_variables vq2_a vq2_b vq2_c x3 = some rb100 := h
      unfold s_Sc_apply_B100 at h
      refine lv_iload_n hx hb d_Sc_apply_100 rfl (lv_at hl 3 rfl) ?_
      refine lv_aload_n hx hb d_Sc_apply_101 rfl (lv_at hl 1 rfl) ?_
      refine va_getN (D := D) (ci := 0) (v := .int vq1_variables) (C := "ConeForge$Problem") (T := FPb) (N := 5) hx hb hts iPb hown hK hP 3 rfl rfl 1 (by decide) (hNW.use nw9) (fun _ h9 => h9) rfl d_Sc_apply_102 ?_
      refine lv_icmp_ge (tgt := 133) hx hb d_Sc_apply_105 (by decide) (fun c1 => ?_) (fun c1 => ?_)
      · have h := it_t c1 h
        exact kx100 _ (Option.some.inj h).symm H locs ls hP hD hS (lv_sub hl [] rfl)
      · have h := it_f c1 h
        refine lv_aload_n hx hb d_Sc_apply_108 rfl (lv_at hl 2 rfl) ?_
        refine va_getN (D := D) (ci := 0) (v := .ref q2_c) (C := "ConeForge$Problem") (T := FPb) (N := 5) hx hb hts iPb hown hK hP 12 rfl rfl 4 (by decide) (hNW.use nw27) (fun _ h9 => h9) rfl d_Sc_apply_109 ?_
        refine lv_iload_n hx hb d_Sc_apply_112 rfl (lv_at hl 3 rfl) ?_
        refine lv_aload_n hx hb d_Sc_apply_113 rfl (lv_at hl 1 rfl) ?_
        refine va_getN (D := D) (ci := 0) (v := .ref q1_c) (C := "ConeForge$Problem") (T := FPb) (N := 5) hx hb hts iPb hown hK hP 3 rfl rfl 4 (by decide) (hNW.use nw27) (fun _ h9 => h9) rfl d_Sc_apply_114 ?_
        refine lv_iload_n hx hb d_Sc_apply_117 rfl (lv_at hl 3 rfl) ?_
        obtain ⟨g2, h⟩ := gd_some h
        refine va_dald hx hb hK hP 11 0 rfl rfl (inb_in g2) d_Sc_apply_118 ?_
        refine lv_aload_n hx hb d_Sc_apply_119 rfl (lv_at hl 0 rfl) ?_
        refine va_get (D := D) (ci := 2) (v := .ref q0_ofVariables) (C := "ConeForge$Scales") (T := FSc) (N := 2) hx hb hts iSc hown hK hP 0 rfl rfl 1 (by decide) (hts _ (bgc bw146)) (fun _ h9 => h9) rfl d_Sc_apply_120 ?_
        refine lv_iload_n hx hb d_Sc_apply_123 rfl (lv_at hl 3 rfl) ?_
        obtain ⟨g3, h⟩ := gd_some h
        refine va_dald hx hb hK hP 2 0 rfl rfl (inb_in g3) d_Sc_apply_124 ?_
        obtain ⟨g4, h⟩ := gd_some h
        refine lv_dmul hx hb d_Sc_apply_125 (isn_n g4) ?_
        obtain ⟨g5, h⟩ := gd_some h
        refine va_dast hx hb hK hP hD hS 20 0 rfl rfl (inb_in g5) d_Sc_apply_126 (fun H locs hP hD hS => ?_)
        have hP : va_P D CL (w_Sc_apply T q0 q0_ofRows q0_ofVariables q1 q1_a q1_b q1_c Rq1_a q2 q2_a q2_b q2_c Rq2_a vq0_ofRows vq0_ofVariables vq1_rows vq1_variables vq1_a vq1_b vq1_c vq2_rows vq2_variables vq2_a vq2_b (vf_upd vq2_c x3.toNatClampNeg (FP.dmul (vq1_c x3.toNatClampNeg) (vq0_ofVariables x3.toNatClampNeg)))) H := hP
        have hD : va_D A (w_Sc_apply T q0 q0_ofRows q0_ofVariables q1 q1_a q1_b q1_c Rq1_a q2 q2_a q2_b q2_c Rq2_a vq0_ofRows vq0_ofVariables vq1_rows vq1_variables vq1_a vq1_b vq1_c vq2_rows vq2_variables vq2_a vq2_b (vf_upd vq2_c x3.toNatClampNeg (FP.dmul (vq1_c x3.toNatClampNeg) (vq0_ofVariables x3.toNatClampNeg)))) := hD
        refine lv_iinc (v := x3 + 1) (lv' := [(3, .int (x3 + 1)), (0, .ref q0), (1, .ref q1), (2, .ref q2)]) hx hb d_Sc_apply_127 hl (k := 3) rfl rfl (by decide) rfl (fun ls hl => ?_)
        refine lv_goto (tgt := 100) hx hb d_Sc_apply_130 (by decide) ?_
        exact kc100 _ (Option.some.inj h).symm H locs ls hP hD hS (lv_sub hl [1, 2, 3, 0] rfl)
    · intro H locs ls hP hD hS hl
      exact rtV hx hb hr hlocks hQ (Option.some.inj h) hP hS d_Sc_apply_133 rfl
  have L14 : ∀ (vq2_rows : Int32) (vq2_variables : Int32) (vq2_a : Nat → Nat → UInt64) (vq2_b : Nat → UInt64) (vq2_c : Nat → UInt64) (x3 : Int32), ∀ (H : Heap) (locs : List Loc) (ls : Array Slot), va_P D CL (w_Sc_apply T q0 q0_ofRows q0_ofVariables q1 q1_a q1_b q1_c Rq1_a q2 q2_a q2_b q2_c Rq2_a vq0_ofRows vq0_ofVariables vq1_rows vq1_variables vq1_a vq1_b vq1_c vq2_rows vq2_variables vq2_a vq2_b vq2_c) H → va_D A (w_Sc_apply T q0 q0_ofRows q0_ofVariables q1 q1_a q1_b q1_c Rq1_a q2 q2_a q2_b q2_c Rq2_a vq0_ofRows vq0_ofVariables vq1_rows vq1_variables vq1_a vq1_b vq1_c vq2_rows vq2_variables vq2_a vq2_b vq2_c) → va_S A s.heap H locs → lv_has ls 5 [(0, .ref q0), (1, .ref q1), (2, .ref q2), (3, .int x3)] → s_Sc_apply_L14 vq0_ofRows vq0_ofVariables vq1_rows vq1_variables vq1_a vq1_b vq1_c vq2_rows vq2_variables vq2_a vq2_b vq2_c x3 = some rm → W p l e (rmk 2 47) s m args below meth c H locs 0 0 Q (F0 m 14 ls []) := by
    intro vq2_rows vq2_variables vq2_a vq2_b vq2_c x3 H locs ls hP hD hS hl h
    unfold s_Sc_apply_L14 at h
    obtain ⟨ul14, hul14, h⟩ := bi_some h
    refine loopO_W (Wh := fun (st : (Nat → Nat → UInt64) × (Nat → UInt64) × Int32) => ∀ (H : Heap) (locs : List Loc) (ls : Array Slot), va_P D CL (w_Sc_apply T q0 q0_ofRows q0_ofVariables q1 q1_a q1_b q1_c Rq1_a q2 q2_a q2_b q2_c Rq2_a vq0_ofRows vq0_ofVariables vq1_rows vq1_variables vq1_a vq1_b vq1_c vq2_rows vq2_variables st.1 st.2.1 vq2_c) H → va_D A (w_Sc_apply T q0 q0_ofRows q0_ofVariables q1 q1_a q1_b q1_c Rq1_a q2 q2_a q2_b q2_c Rq2_a vq0_ofRows vq0_ofVariables vq1_rows vq1_variables vq1_a vq1_b vq1_c vq2_rows vq2_variables st.1 st.2.1 vq2_c) → va_S A s.heap H locs → lv_has ls 5 [(0, .ref q0), (1, .ref q1), (2, .ref q2), (3, .int st.2.2)] → W p l e (rmk 2 47) s m args below meth c H locs 0 0 Q (F0 m 14 ls [])) (Wx := fun (e1 : (Nat → Nat → UInt64) × (Nat → UInt64)) => ∀ (H : Heap) (locs : List Loc) (ls : Array Slot), va_P D CL (w_Sc_apply T q0 q0_ofRows q0_ofVariables q1 q1_a q1_b q1_c Rq1_a q2 q2_a q2_b q2_c Rq2_a vq0_ofRows vq0_ofVariables vq1_rows vq1_variables vq1_a vq1_b vq1_c vq2_rows vq2_variables e1.1 e1.2 vq2_c) H → va_D A (w_Sc_apply T q0 q0_ofRows q0_ofVariables q1 q1_a q1_b q1_c Rq1_a q2 q2_a q2_b q2_c Rq2_a vq0_ofRows vq0_ofVariables vq1_rows vq1_variables vq1_a vq1_b vq1_c vq2_rows vq2_variables e1.1 e1.2 vq2_c) → va_S A s.heap H locs → lv_has ls 5 [(0, .ref q0), (1, .ref q1), (2, .ref q2)] → W p l e (rmk 2 47) s m args below meth c H locs 0 0 Q (F0 m 98 ls [])) ?_ 2000 _ ul14 hul14 ?_ H locs ls hP hD hS hl
    · intro st rb14 h kc14 kx14 H locs ls hP hD hS hl
      obtain ⟨vq2_a, vq2_b, x3⟩ := st
      have h : s_Sc_apply_B14 vq0_ofRows vq0_ofVariables vq1_rows vq1_variables vq1_a vq1_b vq1_c vq2_rows vq2_variables vq2_c vq2_a vq2_b x3 = some rb14 := h
      have L25 : ∀ (vq2_a : Nat → Nat → UInt64) (vq2_b : Nat → UInt64) (x3 : Int32) (x4 : Int32), ∀ (H : Heap) (locs : List Loc) (ls : Array Slot), va_P D CL (w_Sc_apply T q0 q0_ofRows q0_ofVariables q1 q1_a q1_b q1_c Rq1_a q2 q2_a q2_b q2_c Rq2_a vq0_ofRows vq0_ofVariables vq1_rows vq1_variables vq1_a vq1_b vq1_c vq2_rows vq2_variables vq2_a vq2_b vq2_c) H → va_D A (w_Sc_apply T q0 q0_ofRows q0_ofVariables q1 q1_a q1_b q1_c Rq1_a q2 q2_a q2_b q2_c Rq2_a vq0_ofRows vq0_ofVariables vq1_rows vq1_variables vq1_a vq1_b vq1_c vq2_rows vq2_variables vq2_a vq2_b vq2_c) → va_S A s.heap H locs → lv_has ls 5 [(0, .ref q0), (1, .ref q1), (2, .ref q2), (3, .int x3), (4, .int x4)] → s_Sc_apply_L25 vq0_ofRows vq0_ofVariables vq1_rows vq1_variables vq1_a vq1_b vq1_c vq2_rows vq2_variables vq2_a vq2_b vq2_c x3 x4 = some rb14 → W p l e (rmk 2 47) s m args below meth c H locs 0 0 Q (F0 m 25 ls []) := by
        intro vq2_a vq2_b x3 x4 H locs ls hP hD hS hl h
        unfold s_Sc_apply_L25 at h
        obtain ⟨ul25, hul25, h⟩ := bi_some h
        refine loopO_W (Wh := fun (st : (Nat → Nat → UInt64) × Int32) => ∀ (H : Heap) (locs : List Loc) (ls : Array Slot), va_P D CL (w_Sc_apply T q0 q0_ofRows q0_ofVariables q1 q1_a q1_b q1_c Rq1_a q2 q2_a q2_b q2_c Rq2_a vq0_ofRows vq0_ofVariables vq1_rows vq1_variables vq1_a vq1_b vq1_c vq2_rows vq2_variables st.1 vq2_b vq2_c) H → va_D A (w_Sc_apply T q0 q0_ofRows q0_ofVariables q1 q1_a q1_b q1_c Rq1_a q2 q2_a q2_b q2_c Rq2_a vq0_ofRows vq0_ofVariables vq1_rows vq1_variables vq1_a vq1_b vq1_c vq2_rows vq2_variables st.1 vq2_b vq2_c) → va_S A s.heap H locs → lv_has ls 5 [(0, .ref q0), (1, .ref q1), (2, .ref q2), (3, .int x3), (4, .int st.2)] → W p l e (rmk 2 47) s m args below meth c H locs 0 0 Q (F0 m 25 ls [])) (Wx := fun (e1 : (Nat → Nat → UInt64)) => ∀ (H : Heap) (locs : List Loc) (ls : Array Slot), va_P D CL (w_Sc_apply T q0 q0_ofRows q0_ofVariables q1 q1_a q1_b q1_c Rq1_a q2 q2_a q2_b q2_c Rq2_a vq0_ofRows vq0_ofVariables vq1_rows vq1_variables vq1_a vq1_b vq1_c vq2_rows vq2_variables e1 vq2_b vq2_c) H → va_D A (w_Sc_apply T q0 q0_ofRows q0_ofVariables q1 q1_a q1_b q1_c Rq1_a q2 q2_a q2_b q2_c Rq2_a vq0_ofRows vq0_ofVariables vq1_rows vq1_variables vq1_a vq1_b vq1_c vq2_rows vq2_variables e1 vq2_b vq2_c) → va_S A s.heap H locs → lv_has ls 5 [(0, .ref q0), (1, .ref q1), (2, .ref q2), (3, .int x3)] → W p l e (rmk 2 47) s m args below meth c H locs 0 0 Q (F0 m 73 ls [])) ?_ 2000 _ ul25 hul25 ?_ H locs ls hP hD hS hl
        · intro st rb25 h kc25 kx25 H locs ls hP hD hS hl
          obtain ⟨vq2_a, x4⟩ := st
          have h : s_Sc_apply_B25 vq0_ofRows vq0_ofVariables vq1_rows vq1_variables vq1_a vq1_b vq1_c vq2_rows vq2_variables vq2_b vq2_c x3 vq2_a x4 = some rb25 := h
          unfold s_Sc_apply_B25 at h
          refine lv_iload hx hb d_Sc_apply_25 (lv_at hl 4 rfl) ?_
          refine lv_aload_n hx hb d_Sc_apply_27 rfl (lv_at hl 1 rfl) ?_
          refine va_getN (D := D) (ci := 0) (v := .int vq1_variables) (C := "ConeForge$Problem") (T := FPb) (N := 5) hx hb hts iPb hown hK hP 3 rfl rfl 1 (by decide) (hNW.use nw9) (fun _ h9 => h9) rfl d_Sc_apply_28 ?_
          refine lv_icmp_ge (tgt := 73) hx hb d_Sc_apply_31 (by decide) (fun c6 => ?_) (fun c6 => ?_)
          · have h := it_t c6 h
            exact kx25 _ (Option.some.inj h).symm H locs ls hP hD hS (lv_sub hl [0, 1, 2, 3] rfl)
          · have h := it_f c6 h
            refine lv_aload_n hx hb d_Sc_apply_34 rfl (lv_at hl 2 rfl) ?_
            refine va_getN (D := D) (ci := 0) (v := .ref q2_a) (C := "ConeForge$Problem") (T := FPb) (N := 5) hx hb hts iPb hown hK hP 12 rfl rfl 2 (by decide) (hNW.use nw14) (fun _ h9 => h9) rfl d_Sc_apply_35 ?_
            refine lv_iload_n hx hb d_Sc_apply_38 rfl (lv_at hl 3 rfl) ?_
            obtain ⟨g7, h⟩ := gd_some h
            refine va_aldg (f := Rq2_a) hx hb hK hP 13 3 rfl rfl (inb_in g7) d_Sc_apply_39 ?_
            refine lv_iload hx hb d_Sc_apply_40 (lv_at hl 4 rfl) ?_
            refine lv_aload_n hx hb d_Sc_apply_42 rfl (lv_at hl 0 rfl) ?_
            refine va_get (D := D) (ci := 2) (v := .ref q0_ofRows) (C := "ConeForge$Scales") (T := FSc) (N := 2) hx hb hts iSc hown hK hP 0 rfl rfl 0 (by decide) (hts _ (bgc bw145)) (fun _ h9 => h9) rfl d_Sc_apply_43 ?_
            refine lv_iload_n hx hb d_Sc_apply_46 rfl (lv_at hl 3 rfl) ?_
            obtain ⟨g8, h⟩ := gd_some h
            refine va_dald hx hb hK hP 1 0 rfl rfl (inb_in g8) d_Sc_apply_47 ?_
            refine lv_aload_n hx hb d_Sc_apply_48 rfl (lv_at hl 1 rfl) ?_
            refine va_getN (D := D) (ci := 0) (v := .ref q1_a) (C := "ConeForge$Problem") (T := FPb) (N := 5) hx hb hts iPb hown hK hP 3 rfl rfl 2 (by decide) (hNW.use nw14) (fun _ h9 => h9) rfl d_Sc_apply_49 ?_
            refine lv_iload_n hx hb d_Sc_apply_52 rfl (lv_at hl 3 rfl) ?_
            obtain ⟨g9, h⟩ := gd_some h
            refine va_aldg (f := Rq1_a) hx hb hK hP 4 3 rfl rfl (inb_in g9) d_Sc_apply_53 ?_
            refine lv_iload hx hb d_Sc_apply_54 (lv_at hl 4 rfl) ?_
            obtain ⟨g10, h⟩ := gd_some h
            refine va_dald hx hb hK hP (5 + x3.toNatClampNeg) 0 (gk5 (P := fun k => (w_Sc_apply T q0 q0_ofRows q0_ofVariables q1 q1_a q1_b q1_c Rq1_a q2 q2_a q2_b q2_c Rq2_a vq0_ofRows vq0_ofVariables vq1_rows vq1_variables vq1_a vq1_b vq1_c vq2_rows vq2_variables vq2_a vq2_b vq2_c)[5 + k]? = some (Rq1_a k, .inl (T 0, 8, .inr (.inr (.inr (.inl (vq1_a k))))))) rfl rfl rfl rfl rfl _ (inb_lt g9)) rfl (inb_in g10) d_Sc_apply_56 ?_
            obtain ⟨g11, h⟩ := gd_some h
            refine lv_dmul hx hb d_Sc_apply_57 (isn_n g11) ?_
            refine lv_aload_n hx hb d_Sc_apply_58 rfl (lv_at hl 0 rfl) ?_
            refine va_get (D := D) (ci := 2) (v := .ref q0_ofVariables) (C := "ConeForge$Scales") (T := FSc) (N := 2) hx hb hts iSc hown hK hP 0 rfl rfl 1 (by decide) (hts _ (bgc bw146)) (fun _ h9 => h9) rfl d_Sc_apply_59 ?_
            refine lv_iload hx hb d_Sc_apply_62 (lv_at hl 4 rfl) ?_
            obtain ⟨g12, h⟩ := gd_some h
            refine va_dald hx hb hK hP 2 0 rfl rfl (inb_in g12) d_Sc_apply_64 ?_
            obtain ⟨g13, h⟩ := gd_some h
            refine lv_dmul hx hb d_Sc_apply_65 (isn_n g13) ?_
            obtain ⟨g14, h⟩ := gd_some h
            refine va_dast hx hb hK hP hD hS (14 + x3.toNatClampNeg) 0 (gk5 (P := fun k => (w_Sc_apply T q0 q0_ofRows q0_ofVariables q1 q1_a q1_b q1_c Rq1_a q2 q2_a q2_b q2_c Rq2_a vq0_ofRows vq0_ofVariables vq1_rows vq1_variables vq1_a vq1_b vq1_c vq2_rows vq2_variables vq2_a vq2_b vq2_c)[14 + k]? = some (Rq2_a k, .inl (T 0, 8, .inr (.inr (.inr (.inl (vq2_a k))))))) rfl rfl rfl rfl rfl _ (inb_lt g7)) rfl (inb_in g14) d_Sc_apply_66 (fun H locs hP hD hS => ?_)
            have e15 : ∀ zz : Nat → UInt64, (w_Sc_apply T q0 q0_ofRows q0_ofVariables q1 q1_a q1_b q1_c Rq1_a q2 q2_a q2_b q2_c Rq2_a vq0_ofRows vq0_ofVariables vq1_rows vq1_variables vq1_a vq1_b vq1_c vq2_rows vq2_variables vq2_a vq2_b vq2_c).set (14 + x3.toNatClampNeg) (Rq2_a x3.toNatClampNeg, .inl (T 0, 8, .inr (.inr (.inr (.inl zz))))) = (w_Sc_apply T q0 q0_ofRows q0_ofVariables q1 q1_a q1_b q1_c Rq1_a q2 q2_a q2_b q2_c Rq2_a vq0_ofRows vq0_ofVariables vq1_rows vq1_variables vq1_a vq1_b vq1_c vq2_rows vq2_variables (gset vq2_a x3.toNatClampNeg zz) vq2_b vq2_c) := fun zz => gk5 (P := fun k => (w_Sc_apply T q0 q0_ofRows q0_ofVariables q1 q1_a q1_b q1_c Rq1_a q2 q2_a q2_b q2_c Rq2_a vq0_ofRows vq0_ofVariables vq1_rows vq1_variables vq1_a vq1_b vq1_c vq2_rows vq2_variables vq2_a vq2_b vq2_c).set (14 + k) (Rq2_a k, .inl (T 0, 8, .inr (.inr (.inr (.inl zz))))) = (w_Sc_apply T q0 q0_ofRows q0_ofVariables q1 q1_a q1_b q1_c Rq1_a q2 q2_a q2_b q2_c Rq2_a vq0_ofRows vq0_ofVariables vq1_rows vq1_variables vq1_a vq1_b vq1_c vq2_rows vq2_variables (gset vq2_a k zz) vq2_b vq2_c)) rfl rfl rfl rfl rfl _ (inb_lt g7)
            have hP : va_P D CL (w_Sc_apply T q0 q0_ofRows q0_ofVariables q1 q1_a q1_b q1_c Rq1_a q2 q2_a q2_b q2_c Rq2_a vq0_ofRows vq0_ofVariables vq1_rows vq1_variables vq1_a vq1_b vq1_c vq2_rows vq2_variables (gset vq2_a x3.toNatClampNeg (vf_upd (vq2_a x3.toNatClampNeg) x4.toNatClampNeg (FP.dmul (FP.dmul (vq0_ofRows x3.toNatClampNeg) (vq1_a x3.toNatClampNeg x4.toNatClampNeg)) (vq0_ofVariables x4.toNatClampNeg)))) vq2_b vq2_c) H := (e15 _) ▸ hP
            have hD : va_D A (w_Sc_apply T q0 q0_ofRows q0_ofVariables q1 q1_a q1_b q1_c Rq1_a q2 q2_a q2_b q2_c Rq2_a vq0_ofRows vq0_ofVariables vq1_rows vq1_variables vq1_a vq1_b vq1_c vq2_rows vq2_variables (gset vq2_a x3.toNatClampNeg (vf_upd (vq2_a x3.toNatClampNeg) x4.toNatClampNeg (FP.dmul (FP.dmul (vq0_ofRows x3.toNatClampNeg) (vq1_a x3.toNatClampNeg x4.toNatClampNeg)) (vq0_ofVariables x4.toNatClampNeg)))) vq2_b vq2_c) := (e15 _) ▸ hD
            refine lv_iinc (v := x4 + 1) (lv' := [(4, .int (x4 + 1)), (0, .ref q0), (1, .ref q1), (2, .ref q2), (3, .int x3)]) hx hb d_Sc_apply_67 hl (k := 4) rfl rfl (by decide) rfl (fun ls hl => ?_)
            refine lv_goto (tgt := 25) hx hb d_Sc_apply_70 (by decide) ?_
            exact kc25 _ (Option.some.inj h).symm H locs ls hP hD hS (lv_sub hl [1, 2, 3, 4, 0] rfl)
        · intro H locs ls hP hD hS hl
          refine lv_aload_n hx hb d_Sc_apply_73 rfl (lv_at hl 2 rfl) ?_
          refine va_getN (D := D) (ci := 0) (v := .ref q2_b) (C := "ConeForge$Problem") (T := FPb) (N := 5) hx hb hts iPb hown hK hP 12 rfl rfl 3 (by decide) (hNW.use nw22) (fun _ h9 => h9) rfl d_Sc_apply_74 ?_
          refine lv_iload_n hx hb d_Sc_apply_77 rfl (lv_at hl 3 rfl) ?_
          refine lv_aload_n hx hb d_Sc_apply_78 rfl (lv_at hl 0 rfl) ?_
          refine va_get (D := D) (ci := 2) (v := .ref q0_ofRows) (C := "ConeForge$Scales") (T := FSc) (N := 2) hx hb hts iSc hown hK hP 0 rfl rfl 0 (by decide) (hts _ (bgc bw145)) (fun _ h9 => h9) rfl d_Sc_apply_79 ?_
          refine lv_iload_n hx hb d_Sc_apply_82 rfl (lv_at hl 3 rfl) ?_
          obtain ⟨g16, h⟩ := gd_some h
          refine va_dald hx hb hK hP 1 0 rfl rfl (inb_in g16) d_Sc_apply_83 ?_
          refine lv_aload_n hx hb d_Sc_apply_84 rfl (lv_at hl 1 rfl) ?_
          refine va_getN (D := D) (ci := 0) (v := .ref q1_b) (C := "ConeForge$Problem") (T := FPb) (N := 5) hx hb hts iPb hown hK hP 3 rfl rfl 3 (by decide) (hNW.use nw22) (fun _ h9 => h9) rfl d_Sc_apply_85 ?_
          refine lv_iload_n hx hb d_Sc_apply_88 rfl (lv_at hl 3 rfl) ?_
          obtain ⟨g17, h⟩ := gd_some h
          refine va_dald hx hb hK hP 10 0 rfl rfl (inb_in g17) d_Sc_apply_89 ?_
          obtain ⟨g18, h⟩ := gd_some h
          refine lv_dmul hx hb d_Sc_apply_90 (isn_n g18) ?_
          obtain ⟨g19, h⟩ := gd_some h
          refine va_dast hx hb hK hP hD hS 19 0 rfl rfl (inb_in g19) d_Sc_apply_91 (fun H locs hP hD hS => ?_)
          have hP : va_P D CL (w_Sc_apply T q0 q0_ofRows q0_ofVariables q1 q1_a q1_b q1_c Rq1_a q2 q2_a q2_b q2_c Rq2_a vq0_ofRows vq0_ofVariables vq1_rows vq1_variables vq1_a vq1_b vq1_c vq2_rows vq2_variables ul25 (vf_upd vq2_b x3.toNatClampNeg (FP.dmul (vq0_ofRows x3.toNatClampNeg) (vq1_b x3.toNatClampNeg))) vq2_c) H := hP
          have hD : va_D A (w_Sc_apply T q0 q0_ofRows q0_ofVariables q1 q1_a q1_b q1_c Rq1_a q2 q2_a q2_b q2_c Rq2_a vq0_ofRows vq0_ofVariables vq1_rows vq1_variables vq1_a vq1_b vq1_c vq2_rows vq2_variables ul25 (vf_upd vq2_b x3.toNatClampNeg (FP.dmul (vq0_ofRows x3.toNatClampNeg) (vq1_b x3.toNatClampNeg))) vq2_c) := hD
          refine lv_iinc (v := x3 + 1) (lv' := [(3, .int (x3 + 1)), (0, .ref q0), (1, .ref q1), (2, .ref q2)]) hx hb d_Sc_apply_92 hl (k := 3) rfl rfl (by decide) rfl (fun ls hl => ?_)
          refine lv_goto (tgt := 14) hx hb d_Sc_apply_95 (by decide) ?_
          exact kc14 _ (Option.some.inj h).symm H locs ls hP hD hS (lv_sub hl [1, 2, 3, 0] rfl)
      unfold s_Sc_apply_B14 at h
      refine lv_iload_n hx hb d_Sc_apply_14 rfl (lv_at hl 3 rfl) ?_
      refine lv_aload_n hx hb d_Sc_apply_15 rfl (lv_at hl 1 rfl) ?_
      refine va_getN (D := D) (ci := 0) (v := .int vq1_rows) (C := "ConeForge$Problem") (T := FPb) (N := 5) hx hb hts iPb hown hK hP 3 rfl rfl 0 (by decide) (hNW.use nw2) (fun _ h9 => h9) rfl d_Sc_apply_16 ?_
      refine lv_icmp_ge (tgt := 98) hx hb d_Sc_apply_19 (by decide) (fun c20 => ?_) (fun c20 => ?_)
      · have h := it_t c20 h
        exact kx14 _ (Option.some.inj h).symm H locs ls hP hD hS (lv_sub hl [0, 1, 2] rfl)
      · have h := it_f c20 h
        refine lv_iconst (v := 0) hx hb d_Sc_apply_22 (by decide) ?_
        refine lv_istore (lv' := [(4, .int 0), (0, .ref q0), (1, .ref q1), (2, .ref q2), (3, .int x3)]) hx hb d_Sc_apply_23 hl (by decide) rfl (fun ls hl => ?_)
        exact L25 vq2_a vq2_b x3 0 H locs ls hP hD hS (lv_sub hl [1, 2, 3, 4, 0] rfl) h
    · intro H locs ls hP hD hS hl
      refine lv_iconst (v := 0) hx hb d_Sc_apply_98 (by decide) ?_
      refine lv_istore_n (lv' := [(3, .int 0), (0, .ref q0), (1, .ref q1), (2, .ref q2)]) hx hb d_Sc_apply_99 rfl hl (by decide) rfl (fun ls hl => ?_)
      exact L100 vq2_rows vq2_variables ul14.1 ul14.2 vq2_c 0 H locs ls hP hD hS (lv_sub hl [1, 2, 3, 0] rfl) h
  unfold s_Sc_apply at h
  refine lv_aload_n hx hb d_Sc_apply_0 rfl (lv_at hl 2 rfl) ?_
  refine lv_aload_n hx hb d_Sc_apply_1 rfl (lv_at hl 1 rfl) ?_
  refine va_getN (D := D) (ci := 0) (v := .int vq1_rows) (C := "ConeForge$Problem") (T := FPb) (N := 5) hx hb hts iPb hown hK hP 3 rfl rfl 0 (by decide) (hNW.use nw2) (fun _ h9 => h9) rfl d_Sc_apply_2 ?_
  refine lv_aload_n hx hb d_Sc_apply_5 rfl (lv_at hl 1 rfl) ?_
  refine va_getN (D := D) (ci := 0) (v := .int vq1_variables) (C := "ConeForge$Problem") (T := FPb) (N := 5) hx hb hts iPb hown hK hP 3 rfl rfl 1 (by decide) (hNW.use nw9) (fun _ h9 => h9) rfl d_Sc_apply_6 ?_
  obtain ⟨u21, hu21, h⟩ := bi_some h
  have jj22 := j_Sc_apply_9 T q0 q0_ofRows q0_ofVariables q1 q1_a q1_b q1_c Rq1_a q2 q2_a q2_b q2_c Rq2_a vq0_ofRows vq0_ofVariables vq1_rows vq1_variables vq1_a vq1_b vq1_c vq2_rows vq2_variables vq2_a vq2_b vq2_c u21.1 u21.2.1 u21.2.2.1 u21.2.2.2.1 u21.2.2.2.2
  refine kV2 (wc := (w_Pb_clear T q2 q2_a q2_b q2_c Rq2_a vq2_rows vq2_variables vq2_a vq2_b vq2_c)) (wc' := (w_Pb_clear T q2 q2_a q2_b q2_c Rq2_a u21.1 u21.2.1 u21.2.2.1 u21.2.2.2.1 u21.2.2.2.2)) (w_Sc_apply T q0 q0_ofRows q0_ofVariables q1 q1_a q1_b q1_c Rq1_a q2 q2_a q2_b q2_c Rq2_a vq0_ofRows vq0_ofVariables vq1_rows vq1_variables vq1_a vq1_b vq1_c u21.1 u21.2.1 u21.2.2.1 u21.2.2.2.1 u21.2.2.2.2) (runNV (As := [.int vq1_rows, .int vq1_variables]) (rest := []) ((c_Pb_clear l D T q2 q2_a q2_b q2_c Rq2_a vq2_rows vq2_variables vq2_a vq2_b vq2_c vq1_rows vq1_variables u21 hu21) H.size) ⟨hx, hb, hml, hown, hts⟩ (cwNV nw68 bw318 bw4 bw98 bw319 dd_Pb_clear hts hNW ⟨Nat.le_of_ble_eq_true rfl, Nat.le_of_ble_eq_true rfl⟩) (va_recv hK hP (ci := 0) (q0 := 12) rfl rfl) hNW hK hP hD [12, 13, 14, 15, 16, 17, 18, 19, 20] jj22.1 (by decide) rfl hl.1 rfl (lv_room (Nat.le_of_ble_eq_true rfl)) d_Sc_apply_9 ⟨Nat.le_of_ble_eq_true rfl, Nat.le_of_ble_eq_true rfl⟩) hP hD hS hA [12, 13, 14, 15, 16, 17, 18, 19, 20] [0, 1, 2, 3, 4, 5, 6, 7, 8, 9, 10, 11] jj22.1 jj22.2.1 jj22.2.2.1 (N := 21) jj22.2.2.2.2 (by decide) jj22.2.2.2.1 (fun H locs hP hD hS => ?_)
  refine lv_iconst (v := 0) hx hb d_Sc_apply_12 (by decide) ?_
  refine lv_istore_n (lv' := [(3, .int 0), (0, .ref q0), (1, .ref q1), (2, .ref q2)]) hx hb d_Sc_apply_13 rfl hl (by decide) rfl (fun ls hl => ?_)
  exact L14 u21.1 u21.2.1 u21.2.2.1 u21.2.2.2.1 u21.2.2.2.2 0 H locs ls hP hD hS (lv_sub hl [1, 2, 3, 0] rfl) h
theorem d_Sc_unscale_0 : decode prog_6_method_7_code 0 = .ok (.iconst 0, 1) := by decide +kernel
theorem d_Sc_unscale_1 : decode prog_6_method_7_code 1 = .ok (.istore_n 3, 1) := by decide +kernel
theorem d_Sc_unscale_2 : decode prog_6_method_7_code 2 = .ok (.iload_n 3, 1) := by decide +kernel
theorem d_Sc_unscale_3 : decode prog_6_method_7_code 3 = .ok (.bipush 8, 2) := by decide +kernel
theorem d_Sc_unscale_5 : decode prog_6_method_7_code 5 = .ok (.if_icmp .ge 47, 3) := by decide +kernel
theorem d_Sc_unscale_8 : decode prog_6_method_7_code 8 = .ok (.aload_n 2, 1) := by decide +kernel
theorem d_Sc_unscale_9 : decode prog_6_method_7_code 9 = .ok (.getfield 71, 3) := by decide +kernel
theorem d_Sc_unscale_12 : decode prog_6_method_7_code 12 = .ok (.iload_n 3, 1) := by decide +kernel
theorem d_Sc_unscale_13 : decode prog_6_method_7_code 13 = .ok (.aload_n 0, 1) := by decide +kernel
theorem d_Sc_unscale_14 : decode prog_6_method_7_code 14 = .ok (.getfield 15, 3) := by decide +kernel
theorem d_Sc_unscale_17 : decode prog_6_method_7_code 17 = .ok (.iload_n 3, 1) := by decide +kernel
theorem d_Sc_unscale_18 : decode prog_6_method_7_code 18 = .ok (.daload, 1) := by decide +kernel
theorem d_Sc_unscale_19 : decode prog_6_method_7_code 19 = .ok (.aload_n 1, 1) := by decide +kernel
theorem d_Sc_unscale_20 : decode prog_6_method_7_code 20 = .ok (.getfield 71, 3) := by decide +kernel
theorem d_Sc_unscale_23 : decode prog_6_method_7_code 23 = .ok (.iload_n 3, 1) := by decide +kernel
theorem d_Sc_unscale_24 : decode prog_6_method_7_code 24 = .ok (.daload, 1) := by decide +kernel
theorem d_Sc_unscale_25 : decode prog_6_method_7_code 25 = .ok (.dmul, 1) := by decide +kernel
theorem d_Sc_unscale_26 : decode prog_6_method_7_code 26 = .ok (.dastore, 1) := by decide +kernel
theorem d_Sc_unscale_27 : decode prog_6_method_7_code 27 = .ok (.aload_n 2, 1) := by decide +kernel
theorem d_Sc_unscale_28 : decode prog_6_method_7_code 28 = .ok (.getfield 76, 3) := by decide +kernel
theorem d_Sc_unscale_31 : decode prog_6_method_7_code 31 = .ok (.iload_n 3, 1) := by decide +kernel
theorem d_Sc_unscale_32 : decode prog_6_method_7_code 32 = .ok (.aload_n 1, 1) := by decide +kernel
theorem d_Sc_unscale_33 : decode prog_6_method_7_code 33 = .ok (.getfield 76, 3) := by decide +kernel
theorem d_Sc_unscale_36 : decode prog_6_method_7_code 36 = .ok (.iload_n 3, 1) := by decide +kernel
theorem d_Sc_unscale_37 : decode prog_6_method_7_code 37 = .ok (.daload, 1) := by decide +kernel
theorem d_Sc_unscale_38 : decode prog_6_method_7_code 38 = .ok (.aload_n 0, 1) := by decide +kernel
theorem d_Sc_unscale_39 : decode prog_6_method_7_code 39 = .ok (.getfield 15, 3) := by decide +kernel
theorem d_Sc_unscale_42 : decode prog_6_method_7_code 42 = .ok (.iload_n 3, 1) := by decide +kernel
theorem d_Sc_unscale_43 : decode prog_6_method_7_code 43 = .ok (.daload, 1) := by decide +kernel
theorem d_Sc_unscale_44 : decode prog_6_method_7_code 44 = .ok (.ddiv, 1) := by decide +kernel
theorem d_Sc_unscale_45 : decode prog_6_method_7_code 45 = .ok (.dastore, 1) := by decide +kernel
theorem d_Sc_unscale_46 : decode prog_6_method_7_code 46 = .ok (.iinc 3 1, 3) := by decide +kernel
theorem d_Sc_unscale_49 : decode prog_6_method_7_code 49 = .ok (.goto (-47), 3) := by decide +kernel
theorem d_Sc_unscale_52 : decode prog_6_method_7_code 52 = .ok (.iconst 0, 1) := by decide +kernel
theorem d_Sc_unscale_53 : decode prog_6_method_7_code 53 = .ok (.istore_n 3, 1) := by decide +kernel
theorem d_Sc_unscale_54 : decode prog_6_method_7_code 54 = .ok (.iload_n 3, 1) := by decide +kernel
theorem d_Sc_unscale_55 : decode prog_6_method_7_code 55 = .ok (.iconst 5, 1) := by decide +kernel
theorem d_Sc_unscale_56 : decode prog_6_method_7_code 56 = .ok (.if_icmp .ge 28, 3) := by decide +kernel
theorem d_Sc_unscale_59 : decode prog_6_method_7_code 59 = .ok (.aload_n 2, 1) := by decide +kernel
theorem d_Sc_unscale_60 : decode prog_6_method_7_code 60 = .ok (.getfield 79, 3) := by decide +kernel
theorem d_Sc_unscale_63 : decode prog_6_method_7_code 63 = .ok (.iload_n 3, 1) := by decide +kernel
theorem d_Sc_unscale_64 : decode prog_6_method_7_code 64 = .ok (.aload_n 0, 1) := by decide +kernel
theorem d_Sc_unscale_65 : decode prog_6_method_7_code 65 = .ok (.getfield 9, 3) := by decide +kernel
theorem d_Sc_unscale_68 : decode prog_6_method_7_code 68 = .ok (.iload_n 3, 1) := by decide +kernel
theorem d_Sc_unscale_69 : decode prog_6_method_7_code 69 = .ok (.daload, 1) := by decide +kernel
theorem d_Sc_unscale_70 : decode prog_6_method_7_code 70 = .ok (.aload_n 1, 1) := by decide +kernel
theorem d_Sc_unscale_71 : decode prog_6_method_7_code 71 = .ok (.getfield 79, 3) := by decide +kernel
theorem d_Sc_unscale_74 : decode prog_6_method_7_code 74 = .ok (.iload_n 3, 1) := by decide +kernel
theorem d_Sc_unscale_75 : decode prog_6_method_7_code 75 = .ok (.daload, 1) := by decide +kernel
theorem d_Sc_unscale_76 : decode prog_6_method_7_code 76 = .ok (.dmul, 1) := by decide +kernel
theorem d_Sc_unscale_77 : decode prog_6_method_7_code 77 = .ok (.dastore, 1) := by decide +kernel
theorem d_Sc_unscale_78 : decode prog_6_method_7_code 78 = .ok (.iinc 3 1, 3) := by decide +kernel
theorem d_Sc_unscale_81 : decode prog_6_method_7_code 81 = .ok (.goto (-27), 3) := by decide +kernel
theorem d_Sc_unscale_84 : decode prog_6_method_7_code 84 = .ok (.return_, 1) := by decide +kernel
abbrev w_Sc_unscale (T : Nat → ClassId) (q0 : Nat) (q0_ofRows : Nat) (q0_ofVariables : Nat) (q1 : Nat) (q1_x : Nat) (q1_s : Nat) (q1_y : Nat) (q2 : Nat) (q2_x : Nat) (q2_s : Nat) (q2_y : Nat) (vq0_ofRows : Nat → UInt64) (vq0_ofVariables : Nat → UInt64) (vq1_x : Nat → UInt64) (vq1_s : Nat → UInt64) (vq1_y : Nat → UInt64) (vq2_x : Nat → UInt64) (vq2_s : Nat → UInt64) (vq2_y : Nat → UInt64) : va_W := [(q0, .inr (2, [.ref q0_ofRows, .ref q0_ofVariables])), (q0_ofRows, .inl (T 0, 5, .inr (.inr (.inr (.inl vq0_ofRows))))), (q0_ofVariables, .inl (T 0, 8, .inr (.inr (.inr (.inl vq0_ofVariables))))), (q1, .inr (1, [.ref q1_x, .ref q1_s, .ref q1_y])), (q1_x, .inl (T 0, 8, .inr (.inr (.inr (.inl vq1_x))))), (q1_s, .inl (T 0, 8, .inr (.inr (.inr (.inl vq1_s))))), (q1_y, .inl (T 0, 5, .inr (.inr (.inr (.inl vq1_y))))), (q2, .inr (1, [.ref q2_x, .ref q2_s, .ref q2_y])), (q2_x, .inl (T 0, 8, .inr (.inr (.inr (.inl vq2_x))))), (q2_s, .inl (T 0, 8, .inr (.inr (.inr (.inl vq2_s))))), (q2_y, .inl (T 0, 5, .inr (.inr (.inr (.inl vq2_y)))))]
def s_Sc_unscale_B54 (vq0_ofRows : Nat → UInt64) (vq0_ofVariables : Nat → UInt64) (vq1_x : Nat → UInt64) (vq1_s : Nat → UInt64) (vq1_y : Nat → UInt64) (vq2_x : Nat → UInt64) (vq2_s : Nat → UInt64) (vq2_y : Nat → UInt64) (x3 : Int32) : Option (((Nat → UInt64) × Int32) ⊕ ((Nat → UInt64))) :=
  if 5 ≤ x3 then (some (.inr vq2_y)) else (gd (inb x3 5) <| gd (inb x3 5) <| gd (isn (FP.dmul (vq0_ofRows x3.toNatClampNeg) (vq1_y x3.toNatClampNeg))) <| gd (inb x3 5) <| some (.inl (vf_upd vq2_y x3.toNatClampNeg (FP.dmul (vq0_ofRows x3.toNatClampNeg) (vq1_y x3.toNatClampNeg)), x3 + 1)))
def s_Sc_unscale_L54 (vq0_ofRows : Nat → UInt64) (vq0_ofVariables : Nat → UInt64) (vq1_x : Nat → UInt64) (vq1_s : Nat → UInt64) (vq1_y : Nat → UInt64) (vq2_x : Nat → UInt64) (vq2_s : Nat → UInt64) (vq2_y : Nat → UInt64) (x3 : Int32) : Option ((Nat → UInt64) × (Nat → UInt64) × (Nat → UInt64)) :=
  (loopO (fun (st : (Nat → UInt64) × Int32) => s_Sc_unscale_B54 vq0_ofRows vq0_ofVariables vq1_x vq1_s vq1_y vq2_x vq2_s st.1 st.2) 2000 (vq2_y, x3)).bind fun ul54 => some (vq2_x, vq2_s, ul54)
def s_Sc_unscale_B2 (vq0_ofRows : Nat → UInt64) (vq0_ofVariables : Nat → UInt64) (vq1_x : Nat → UInt64) (vq1_s : Nat → UInt64) (vq1_y : Nat → UInt64) (vq2_y : Nat → UInt64) (vq2_x : Nat → UInt64) (vq2_s : Nat → UInt64) (x3 : Int32) : Option (((Nat → UInt64) × (Nat → UInt64) × Int32) ⊕ ((Nat → UInt64) × (Nat → UInt64))) :=
  if 8 ≤ x3 then (some (.inr (vq2_x, vq2_s))) else (gd (inb x3 8) <| gd (inb x3 8) <| gd (isn (FP.dmul (vq0_ofVariables x3.toNatClampNeg) (vq1_x x3.toNatClampNeg))) <| gd (inb x3 8) <| gd (inb x3 8) <| gd (inb x3 8) <| gd (isn (FP.ddiv (vq1_s x3.toNatClampNeg) (vq0_ofVariables x3.toNatClampNeg))) <| gd (inb x3 8) <| some (.inl (vf_upd vq2_x x3.toNatClampNeg (FP.dmul (vq0_ofVariables x3.toNatClampNeg) (vq1_x x3.toNatClampNeg)), vf_upd vq2_s x3.toNatClampNeg (FP.ddiv (vq1_s x3.toNatClampNeg) (vq0_ofVariables x3.toNatClampNeg)), x3 + 1)))
def s_Sc_unscale_L2 (vq0_ofRows : Nat → UInt64) (vq0_ofVariables : Nat → UInt64) (vq1_x : Nat → UInt64) (vq1_s : Nat → UInt64) (vq1_y : Nat → UInt64) (vq2_x : Nat → UInt64) (vq2_s : Nat → UInt64) (vq2_y : Nat → UInt64) (x3 : Int32) : Option ((Nat → UInt64) × (Nat → UInt64) × (Nat → UInt64)) :=
  (loopO (fun (st : (Nat → UInt64) × (Nat → UInt64) × Int32) => s_Sc_unscale_B2 vq0_ofRows vq0_ofVariables vq1_x vq1_s vq1_y vq2_y st.1 st.2.1 st.2.2) 2000 (vq2_x, vq2_s, x3)).bind fun ul2 => s_Sc_unscale_L54 vq0_ofRows vq0_ofVariables vq1_x vq1_s vq1_y ul2.1 ul2.2 vq2_y 0
def s_Sc_unscale (vq0_ofRows : Nat → UInt64) (vq0_ofVariables : Nat → UInt64) (vq1_x : Nat → UInt64) (vq1_s : Nat → UInt64) (vq1_y : Nat → UInt64) (vq2_x : Nat → UInt64) (vq2_s : Nat → UInt64) (vq2_y : Nat → UInt64) : Option ((Nat → UInt64) × (Nat → UInt64) × (Nat → UInt64)) :=
  s_Sc_unscale_L2 vq0_ofRows vq0_ofVariables vq1_x vq1_s vq1_y vq2_x vq2_s vq2_y 0
set_option maxHeartbeats 40000000 in
set_option maxRecDepth 100000 in
theorem c_Sc_unscale (l : Launch) (D : va_G) (T : Nat → ClassId) (q0 : Nat) (q0_ofRows : Nat) (q0_ofVariables : Nat) (q1 : Nat) (q1_x : Nat) (q1_s : Nat) (q1_y : Nat) (q2 : Nat) (q2_x : Nat) (q2_s : Nat) (q2_y : Nat) (vq0_ofRows : Nat → UInt64) (vq0_ofVariables : Nat → UInt64) (vq1_x : Nat → UInt64) (vq1_s : Nat → UInt64) (vq1_y : Nat → UInt64) (vq2_x : Nat → UInt64) (vq2_s : Nat → UInt64) (vq2_y : Nat → UInt64) (rm : (Nat → UInt64) × (Nat → UInt64) × (Nat → UInt64)) (h : s_Sc_unscale vq0_ofRows vq0_ofVariables vq1_x vq1_s vq1_y vq2_x vq2_s vq2_y = some rm) : CtV l y_Sc_unscale (Cond.code y_Sc_unscale prog_6_method_7_code 4 none :: BIG) 0 0 D T [.ref q0, .ref q1, .ref q2] (w_Sc_unscale T q0 q0_ofRows q0_ofVariables q1 q1_x q1_s q1_y q2 q2_x q2_s q2_y vq0_ofRows vq0_ofVariables vq1_x vq1_s vq1_y vq2_x vq2_s vq2_y) (fun r => (w_Sc_unscale T q0 q0_ofRows q0_ofVariables q1 q1_x q1_s q1_y q2 q2_x q2_s q2_y vq0_ofRows vq0_ofVariables vq1_x vq1_s vq1_y r.1 r.2.1 r.2.2)) rm := by
  refine cf_entry (y := y_Sc_unscale) (cc := prog_6_method_7_code) (nL := 4) (ret := none) (fr := 0) (lo := 0) (T := T) (av := [.ref q0, .ref q1, .ref q2]) (w := (w_Sc_unscale T q0 q0_ofRows q0_ofVariables q1 q1_x q1_s q1_y q2 q2_x q2_s q2_y vq0_ofRows vq0_ofVariables vq1_x vq1_s vq1_y vq2_x vq2_s vq2_y)) (Qc := cfQv D (fun r => (w_Sc_unscale T q0 q0_ofRows q0_ofVariables q1 q1_x q1_s q1_y q2 q2_x q2_s q2_y vq0_ofRows vq0_ofVariables vq1_x vq1_s vq1_y r.1 r.2.1 r.2.2)) rm) (by decide) rfl (Nat.le_of_ble_eq_true rfl) ?_
  intro p e s m args below meth c A Q H locs ls hx hb hr hlocks hml hown hts hNW hK hA hQ hP hD hS hl
  have hown : s.vm.findClass "ConeForge$Scales" = some m.cls := hown
  have hl : lv_has ls 4 [(0, .ref q0), (1, .ref q1), (2, .ref q2)] := hl
  have L54 : ∀ (vq2_x : Nat → UInt64) (vq2_s : Nat → UInt64) (vq2_y : Nat → UInt64) (x3 : Int32), ∀ (H : Heap) (locs : List Loc) (ls : Array Slot), va_P D CL (w_Sc_unscale T q0 q0_ofRows q0_ofVariables q1 q1_x q1_s q1_y q2 q2_x q2_s q2_y vq0_ofRows vq0_ofVariables vq1_x vq1_s vq1_y vq2_x vq2_s vq2_y) H → va_D A (w_Sc_unscale T q0 q0_ofRows q0_ofVariables q1 q1_x q1_s q1_y q2 q2_x q2_s q2_y vq0_ofRows vq0_ofVariables vq1_x vq1_s vq1_y vq2_x vq2_s vq2_y) → va_S A s.heap H locs → lv_has ls 4 [(0, .ref q0), (1, .ref q1), (2, .ref q2), (3, .int x3)] → s_Sc_unscale_L54 vq0_ofRows vq0_ofVariables vq1_x vq1_s vq1_y vq2_x vq2_s vq2_y x3 = some rm → W p l e (rmk 0 0) s m args below meth c H locs 0 0 Q (F0 m 54 ls []) := by
    intro vq2_x vq2_s vq2_y x3 H locs ls hP hD hS hl h
    unfold s_Sc_unscale_L54 at h
    obtain ⟨ul54, hul54, h⟩ := bi_some h
    refine loopO_W (Wh := fun (st : (Nat → UInt64) × Int32) => ∀ (H : Heap) (locs : List Loc) (ls : Array Slot), va_P D CL (w_Sc_unscale T q0 q0_ofRows q0_ofVariables q1 q1_x q1_s q1_y q2 q2_x q2_s q2_y vq0_ofRows vq0_ofVariables vq1_x vq1_s vq1_y vq2_x vq2_s st.1) H → va_D A (w_Sc_unscale T q0 q0_ofRows q0_ofVariables q1 q1_x q1_s q1_y q2 q2_x q2_s q2_y vq0_ofRows vq0_ofVariables vq1_x vq1_s vq1_y vq2_x vq2_s st.1) → va_S A s.heap H locs → lv_has ls 4 [(0, .ref q0), (1, .ref q1), (2, .ref q2), (3, .int st.2)] → W p l e (rmk 0 0) s m args below meth c H locs 0 0 Q (F0 m 54 ls [])) (Wx := fun (e1 : (Nat → UInt64)) => ∀ (H : Heap) (locs : List Loc) (ls : Array Slot), va_P D CL (w_Sc_unscale T q0 q0_ofRows q0_ofVariables q1 q1_x q1_s q1_y q2 q2_x q2_s q2_y vq0_ofRows vq0_ofVariables vq1_x vq1_s vq1_y vq2_x vq2_s e1) H → va_D A (w_Sc_unscale T q0 q0_ofRows q0_ofVariables q1 q1_x q1_s q1_y q2 q2_x q2_s q2_y vq0_ofRows vq0_ofVariables vq1_x vq1_s vq1_y vq2_x vq2_s e1) → va_S A s.heap H locs → lv_has ls 4 [] → W p l e (rmk 0 0) s m args below meth c H locs 0 0 Q (F0 m 84 ls [])) ?_ 2000 _ ul54 hul54 ?_ H locs ls hP hD hS hl
    · intro st rb54 h kc54 kx54 H locs ls hP hD hS hl
      obtain ⟨vq2_y, x3⟩ := st
      have h : s_Sc_unscale_B54 vq0_ofRows vq0_ofVariables vq1_x vq1_s vq1_y vq2_x vq2_s vq2_y x3 = some rb54 := h
      unfold s_Sc_unscale_B54 at h
      refine lv_iload_n hx hb d_Sc_unscale_54 rfl (lv_at hl 3 rfl) ?_
      refine lv_iconst (v := 5) hx hb d_Sc_unscale_55 (by decide) ?_
      refine lv_icmp_ge (tgt := 84) hx hb d_Sc_unscale_56 (by decide) (fun c1 => ?_) (fun c1 => ?_)
      · have h := it_t c1 h
        exact kx54 _ (Option.some.inj h).symm H locs ls hP hD hS (lv_sub hl [] rfl)
      · have h := it_f c1 h
        refine lv_aload_n hx hb d_Sc_unscale_59 rfl (lv_at hl 2 rfl) ?_
        refine va_getN (D := D) (ci := 1) (v := .ref q2_y) (C := "ConeForge$Point") (T := FPt) (N := 3) hx hb hts iPt hown hK hP 7 rfl rfl 2 (by decide) (hNW.use nw41) (fun _ h9 => h9) rfl d_Sc_unscale_60 ?_
        refine lv_iload_n hx hb d_Sc_unscale_63 rfl (lv_at hl 3 rfl) ?_
        refine lv_aload_n hx hb d_Sc_unscale_64 rfl (lv_at hl 0 rfl) ?_
        refine va_get (D := D) (ci := 2) (v := .ref q0_ofRows) (C := "ConeForge$Scales") (T := FSc) (N := 2) hx hb hts iSc hown hK hP 0 rfl rfl 0 (by decide) (hts _ (bgc bw145)) (fun _ h9 => h9) rfl d_Sc_unscale_65 ?_
        refine lv_iload_n hx hb d_Sc_unscale_68 rfl (lv_at hl 3 rfl) ?_
        obtain ⟨g2, h⟩ := gd_some h
        refine va_dald hx hb hK hP 1 0 rfl rfl (inb_in g2) d_Sc_unscale_69 ?_
        refine lv_aload_n hx hb d_Sc_unscale_70 rfl (lv_at hl 1 rfl) ?_
        refine va_getN (D := D) (ci := 1) (v := .ref q1_y) (C := "ConeForge$Point") (T := FPt) (N := 3) hx hb hts iPt hown hK hP 3 rfl rfl 2 (by decide) (hNW.use nw41) (fun _ h9 => h9) rfl d_Sc_unscale_71 ?_
        refine lv_iload_n hx hb d_Sc_unscale_74 rfl (lv_at hl 3 rfl) ?_
        obtain ⟨g3, h⟩ := gd_some h
        refine va_dald hx hb hK hP 6 0 rfl rfl (inb_in g3) d_Sc_unscale_75 ?_
        obtain ⟨g4, h⟩ := gd_some h
        refine lv_dmul hx hb d_Sc_unscale_76 (isn_n g4) ?_
        obtain ⟨g5, h⟩ := gd_some h
        refine va_dast hx hb hK hP hD hS 10 0 rfl rfl (inb_in g5) d_Sc_unscale_77 (fun H locs hP hD hS => ?_)
        have hP : va_P D CL (w_Sc_unscale T q0 q0_ofRows q0_ofVariables q1 q1_x q1_s q1_y q2 q2_x q2_s q2_y vq0_ofRows vq0_ofVariables vq1_x vq1_s vq1_y vq2_x vq2_s (vf_upd vq2_y x3.toNatClampNeg (FP.dmul (vq0_ofRows x3.toNatClampNeg) (vq1_y x3.toNatClampNeg)))) H := hP
        have hD : va_D A (w_Sc_unscale T q0 q0_ofRows q0_ofVariables q1 q1_x q1_s q1_y q2 q2_x q2_s q2_y vq0_ofRows vq0_ofVariables vq1_x vq1_s vq1_y vq2_x vq2_s (vf_upd vq2_y x3.toNatClampNeg (FP.dmul (vq0_ofRows x3.toNatClampNeg) (vq1_y x3.toNatClampNeg)))) := hD
        refine lv_iinc (v := x3 + 1) (lv' := [(3, .int (x3 + 1)), (0, .ref q0), (1, .ref q1), (2, .ref q2)]) hx hb d_Sc_unscale_78 hl (k := 3) rfl rfl (by decide) rfl (fun ls hl => ?_)
        refine lv_goto (tgt := 54) hx hb d_Sc_unscale_81 (by decide) ?_
        exact kc54 _ (Option.some.inj h).symm H locs ls hP hD hS (lv_sub hl [1, 2, 3, 0] rfl)
    · intro H locs ls hP hD hS hl
      exact rtV hx hb hr hlocks hQ (Option.some.inj h) hP hS d_Sc_unscale_84 rfl
  have L2 : ∀ (vq2_x : Nat → UInt64) (vq2_s : Nat → UInt64) (vq2_y : Nat → UInt64) (x3 : Int32), ∀ (H : Heap) (locs : List Loc) (ls : Array Slot), va_P D CL (w_Sc_unscale T q0 q0_ofRows q0_ofVariables q1 q1_x q1_s q1_y q2 q2_x q2_s q2_y vq0_ofRows vq0_ofVariables vq1_x vq1_s vq1_y vq2_x vq2_s vq2_y) H → va_D A (w_Sc_unscale T q0 q0_ofRows q0_ofVariables q1 q1_x q1_s q1_y q2 q2_x q2_s q2_y vq0_ofRows vq0_ofVariables vq1_x vq1_s vq1_y vq2_x vq2_s vq2_y) → va_S A s.heap H locs → lv_has ls 4 [(0, .ref q0), (1, .ref q1), (2, .ref q2), (3, .int x3)] → s_Sc_unscale_L2 vq0_ofRows vq0_ofVariables vq1_x vq1_s vq1_y vq2_x vq2_s vq2_y x3 = some rm → W p l e (rmk 0 0) s m args below meth c H locs 0 0 Q (F0 m 2 ls []) := by
    intro vq2_x vq2_s vq2_y x3 H locs ls hP hD hS hl h
    unfold s_Sc_unscale_L2 at h
    obtain ⟨ul2, hul2, h⟩ := bi_some h
    refine loopO_W (Wh := fun (st : (Nat → UInt64) × (Nat → UInt64) × Int32) => ∀ (H : Heap) (locs : List Loc) (ls : Array Slot), va_P D CL (w_Sc_unscale T q0 q0_ofRows q0_ofVariables q1 q1_x q1_s q1_y q2 q2_x q2_s q2_y vq0_ofRows vq0_ofVariables vq1_x vq1_s vq1_y st.1 st.2.1 vq2_y) H → va_D A (w_Sc_unscale T q0 q0_ofRows q0_ofVariables q1 q1_x q1_s q1_y q2 q2_x q2_s q2_y vq0_ofRows vq0_ofVariables vq1_x vq1_s vq1_y st.1 st.2.1 vq2_y) → va_S A s.heap H locs → lv_has ls 4 [(0, .ref q0), (1, .ref q1), (2, .ref q2), (3, .int st.2.2)] → W p l e (rmk 0 0) s m args below meth c H locs 0 0 Q (F0 m 2 ls [])) (Wx := fun (e1 : (Nat → UInt64) × (Nat → UInt64)) => ∀ (H : Heap) (locs : List Loc) (ls : Array Slot), va_P D CL (w_Sc_unscale T q0 q0_ofRows q0_ofVariables q1 q1_x q1_s q1_y q2 q2_x q2_s q2_y vq0_ofRows vq0_ofVariables vq1_x vq1_s vq1_y e1.1 e1.2 vq2_y) H → va_D A (w_Sc_unscale T q0 q0_ofRows q0_ofVariables q1 q1_x q1_s q1_y q2 q2_x q2_s q2_y vq0_ofRows vq0_ofVariables vq1_x vq1_s vq1_y e1.1 e1.2 vq2_y) → va_S A s.heap H locs → lv_has ls 4 [(0, .ref q0), (1, .ref q1), (2, .ref q2)] → W p l e (rmk 0 0) s m args below meth c H locs 0 0 Q (F0 m 52 ls [])) ?_ 2000 _ ul2 hul2 ?_ H locs ls hP hD hS hl
    · intro st rb2 h kc2 kx2 H locs ls hP hD hS hl
      obtain ⟨vq2_x, vq2_s, x3⟩ := st
      have h : s_Sc_unscale_B2 vq0_ofRows vq0_ofVariables vq1_x vq1_s vq1_y vq2_y vq2_x vq2_s x3 = some rb2 := h
      unfold s_Sc_unscale_B2 at h
      refine lv_iload_n hx hb d_Sc_unscale_2 rfl (lv_at hl 3 rfl) ?_
      refine lv_bipush (v := 8) hx hb d_Sc_unscale_3 (by decide) ?_
      refine lv_icmp_ge (tgt := 52) hx hb d_Sc_unscale_5 (by decide) (fun c6 => ?_) (fun c6 => ?_)
      · have h := it_t c6 h
        exact kx2 _ (Option.some.inj h).symm H locs ls hP hD hS (lv_sub hl [0, 1, 2] rfl)
      · have h := it_f c6 h
        refine lv_aload_n hx hb d_Sc_unscale_8 rfl (lv_at hl 2 rfl) ?_
        refine va_getN (D := D) (ci := 1) (v := .ref q2_x) (C := "ConeForge$Point") (T := FPt) (N := 3) hx hb hts iPt hown hK hP 7 rfl rfl 0 (by decide) (hNW.use nw33) (fun _ h9 => h9) rfl d_Sc_unscale_9 ?_
        refine lv_iload_n hx hb d_Sc_unscale_12 rfl (lv_at hl 3 rfl) ?_
        refine lv_aload_n hx hb d_Sc_unscale_13 rfl (lv_at hl 0 rfl) ?_
        refine va_get (D := D) (ci := 2) (v := .ref q0_ofVariables) (C := "ConeForge$Scales") (T := FSc) (N := 2) hx hb hts iSc hown hK hP 0 rfl rfl 1 (by decide) (hts _ (bgc bw146)) (fun _ h9 => h9) rfl d_Sc_unscale_14 ?_
        refine lv_iload_n hx hb d_Sc_unscale_17 rfl (lv_at hl 3 rfl) ?_
        obtain ⟨g7, h⟩ := gd_some h
        refine va_dald hx hb hK hP 2 0 rfl rfl (inb_in g7) d_Sc_unscale_18 ?_
        refine lv_aload_n hx hb d_Sc_unscale_19 rfl (lv_at hl 1 rfl) ?_
        refine va_getN (D := D) (ci := 1) (v := .ref q1_x) (C := "ConeForge$Point") (T := FPt) (N := 3) hx hb hts iPt hown hK hP 3 rfl rfl 0 (by decide) (hNW.use nw33) (fun _ h9 => h9) rfl d_Sc_unscale_20 ?_
        refine lv_iload_n hx hb d_Sc_unscale_23 rfl (lv_at hl 3 rfl) ?_
        obtain ⟨g8, h⟩ := gd_some h
        refine va_dald hx hb hK hP 4 0 rfl rfl (inb_in g8) d_Sc_unscale_24 ?_
        obtain ⟨g9, h⟩ := gd_some h
        refine lv_dmul hx hb d_Sc_unscale_25 (isn_n g9) ?_
        obtain ⟨g10, h⟩ := gd_some h
        refine va_dast hx hb hK hP hD hS 8 0 rfl rfl (inb_in g10) d_Sc_unscale_26 (fun H locs hP hD hS => ?_)
        have hP : va_P D CL (w_Sc_unscale T q0 q0_ofRows q0_ofVariables q1 q1_x q1_s q1_y q2 q2_x q2_s q2_y vq0_ofRows vq0_ofVariables vq1_x vq1_s vq1_y (vf_upd vq2_x x3.toNatClampNeg (FP.dmul (vq0_ofVariables x3.toNatClampNeg) (vq1_x x3.toNatClampNeg))) vq2_s vq2_y) H := hP
        have hD : va_D A (w_Sc_unscale T q0 q0_ofRows q0_ofVariables q1 q1_x q1_s q1_y q2 q2_x q2_s q2_y vq0_ofRows vq0_ofVariables vq1_x vq1_s vq1_y (vf_upd vq2_x x3.toNatClampNeg (FP.dmul (vq0_ofVariables x3.toNatClampNeg) (vq1_x x3.toNatClampNeg))) vq2_s vq2_y) := hD
        refine lv_aload_n hx hb d_Sc_unscale_27 rfl (lv_at hl 2 rfl) ?_
        refine va_getN (D := D) (ci := 1) (v := .ref q2_s) (C := "ConeForge$Point") (T := FPt) (N := 3) hx hb hts iPt hown hK hP 7 rfl rfl 1 (by decide) (hNW.use nw37) (fun _ h9 => h9) rfl d_Sc_unscale_28 ?_
        refine lv_iload_n hx hb d_Sc_unscale_31 rfl (lv_at hl 3 rfl) ?_
        refine lv_aload_n hx hb d_Sc_unscale_32 rfl (lv_at hl 1 rfl) ?_
        refine va_getN (D := D) (ci := 1) (v := .ref q1_s) (C := "ConeForge$Point") (T := FPt) (N := 3) hx hb hts iPt hown hK hP 3 rfl rfl 1 (by decide) (hNW.use nw37) (fun _ h9 => h9) rfl d_Sc_unscale_33 ?_
        refine lv_iload_n hx hb d_Sc_unscale_36 rfl (lv_at hl 3 rfl) ?_
        obtain ⟨g11, h⟩ := gd_some h
        refine va_dald hx hb hK hP 5 0 rfl rfl (inb_in g11) d_Sc_unscale_37 ?_
        refine lv_aload_n hx hb d_Sc_unscale_38 rfl (lv_at hl 0 rfl) ?_
        refine va_get (D := D) (ci := 2) (v := .ref q0_ofVariables) (C := "ConeForge$Scales") (T := FSc) (N := 2) hx hb hts iSc hown hK hP 0 rfl rfl 1 (by decide) (hts _ (bgc bw146)) (fun _ h9 => h9) rfl d_Sc_unscale_39 ?_
        refine lv_iload_n hx hb d_Sc_unscale_42 rfl (lv_at hl 3 rfl) ?_
        obtain ⟨g12, h⟩ := gd_some h
        refine va_dald hx hb hK hP 2 0 rfl rfl (inb_in g12) d_Sc_unscale_43 ?_
        obtain ⟨g13, h⟩ := gd_some h
        refine lv_ddiv hx hb d_Sc_unscale_44 (isn_n g13) ?_
        obtain ⟨g14, h⟩ := gd_some h
        refine va_dast hx hb hK hP hD hS 9 0 rfl rfl (inb_in g14) d_Sc_unscale_45 (fun H locs hP hD hS => ?_)
        have hP : va_P D CL (w_Sc_unscale T q0 q0_ofRows q0_ofVariables q1 q1_x q1_s q1_y q2 q2_x q2_s q2_y vq0_ofRows vq0_ofVariables vq1_x vq1_s vq1_y (vf_upd vq2_x x3.toNatClampNeg (FP.dmul (vq0_ofVariables x3.toNatClampNeg) (vq1_x x3.toNatClampNeg))) (vf_upd vq2_s x3.toNatClampNeg (FP.ddiv (vq1_s x3.toNatClampNeg) (vq0_ofVariables x3.toNatClampNeg))) vq2_y) H := hP
        have hD : va_D A (w_Sc_unscale T q0 q0_ofRows q0_ofVariables q1 q1_x q1_s q1_y q2 q2_x q2_s q2_y vq0_ofRows vq0_ofVariables vq1_x vq1_s vq1_y (vf_upd vq2_x x3.toNatClampNeg (FP.dmul (vq0_ofVariables x3.toNatClampNeg) (vq1_x x3.toNatClampNeg))) (vf_upd vq2_s x3.toNatClampNeg (FP.ddiv (vq1_s x3.toNatClampNeg) (vq0_ofVariables x3.toNatClampNeg))) vq2_y) := hD
        refine lv_iinc (v := x3 + 1) (lv' := [(3, .int (x3 + 1)), (0, .ref q0), (1, .ref q1), (2, .ref q2)]) hx hb d_Sc_unscale_46 hl (k := 3) rfl rfl (by decide) rfl (fun ls hl => ?_)
        refine lv_goto (tgt := 2) hx hb d_Sc_unscale_49 (by decide) ?_
        exact kc2 _ (Option.some.inj h).symm H locs ls hP hD hS (lv_sub hl [1, 2, 3, 0] rfl)
    · intro H locs ls hP hD hS hl
      refine lv_iconst (v := 0) hx hb d_Sc_unscale_52 (by decide) ?_
      refine lv_istore_n (lv' := [(3, .int 0), (0, .ref q0), (1, .ref q1), (2, .ref q2)]) hx hb d_Sc_unscale_53 rfl hl (by decide) rfl (fun ls hl => ?_)
      exact L54 ul2.1 ul2.2 vq2_y 0 H locs ls hP hD hS (lv_sub hl [1, 2, 3, 0] rfl) h
  unfold s_Sc_unscale at h
  refine lv_iconst (v := 0) hx hb d_Sc_unscale_0 (by decide) ?_
  refine lv_istore_n (lv' := [(3, .int 0), (0, .ref q0), (1, .ref q1), (2, .ref q2)]) hx hb d_Sc_unscale_1 rfl hl (by decide) rfl (fun ls hl => ?_)
  exact L2 vq2_x vq2_s vq2_y 0 H locs ls hP hD hS (lv_sub hl [1, 2, 3, 0] rfl) h
