theorem d_M_thrown_0 : decode prog_10_method_2_code 0 = .ok (.aload_n 0, 1) := by decide +kernel
theorem d_M_thrown_1 : decode prog_10_method_2_code 1 = .ok (.getfield 122, 3) := by decide +kernel
theorem d_M_thrown_4 : decode prog_10_method_2_code 4 = .ok (.ireturn, 1) := by decide +kernel
abbrev w_M_thrown (T : Nat → ClassId) (q0 : Nat) (q0_a : Nat) (q0_b : Nat) (q0_c : Nat) (q0_rowScale : Nat) (q0_columnScale : Nat) (q0_sa : Nat) (q0_sb : Nat) (q0_sc : Nat) (q0_x : Nat) (q0_s : Nat) (q0_y : Nat) (q0_p : Nat) (q0_d : Nat) (q0_h : Nat) (q0_f : Nat) (q0_mm : Nat) (q0_low : Nat) (q0_dd : Nat) (q0_r : Nat) (q0_big : Nat) (q0_dt : Nat) (q0_dx : Nat) (q0_t : Nat) (q0_cost : Nat) (q0_rowScaleNow : Nat) (q0_columnScaleNow : Nat) (q0_basic : Nat) (q0_text : Nat) (q0_turned : Nat) (q0_na : Nat) (q0_nb : Nat) (q0_nc : Nat) (vq0_m : Int32) (vq0_n : Int32) (vq0_length : Int32) (vq0_where : Int32) (vq0_effort : Int32) (vq0_thrown : Int32) (vq0_at : Int32) (vq0_scaled : Int32) (vq0_solved : Int32) (vq0_second : Int32) (vq0_nm : Int32) (vq0_nn : Int32) (vq0_number : UInt64) (vq0_bad : Int32) : va_W := [(q0, .inr (8, [.ref q0_a, .ref q0_b, .ref q0_c, .ref q0_rowScale, .ref q0_columnScale, .ref q0_sa, .ref q0_sb, .ref q0_sc, .ref q0_x, .ref q0_s, .ref q0_y, .ref q0_p, .ref q0_d, .ref q0_h, .ref q0_f, .ref q0_mm, .ref q0_low, .ref q0_dd, .ref q0_r, .ref q0_big, .ref q0_dt, .ref q0_dx, .ref q0_t, .ref q0_cost, .ref q0_rowScaleNow, .ref q0_columnScaleNow, .ref q0_basic, .ref q0_text, .ref q0_turned, .int vq0_m, .int vq0_n, .int vq0_length, .int vq0_where, .int vq0_effort, .int vq0_thrown, .int vq0_at, .int vq0_scaled, .int vq0_solved, .int vq0_second, .ref q0_na, .ref q0_nb, .ref q0_nc, .int vq0_nm, .int vq0_nn, .double vq0_number, .int vq0_bad]))]
def s_M_thrown (vq0_m : Int32) (vq0_n : Int32) (vq0_length : Int32) (vq0_where : Int32) (vq0_effort : Int32) (vq0_thrown : Int32) (vq0_at : Int32) (vq0_scaled : Int32) (vq0_solved : Int32) (vq0_second : Int32) (vq0_nm : Int32) (vq0_nn : Int32) (vq0_number : UInt64) (vq0_bad : Int32) : Option (Int32) :=
  some vq0_thrown
set_option maxHeartbeats 40000000 in
set_option maxRecDepth 100000 in
theorem c_M_thrown (l : Launch) (D : va_G) (T : Nat → ClassId) (q0 : Nat) (q0_a : Nat) (q0_b : Nat) (q0_c : Nat) (q0_rowScale : Nat) (q0_columnScale : Nat) (q0_sa : Nat) (q0_sb : Nat) (q0_sc : Nat) (q0_x : Nat) (q0_s : Nat) (q0_y : Nat) (q0_p : Nat) (q0_d : Nat) (q0_h : Nat) (q0_f : Nat) (q0_mm : Nat) (q0_low : Nat) (q0_dd : Nat) (q0_r : Nat) (q0_big : Nat) (q0_dt : Nat) (q0_dx : Nat) (q0_t : Nat) (q0_cost : Nat) (q0_rowScaleNow : Nat) (q0_columnScaleNow : Nat) (q0_basic : Nat) (q0_text : Nat) (q0_turned : Nat) (q0_na : Nat) (q0_nb : Nat) (q0_nc : Nat) (vq0_m : Int32) (vq0_n : Int32) (vq0_length : Int32) (vq0_where : Int32) (vq0_effort : Int32) (vq0_thrown : Int32) (vq0_at : Int32) (vq0_scaled : Int32) (vq0_solved : Int32) (vq0_second : Int32) (vq0_nm : Int32) (vq0_nn : Int32) (vq0_number : UInt64) (vq0_bad : Int32) (rm : Int32) (h : s_M_thrown vq0_m vq0_n vq0_length vq0_where vq0_effort vq0_thrown vq0_at vq0_scaled vq0_solved vq0_second vq0_nm vq0_nn vq0_number vq0_bad = some rm) : CtI l y_M_thrown (Cond.code y_M_thrown prog_10_method_2_code 1 (some .int) :: BIG) 0 0 D T [.ref q0] (w_M_thrown T q0 q0_a q0_b q0_c q0_rowScale q0_columnScale q0_sa q0_sb q0_sc q0_x q0_s q0_y q0_p q0_d q0_h q0_f q0_mm q0_low q0_dd q0_r q0_big q0_dt q0_dx q0_t q0_cost q0_rowScaleNow q0_columnScaleNow q0_basic q0_text q0_turned q0_na q0_nb q0_nc vq0_m vq0_n vq0_length vq0_where vq0_effort vq0_thrown vq0_at vq0_scaled vq0_solved vq0_second vq0_nm vq0_nn vq0_number vq0_bad) (fun r => r) (fun r => (w_M_thrown T q0 q0_a q0_b q0_c q0_rowScale q0_columnScale q0_sa q0_sb q0_sc q0_x q0_s q0_y q0_p q0_d q0_h q0_f q0_mm q0_low q0_dd q0_r q0_big q0_dt q0_dx q0_t q0_cost q0_rowScaleNow q0_columnScaleNow q0_basic q0_text q0_turned q0_na q0_nb q0_nc vq0_m vq0_n vq0_length vq0_where vq0_effort vq0_thrown vq0_at vq0_scaled vq0_solved vq0_second vq0_nm vq0_nn vq0_number vq0_bad)) rm := by
  refine cf_entry (y := y_M_thrown) (cc := prog_10_method_2_code) (nL := 1) (ret := (some .int)) (fr := 0) (lo := 0) (T := T) (av := [.ref q0]) (w := (w_M_thrown T q0 q0_a q0_b q0_c q0_rowScale q0_columnScale q0_sa q0_sb q0_sc q0_x q0_s q0_y q0_p q0_d q0_h q0_f q0_mm q0_low q0_dd q0_r q0_big q0_dt q0_dx q0_t q0_cost q0_rowScaleNow q0_columnScaleNow q0_basic q0_text q0_turned q0_na q0_nb q0_nc vq0_m vq0_n vq0_length vq0_where vq0_effort vq0_thrown vq0_at vq0_scaled vq0_solved vq0_second vq0_nm vq0_nn vq0_number vq0_bad)) (Qc := cfQi D (fun r => r) (fun r => (w_M_thrown T q0 q0_a q0_b q0_c q0_rowScale q0_columnScale q0_sa q0_sb q0_sc q0_x q0_s q0_y q0_p q0_d q0_h q0_f q0_mm q0_low q0_dd q0_r q0_big q0_dt q0_dx q0_t q0_cost q0_rowScaleNow q0_columnScaleNow q0_basic q0_text q0_turned q0_na q0_nb q0_nc vq0_m vq0_n vq0_length vq0_where vq0_effort vq0_thrown vq0_at vq0_scaled vq0_solved vq0_second vq0_nm vq0_nn vq0_number vq0_bad)) rm) (by decide) rfl (Nat.le_of_ble_eq_true rfl) ?_
  intro p e s m args below meth c A Q H locs ls hx hb hr hlocks hml hown hts hNW hK hA hQ hP hD hS hl
  have hown : s.vm.findClass "ConeForgeModel" = some m.cls := hown
  have hl : lv_has ls 1 [(0, .ref q0)] := hl
  unfold s_M_thrown at h
  refine lv_aload_n hx hb d_M_thrown_0 rfl (lv_at hl 0 rfl) ?_
  refine va_get (D := D) (ci := 8) (v := .int vq0_thrown) (C := "ConeForgeModel") (T := FM) (N := 46) hx hb hts iM hown hK hP 0 rfl rfl 34 (by decide) (hts _ (bgc bw718)) (fun _ h9 => h9) rfl d_M_thrown_1 ?_
  exact rtI hx hb hr hlocks hQ (Option.some.inj h) hP hS d_M_thrown_4 rfl rfl
theorem d_M_in_0 : decode prog_10_method_3_code 0 = .ok (.iload_n 0, 1) := by decide +kernel
theorem d_M_in_1 : decode prog_10_method_3_code 1 = .ok (.iload_n 1, 1) := by decide +kernel
theorem d_M_in_2 : decode prog_10_method_3_code 2 = .ok (.if_icmp .lt 12, 3) := by decide +kernel
theorem d_M_in_5 : decode prog_10_method_3_code 5 = .ok (.iload_n 0, 1) := by decide +kernel
theorem d_M_in_6 : decode prog_10_method_3_code 6 = .ok (.iload_n 2, 1) := by decide +kernel
theorem d_M_in_7 : decode prog_10_method_3_code 7 = .ok (.if_icmp .gt 7, 3) := by decide +kernel
theorem d_M_in_10 : decode prog_10_method_3_code 10 = .ok (.iconst 1, 1) := by decide +kernel
theorem d_M_in_11 : decode prog_10_method_3_code 11 = .ok (.goto 4, 3) := by decide +kernel
theorem d_M_in_14 : decode prog_10_method_3_code 14 = .ok (.iconst 0, 1) := by decide +kernel
theorem d_M_in_15 : decode prog_10_method_3_code 15 = .ok (.ireturn, 1) := by decide +kernel
abbrev w_M_in (T : Nat → ClassId)   : va_W := []
def s_M_in_J14  : Option (Int32) :=
  gd (isb 0) <| some 0
def s_M_in (x0 : Int32) (x1 : Int32) (x2 : Int32) : Option (Int32) :=
  if x0 < x1 then (s_M_in_J14 ) else (if x2 < x0 then (s_M_in_J14 ) else (gd (isb 1) <| some 1))
set_option maxHeartbeats 40000000 in
set_option maxRecDepth 100000 in
theorem c_M_in (l : Launch) (D : va_G) (T : Nat → ClassId) (x0 : Int32) (x1 : Int32) (x2 : Int32) (rm : Int32) (h : s_M_in x0 x1 x2 = some rm) : CtI l y_M_in (Cond.code y_M_in prog_10_method_3_code 3 (some .boolean) :: BIG) 0 0 D T [.int x0, .int x1, .int x2] (w_M_in T  ) (fun r => r) (fun r => (w_M_in T  )) rm := by
  refine cf_entry (y := y_M_in) (cc := prog_10_method_3_code) (nL := 3) (ret := (some .boolean)) (fr := 0) (lo := 0) (T := T) (av := [.int x0, .int x1, .int x2]) (w := (w_M_in T  )) (Qc := cfQi D (fun r => r) (fun r => (w_M_in T  )) rm) (by decide) rfl (Nat.le_of_ble_eq_true rfl) ?_
  intro p e s m args below meth c A Q H locs ls hx hb hr hlocks hml hown hts hNW hK hA hQ hP hD hS hl
  have hown : s.vm.findClass "ConeForgeModel" = some m.cls := hown
  have hl : lv_has ls 3 [(0, .int x0), (1, .int x1), (2, .int x2)] := hl
  have J14 : ∀ (H : Heap) (locs : List Loc) (ls : Array Slot), va_P D CL (w_M_in T  ) H → va_D A (w_M_in T  ) → va_S A s.heap H locs → lv_has ls 3 [] → s_M_in_J14  = some rm → W p l e (rmk 0 0) s m args below meth c H locs 0 0 Q (F0 m 14 ls []) := by
    intro  H locs ls hP hD hS hl h
    unfold s_M_in_J14 at h
    refine lv_iconst (v := 0) hx hb d_M_in_14 (by decide) ?_
    obtain ⟨g1, h⟩ := gd_some h
    exact rtZ hx hb hr hlocks g1 hQ (Option.some.inj h) hP hS d_M_in_15 rfl rfl
  unfold s_M_in at h
  refine lv_iload_n hx hb d_M_in_0 rfl (lv_at hl 0 rfl) ?_
  refine lv_iload_n hx hb d_M_in_1 rfl (lv_at hl 1 rfl) ?_
  refine lv_icmp_lt (tgt := 14) hx hb d_M_in_2 (by decide) (fun c2 => ?_) (fun c2 => ?_)
  · have h := it_t c2 h
    exact J14  H locs ls hP hD hS (lv_sub hl [] rfl) h
  · have h := it_f c2 h
    refine lv_iload_n hx hb d_M_in_5 rfl (lv_at hl 0 rfl) ?_
    refine lv_iload_n hx hb d_M_in_6 rfl (lv_at hl 2 rfl) ?_
    refine lv_icmp_gt (tgt := 14) hx hb d_M_in_7 (by decide) (fun c3 => ?_) (fun c3 => ?_)
    · have h := it_t c3 h
      exact J14  H locs ls hP hD hS (lv_sub hl [] rfl) h
    · have h := it_f c3 h
      refine lv_iconst (v := 1) hx hb d_M_in_10 (by decide) ?_
      refine lv_goto (tgt := 15) hx hb d_M_in_11 (by decide) ?_
      obtain ⟨g4, h⟩ := gd_some h
      exact rtZ hx hb hr hlocks g4 hQ (Option.some.inj h) hP hS d_M_in_15 rfl rfl
theorem d_M_abs_0 : decode prog_10_method_4_code 0 = .ok (.dload_n 0, 1) := by decide +kernel
theorem d_M_abs_1 : decode prog_10_method_4_code 1 = .ok (.dconst 0, 1) := by decide +kernel
theorem d_M_abs_2 : decode prog_10_method_4_code 2 = .ok (.dcmp .g, 1) := by decide +kernel
theorem d_M_abs_3 : decode prog_10_method_4_code 3 = .ok (.ifCond .ge 8, 3) := by decide +kernel
theorem d_M_abs_6 : decode prog_10_method_4_code 6 = .ok (.dload_n 0, 1) := by decide +kernel
theorem d_M_abs_7 : decode prog_10_method_4_code 7 = .ok (.dneg, 1) := by decide +kernel
theorem d_M_abs_8 : decode prog_10_method_4_code 8 = .ok (.goto 4, 3) := by decide +kernel
theorem d_M_abs_11 : decode prog_10_method_4_code 11 = .ok (.dload_n 0, 1) := by decide +kernel
theorem d_M_abs_12 : decode prog_10_method_4_code 12 = .ok (.dreturn, 1) := by decide +kernel
abbrev w_M_abs (T : Nat → ClassId)   : va_W := []
def s_M_abs (x0 : UInt64) : Option (UInt64) :=
  if 0 ≤ (Op.cmpValue (FP.dcmp x0 FP.dconst0) .g) then (some x0) else (some (FP.dneg x0))
set_option maxHeartbeats 40000000 in
set_option maxRecDepth 100000 in
theorem c_M_abs (l : Launch) (D : va_G) (T : Nat → ClassId) (x0 : UInt64) (rm : UInt64) (h : s_M_abs x0 = some rm) : CtD l y_M_abs (Cond.code y_M_abs prog_10_method_4_code 2 (some .double) :: BIG) 0 0 D T [.double x0] (w_M_abs T  ) (fun r => r) (fun r => (w_M_abs T  )) rm := by
  refine cf_entry (y := y_M_abs) (cc := prog_10_method_4_code) (nL := 2) (ret := (some .double)) (fr := 0) (lo := 0) (T := T) (av := [.double x0]) (w := (w_M_abs T  )) (Qc := cfQd D (fun r => r) (fun r => (w_M_abs T  )) rm) (by decide) rfl (Nat.le_of_ble_eq_true rfl) ?_
  intro p e s m args below meth c A Q H locs ls hx hb hr hlocks hml hown hts hNW hK hA hQ hP hD hS hl
  have hown : s.vm.findClass "ConeForgeModel" = some m.cls := hown
  have hl : lv_has ls 2 [(0, .double x0)] := hl
  unfold s_M_abs at h
  refine lv_dload_n hx hb d_M_abs_0 rfl (lv_at hl 0 rfl) ?_
  refine lv_dconst0 hx hb d_M_abs_1 ?_
  refine lv_dcmp hx hb d_M_abs_2 ?_
  refine lv_if_ge (tgt := 11) hx hb d_M_abs_3 (by decide) (fun c1 => ?_) (fun c1 => ?_)
  · have h := it_t c1 h
    refine lv_dload_n hx hb d_M_abs_11 rfl (lv_at hl 0 rfl) ?_
    exact rtD hx hb hr hlocks hQ (Option.some.inj h) hP hS d_M_abs_12 rfl rfl
  · have h := it_f c1 h
    refine lv_dload_n hx hb d_M_abs_6 rfl (lv_at hl 0 rfl) ?_
    refine lv_dneg hx hb d_M_abs_7 ?_
    refine lv_goto (tgt := 12) hx hb d_M_abs_8 (by decide) ?_
    exact rtD hx hb hr hlocks hQ (Option.some.inj h) hP hS d_M_abs_12 rfl rfl
theorem d_M_max_0 : decode prog_10_method_5_code 0 = .ok (.dload_n 2, 1) := by decide +kernel
theorem d_M_max_1 : decode prog_10_method_5_code 1 = .ok (.dload_n 0, 1) := by decide +kernel
theorem d_M_max_2 : decode prog_10_method_5_code 2 = .ok (.dcmp .l, 1) := by decide +kernel
theorem d_M_max_3 : decode prog_10_method_5_code 3 = .ok (.ifCond .le 7, 3) := by decide +kernel
theorem d_M_max_6 : decode prog_10_method_5_code 6 = .ok (.dload_n 2, 1) := by decide +kernel
theorem d_M_max_7 : decode prog_10_method_5_code 7 = .ok (.goto 4, 3) := by decide +kernel
theorem d_M_max_10 : decode prog_10_method_5_code 10 = .ok (.dload_n 0, 1) := by decide +kernel
theorem d_M_max_11 : decode prog_10_method_5_code 11 = .ok (.dreturn, 1) := by decide +kernel
abbrev w_M_max (T : Nat → ClassId)   : va_W := []
def s_M_max (x0 : UInt64) (x2 : UInt64) : Option (UInt64) :=
  if (Op.cmpValue (FP.dcmp x2 x0) .l) ≤ 0 then (some x0) else (some x2)
set_option maxHeartbeats 40000000 in
set_option maxRecDepth 100000 in
theorem c_M_max (l : Launch) (D : va_G) (T : Nat → ClassId) (x0 : UInt64) (x2 : UInt64) (rm : UInt64) (h : s_M_max x0 x2 = some rm) : CtD l y_M_max (Cond.code y_M_max prog_10_method_5_code 4 (some .double) :: BIG) 0 0 D T [.double x0, .double x2] (w_M_max T  ) (fun r => r) (fun r => (w_M_max T  )) rm := by
  refine cf_entry (y := y_M_max) (cc := prog_10_method_5_code) (nL := 4) (ret := (some .double)) (fr := 0) (lo := 0) (T := T) (av := [.double x0, .double x2]) (w := (w_M_max T  )) (Qc := cfQd D (fun r => r) (fun r => (w_M_max T  )) rm) (by decide) rfl (Nat.le_of_ble_eq_true rfl) ?_
  intro p e s m args below meth c A Q H locs ls hx hb hr hlocks hml hown hts hNW hK hA hQ hP hD hS hl
  have hown : s.vm.findClass "ConeForgeModel" = some m.cls := hown
  have hl : lv_has ls 4 [(0, .double x0), (2, .double x2)] := hl
  unfold s_M_max at h
  refine lv_dload_n hx hb d_M_max_0 rfl (lv_at hl 1 rfl) ?_
  refine lv_dload_n hx hb d_M_max_1 rfl (lv_at hl 0 rfl) ?_
  refine lv_dcmp hx hb d_M_max_2 ?_
  refine lv_if_le (tgt := 10) hx hb d_M_max_3 (by decide) (fun c1 => ?_) (fun c1 => ?_)
  · have h := it_t c1 h
    refine lv_dload_n hx hb d_M_max_10 rfl (lv_at hl 0 rfl) ?_
    exact rtD hx hb hr hlocks hQ (Option.some.inj h) hP hS d_M_max_11 rfl rfl
  · have h := it_f c1 h
    refine lv_dload_n hx hb d_M_max_6 rfl (lv_at hl 1 rfl) ?_
    refine lv_goto (tgt := 11) hx hb d_M_max_7 (by decide) ?_
    exact rtD hx hb hr hlocks hQ (Option.some.inj h) hP hS d_M_max_11 rfl rfl
theorem d_M_begin_0 : decode prog_10_method_6_code 0 = .ok (.aload_n 0, 1) := by decide +kernel
theorem d_M_begin_1 : decode prog_10_method_6_code 1 = .ok (.iload_n 1, 1) := by decide +kernel
theorem d_M_begin_2 : decode prog_10_method_6_code 2 = .ok (.iconst 1, 1) := by decide +kernel
theorem d_M_begin_3 : decode prog_10_method_6_code 3 = .ok (.iconst 5, 1) := by decide +kernel
theorem d_M_begin_4 : decode prog_10_method_6_code 4 = .ok (.invokestatic 125, 3) := by decide +kernel
theorem d_M_begin_7 : decode prog_10_method_6_code 7 = .ok (.ifCond .eq 17, 3) := by decide +kernel
theorem d_M_begin_10 : decode prog_10_method_6_code 10 = .ok (.iload_n 2, 1) := by decide +kernel
theorem d_M_begin_11 : decode prog_10_method_6_code 11 = .ok (.iconst 1, 1) := by decide +kernel
theorem d_M_begin_12 : decode prog_10_method_6_code 12 = .ok (.bipush 8, 2) := by decide +kernel
theorem d_M_begin_14 : decode prog_10_method_6_code 14 = .ok (.invokestatic 125, 3) := by decide +kernel
theorem d_M_begin_17 : decode prog_10_method_6_code 17 = .ok (.ifCond .eq 7, 3) := by decide +kernel
theorem d_M_begin_20 : decode prog_10_method_6_code 20 = .ok (.iconst 0, 1) := by decide +kernel
theorem d_M_begin_21 : decode prog_10_method_6_code 21 = .ok (.goto 4, 3) := by decide +kernel
theorem d_M_begin_24 : decode prog_10_method_6_code 24 = .ok (.iconst 1, 1) := by decide +kernel
theorem d_M_begin_25 : decode prog_10_method_6_code 25 = .ok (.putfield 122, 3) := by decide +kernel
theorem d_M_begin_28 : decode prog_10_method_6_code 28 = .ok (.aload_n 0, 1) := by decide +kernel
theorem d_M_begin_29 : decode prog_10_method_6_code 29 = .ok (.getfield 122, 3) := by decide +kernel
theorem d_M_begin_32 : decode prog_10_method_6_code 32 = .ok (.ifCond .le 5, 3) := by decide +kernel
theorem d_M_begin_35 : decode prog_10_method_6_code 35 = .ok (.iconst 0, 1) := by decide +kernel
theorem d_M_begin_36 : decode prog_10_method_6_code 36 = .ok (.ireturn, 1) := by decide +kernel
theorem d_M_begin_37 : decode prog_10_method_6_code 37 = .ok (.aload_n 0, 1) := by decide +kernel
theorem d_M_begin_38 : decode prog_10_method_6_code 38 = .ok (.iload_n 1, 1) := by decide +kernel
theorem d_M_begin_39 : decode prog_10_method_6_code 39 = .ok (.putfield 99, 3) := by decide +kernel
theorem d_M_begin_42 : decode prog_10_method_6_code 42 = .ok (.aload_n 0, 1) := by decide +kernel
theorem d_M_begin_43 : decode prog_10_method_6_code 43 = .ok (.iload_n 2, 1) := by decide +kernel
theorem d_M_begin_44 : decode prog_10_method_6_code 44 = .ok (.putfield 103, 3) := by decide +kernel
theorem d_M_begin_47 : decode prog_10_method_6_code 47 = .ok (.iconst 0, 1) := by decide +kernel
theorem d_M_begin_48 : decode prog_10_method_6_code 48 = .ok (.istore_n 3, 1) := by decide +kernel
theorem d_M_begin_49 : decode prog_10_method_6_code 49 = .ok (.iload_n 3, 1) := by decide +kernel
theorem d_M_begin_50 : decode prog_10_method_6_code 50 = .ok (.bipush 40, 2) := by decide +kernel
theorem d_M_begin_52 : decode prog_10_method_6_code 52 = .ok (.if_icmp .ge 16, 3) := by decide +kernel
theorem d_M_begin_55 : decode prog_10_method_6_code 55 = .ok (.aload_n 0, 1) := by decide +kernel
theorem d_M_begin_56 : decode prog_10_method_6_code 56 = .ok (.getfield 7, 3) := by decide +kernel
theorem d_M_begin_59 : decode prog_10_method_6_code 59 = .ok (.iload_n 3, 1) := by decide +kernel
theorem d_M_begin_60 : decode prog_10_method_6_code 60 = .ok (.dconst 0, 1) := by decide +kernel
theorem d_M_begin_61 : decode prog_10_method_6_code 61 = .ok (.dastore, 1) := by decide +kernel
theorem d_M_begin_62 : decode prog_10_method_6_code 62 = .ok (.iinc 3 1, 3) := by decide +kernel
theorem d_M_begin_65 : decode prog_10_method_6_code 65 = .ok (.goto (-16), 3) := by decide +kernel
theorem d_M_begin_68 : decode prog_10_method_6_code 68 = .ok (.iconst 0, 1) := by decide +kernel
theorem d_M_begin_69 : decode prog_10_method_6_code 69 = .ok (.istore_n 3, 1) := by decide +kernel
theorem d_M_begin_70 : decode prog_10_method_6_code 70 = .ok (.iload_n 3, 1) := by decide +kernel
theorem d_M_begin_71 : decode prog_10_method_6_code 71 = .ok (.iconst 5, 1) := by decide +kernel
theorem d_M_begin_72 : decode prog_10_method_6_code 72 = .ok (.if_icmp .ge 16, 3) := by decide +kernel
theorem d_M_begin_75 : decode prog_10_method_6_code 75 = .ok (.aload_n 0, 1) := by decide +kernel
theorem d_M_begin_76 : decode prog_10_method_6_code 76 = .ok (.getfield 13, 3) := by decide +kernel
theorem d_M_begin_79 : decode prog_10_method_6_code 79 = .ok (.iload_n 3, 1) := by decide +kernel
theorem d_M_begin_80 : decode prog_10_method_6_code 80 = .ok (.dconst 0, 1) := by decide +kernel
theorem d_M_begin_81 : decode prog_10_method_6_code 81 = .ok (.dastore, 1) := by decide +kernel
theorem d_M_begin_82 : decode prog_10_method_6_code 82 = .ok (.iinc 3 1, 3) := by decide +kernel
theorem d_M_begin_85 : decode prog_10_method_6_code 85 = .ok (.goto (-15), 3) := by decide +kernel
theorem d_M_begin_88 : decode prog_10_method_6_code 88 = .ok (.iconst 0, 1) := by decide +kernel
theorem d_M_begin_89 : decode prog_10_method_6_code 89 = .ok (.istore_n 3, 1) := by decide +kernel
theorem d_M_begin_90 : decode prog_10_method_6_code 90 = .ok (.iload_n 3, 1) := by decide +kernel
theorem d_M_begin_91 : decode prog_10_method_6_code 91 = .ok (.bipush 8, 2) := by decide +kernel
theorem d_M_begin_93 : decode prog_10_method_6_code 93 = .ok (.if_icmp .ge 16, 3) := by decide +kernel
theorem d_M_begin_96 : decode prog_10_method_6_code 96 = .ok (.aload_n 0, 1) := by decide +kernel
theorem d_M_begin_97 : decode prog_10_method_6_code 97 = .ok (.getfield 16, 3) := by decide +kernel
theorem d_M_begin_100 : decode prog_10_method_6_code 100 = .ok (.iload_n 3, 1) := by decide +kernel
theorem d_M_begin_101 : decode prog_10_method_6_code 101 = .ok (.dconst 0, 1) := by decide +kernel
theorem d_M_begin_102 : decode prog_10_method_6_code 102 = .ok (.dastore, 1) := by decide +kernel
theorem d_M_begin_103 : decode prog_10_method_6_code 103 = .ok (.iinc 3 1, 3) := by decide +kernel
theorem d_M_begin_106 : decode prog_10_method_6_code 106 = .ok (.goto (-16), 3) := by decide +kernel
theorem d_M_begin_109 : decode prog_10_method_6_code 109 = .ok (.aload_n 0, 1) := by decide +kernel
theorem d_M_begin_110 : decode prog_10_method_6_code 110 = .ok (.iconst 0, 1) := by decide +kernel
theorem d_M_begin_111 : decode prog_10_method_6_code 111 = .ok (.putfield 129, 3) := by decide +kernel
theorem d_M_begin_114 : decode prog_10_method_6_code 114 = .ok (.iload_n 1, 1) := by decide +kernel
theorem d_M_begin_115 : decode prog_10_method_6_code 115 = .ok (.iload_n 2, 1) := by decide +kernel
theorem d_M_begin_116 : decode prog_10_method_6_code 116 = .ok (.imul, 1) := by decide +kernel
theorem d_M_begin_117 : decode prog_10_method_6_code 117 = .ok (.ireturn, 1) := by decide +kernel
abbrev w_M_begin (T : Nat → ClassId) (q0 : Nat) (q0_a : Nat) (q0_b : Nat) (q0_c : Nat) (q0_rowScale : Nat) (q0_columnScale : Nat) (q0_sa : Nat) (q0_sb : Nat) (q0_sc : Nat) (q0_x : Nat) (q0_s : Nat) (q0_y : Nat) (q0_p : Nat) (q0_d : Nat) (q0_h : Nat) (q0_f : Nat) (q0_mm : Nat) (q0_low : Nat) (q0_dd : Nat) (q0_r : Nat) (q0_big : Nat) (q0_dt : Nat) (q0_dx : Nat) (q0_t : Nat) (q0_cost : Nat) (q0_rowScaleNow : Nat) (q0_columnScaleNow : Nat) (q0_basic : Nat) (q0_text : Nat) (q0_turned : Nat) (q0_na : Nat) (q0_nb : Nat) (q0_nc : Nat) (vq0_m : Int32) (vq0_n : Int32) (vq0_length : Int32) (vq0_where : Int32) (vq0_effort : Int32) (vq0_thrown : Int32) (vq0_at : Int32) (vq0_scaled : Int32) (vq0_solved : Int32) (vq0_second : Int32) (vq0_nm : Int32) (vq0_nn : Int32) (vq0_number : UInt64) (vq0_bad : Int32) (vq0_a : Nat → UInt64) (vq0_b : Nat → UInt64) (vq0_c : Nat → UInt64) : va_W := [(q0, .inr (8, [.ref q0_a, .ref q0_b, .ref q0_c, .ref q0_rowScale, .ref q0_columnScale, .ref q0_sa, .ref q0_sb, .ref q0_sc, .ref q0_x, .ref q0_s, .ref q0_y, .ref q0_p, .ref q0_d, .ref q0_h, .ref q0_f, .ref q0_mm, .ref q0_low, .ref q0_dd, .ref q0_r, .ref q0_big, .ref q0_dt, .ref q0_dx, .ref q0_t, .ref q0_cost, .ref q0_rowScaleNow, .ref q0_columnScaleNow, .ref q0_basic, .ref q0_text, .ref q0_turned, .int vq0_m, .int vq0_n, .int vq0_length, .int vq0_where, .int vq0_effort, .int vq0_thrown, .int vq0_at, .int vq0_scaled, .int vq0_solved, .int vq0_second, .ref q0_na, .ref q0_nb, .ref q0_nc, .int vq0_nm, .int vq0_nn, .double vq0_number, .int vq0_bad])), (q0_a, .inl (T 0, 40, .inr (.inr (.inr (.inl vq0_a))))), (q0_b, .inl (T 0, 5, .inr (.inr (.inr (.inl vq0_b))))), (q0_c, .inl (T 0, 8, .inr (.inr (.inr (.inl vq0_c)))))]
def s_M_begin_B90 (vq0_m : Int32) (vq0_n : Int32) (vq0_length : Int32) (vq0_where : Int32) (vq0_effort : Int32) (vq0_thrown : Int32) (vq0_at : Int32) (vq0_scaled : Int32) (vq0_solved : Int32) (vq0_second : Int32) (vq0_nm : Int32) (vq0_nn : Int32) (vq0_number : UInt64) (vq0_bad : Int32) (vq0_a : Nat → UInt64) (vq0_b : Nat → UInt64) (x1 : Int32) (x2 : Int32) (vq0_c : Nat → UInt64) (x3 : Int32) : Option (((Nat → UInt64) × Int32) ⊕ ((Nat → UInt64))) :=
  if 8 ≤ x3 then (some (.inr vq0_c)) else (gd (inb x3 8) <| some (.inl (vf_upd vq0_c x3.toNatClampNeg FP.dconst0, x3 + 1)))
def s_M_begin_L90 (vq0_m : Int32) (vq0_n : Int32) (vq0_length : Int32) (vq0_where : Int32) (vq0_effort : Int32) (vq0_thrown : Int32) (vq0_at : Int32) (vq0_scaled : Int32) (vq0_solved : Int32) (vq0_second : Int32) (vq0_nm : Int32) (vq0_nn : Int32) (vq0_number : UInt64) (vq0_bad : Int32) (vq0_a : Nat → UInt64) (vq0_b : Nat → UInt64) (vq0_c : Nat → UInt64) (x1 : Int32) (x2 : Int32) (x3 : Int32) : Option (Int32 × Int32 × Int32 × Int32 × Int32 × (Nat → UInt64) × (Nat → UInt64) × (Nat → UInt64)) :=
  (loopO (fun (st : (Nat → UInt64) × Int32) => s_M_begin_B90 vq0_m vq0_n vq0_length vq0_where vq0_effort vq0_thrown vq0_at vq0_scaled vq0_solved vq0_second vq0_nm vq0_nn vq0_number vq0_bad vq0_a vq0_b x1 x2 st.1 st.2) 2000 (vq0_c, x3)).bind fun ul90 => gd (isb 0) <| some (x1 * x2, vq0_m, vq0_n, vq0_thrown, 0, vq0_a, vq0_b, ul90)
def s_M_begin_B70 (vq0_m : Int32) (vq0_n : Int32) (vq0_length : Int32) (vq0_where : Int32) (vq0_effort : Int32) (vq0_thrown : Int32) (vq0_at : Int32) (vq0_scaled : Int32) (vq0_solved : Int32) (vq0_second : Int32) (vq0_nm : Int32) (vq0_nn : Int32) (vq0_number : UInt64) (vq0_bad : Int32) (vq0_a : Nat → UInt64) (vq0_c : Nat → UInt64) (x1 : Int32) (x2 : Int32) (vq0_b : Nat → UInt64) (x3 : Int32) : Option (((Nat → UInt64) × Int32) ⊕ ((Nat → UInt64))) :=
  if 5 ≤ x3 then (some (.inr vq0_b)) else (gd (inb x3 5) <| some (.inl (vf_upd vq0_b x3.toNatClampNeg FP.dconst0, x3 + 1)))
def s_M_begin_L70 (vq0_m : Int32) (vq0_n : Int32) (vq0_length : Int32) (vq0_where : Int32) (vq0_effort : Int32) (vq0_thrown : Int32) (vq0_at : Int32) (vq0_scaled : Int32) (vq0_solved : Int32) (vq0_second : Int32) (vq0_nm : Int32) (vq0_nn : Int32) (vq0_number : UInt64) (vq0_bad : Int32) (vq0_a : Nat → UInt64) (vq0_b : Nat → UInt64) (vq0_c : Nat → UInt64) (x1 : Int32) (x2 : Int32) (x3 : Int32) : Option (Int32 × Int32 × Int32 × Int32 × Int32 × (Nat → UInt64) × (Nat → UInt64) × (Nat → UInt64)) :=
  (loopO (fun (st : (Nat → UInt64) × Int32) => s_M_begin_B70 vq0_m vq0_n vq0_length vq0_where vq0_effort vq0_thrown vq0_at vq0_scaled vq0_solved vq0_second vq0_nm vq0_nn vq0_number vq0_bad vq0_a vq0_c x1 x2 st.1 st.2) 2000 (vq0_b, x3)).bind fun ul70 => s_M_begin_L90 vq0_m vq0_n vq0_length vq0_where vq0_effort vq0_thrown vq0_at vq0_scaled vq0_solved vq0_second vq0_nm vq0_nn vq0_number vq0_bad vq0_a ul70 vq0_c x1 x2 0
def s_M_begin_B49 (vq0_m : Int32) (vq0_n : Int32) (vq0_length : Int32) (vq0_where : Int32) (vq0_effort : Int32) (vq0_thrown : Int32) (vq0_at : Int32) (vq0_scaled : Int32) (vq0_solved : Int32) (vq0_second : Int32) (vq0_nm : Int32) (vq0_nn : Int32) (vq0_number : UInt64) (vq0_bad : Int32) (vq0_b : Nat → UInt64) (vq0_c : Nat → UInt64) (x1 : Int32) (x2 : Int32) (vq0_a : Nat → UInt64) (x3 : Int32) : Option (((Nat → UInt64) × Int32) ⊕ ((Nat → UInt64))) :=
  if 40 ≤ x3 then (some (.inr vq0_a)) else (gd (inb x3 40) <| some (.inl (vf_upd vq0_a x3.toNatClampNeg FP.dconst0, x3 + 1)))
def s_M_begin_L49 (vq0_m : Int32) (vq0_n : Int32) (vq0_length : Int32) (vq0_where : Int32) (vq0_effort : Int32) (vq0_thrown : Int32) (vq0_at : Int32) (vq0_scaled : Int32) (vq0_solved : Int32) (vq0_second : Int32) (vq0_nm : Int32) (vq0_nn : Int32) (vq0_number : UInt64) (vq0_bad : Int32) (vq0_a : Nat → UInt64) (vq0_b : Nat → UInt64) (vq0_c : Nat → UInt64) (x1 : Int32) (x2 : Int32) (x3 : Int32) : Option (Int32 × Int32 × Int32 × Int32 × Int32 × (Nat → UInt64) × (Nat → UInt64) × (Nat → UInt64)) :=
  (loopO (fun (st : (Nat → UInt64) × Int32) => s_M_begin_B49 vq0_m vq0_n vq0_length vq0_where vq0_effort vq0_thrown vq0_at vq0_scaled vq0_solved vq0_second vq0_nm vq0_nn vq0_number vq0_bad vq0_b vq0_c x1 x2 st.1 st.2) 2000 (vq0_a, x3)).bind fun ul49 => s_M_begin_L70 vq0_m vq0_n vq0_length vq0_where vq0_effort vq0_thrown vq0_at vq0_scaled vq0_solved vq0_second vq0_nm vq0_nn vq0_number vq0_bad ul49 vq0_b vq0_c x1 x2 0
def s_M_begin_J25 (vq0_m : Int32) (vq0_n : Int32) (vq0_length : Int32) (vq0_where : Int32) (vq0_effort : Int32) (vq0_thrown : Int32) (vq0_at : Int32) (vq0_scaled : Int32) (vq0_solved : Int32) (vq0_second : Int32) (vq0_nm : Int32) (vq0_nn : Int32) (vq0_number : UInt64) (vq0_bad : Int32) (vq0_a : Nat → UInt64) (vq0_b : Nat → UInt64) (vq0_c : Nat → UInt64) (x1 : Int32) (x2 : Int32) (y1 : Int32) : Option (Int32 × Int32 × Int32 × Int32 × Int32 × (Nat → UInt64) × (Nat → UInt64) × (Nat → UInt64)) :=
  if y1 ≤ 0 then (s_M_begin_L49 x1 x2 vq0_length vq0_where vq0_effort y1 vq0_at vq0_scaled vq0_solved vq0_second vq0_nm vq0_nn vq0_number vq0_bad vq0_a vq0_b vq0_c x1 x2 0) else (some (0, vq0_m, vq0_n, y1, vq0_solved, vq0_a, vq0_b, vq0_c))
def s_M_begin_J24 (vq0_m : Int32) (vq0_n : Int32) (vq0_length : Int32) (vq0_where : Int32) (vq0_effort : Int32) (vq0_thrown : Int32) (vq0_at : Int32) (vq0_scaled : Int32) (vq0_solved : Int32) (vq0_second : Int32) (vq0_nm : Int32) (vq0_nn : Int32) (vq0_number : UInt64) (vq0_bad : Int32) (vq0_a : Nat → UInt64) (vq0_b : Nat → UInt64) (vq0_c : Nat → UInt64) (x1 : Int32) (x2 : Int32) : Option (Int32 × Int32 × Int32 × Int32 × Int32 × (Nat → UInt64) × (Nat → UInt64) × (Nat → UInt64)) :=
  s_M_begin_J25 vq0_m vq0_n vq0_length vq0_where vq0_effort vq0_thrown vq0_at vq0_scaled vq0_solved vq0_second vq0_nm vq0_nn vq0_number vq0_bad vq0_a vq0_b vq0_c x1 x2 1
def s_M_begin (vq0_m : Int32) (vq0_n : Int32) (vq0_length : Int32) (vq0_where : Int32) (vq0_effort : Int32) (vq0_thrown : Int32) (vq0_at : Int32) (vq0_scaled : Int32) (vq0_solved : Int32) (vq0_second : Int32) (vq0_nm : Int32) (vq0_nn : Int32) (vq0_number : UInt64) (vq0_bad : Int32) (vq0_a : Nat → UInt64) (vq0_b : Nat → UInt64) (vq0_c : Nat → UInt64) (x1 : Int32) (x2 : Int32) : Option (Int32 × Int32 × Int32 × Int32 × Int32 × (Nat → UInt64) × (Nat → UInt64) × (Nat → UInt64)) :=
  (s_M_in x1 1 5).bind fun u9 => if u9 = 0 then (s_M_begin_J24 vq0_m vq0_n vq0_length vq0_where vq0_effort vq0_thrown vq0_at vq0_scaled vq0_solved vq0_second vq0_nm vq0_nn vq0_number vq0_bad vq0_a vq0_b vq0_c x1 x2) else ((s_M_in x2 1 8).bind fun u12 => if u12 = 0 then (s_M_begin_J24 vq0_m vq0_n vq0_length vq0_where vq0_effort vq0_thrown vq0_at vq0_scaled vq0_solved vq0_second vq0_nm vq0_nn vq0_number vq0_bad vq0_a vq0_b vq0_c x1 x2) else (s_M_begin_J25 vq0_m vq0_n vq0_length vq0_where vq0_effort vq0_thrown vq0_at vq0_scaled vq0_solved vq0_second vq0_nm vq0_nn vq0_number vq0_bad vq0_a vq0_b vq0_c x1 x2 0))
set_option maxRecDepth 100000 in
theorem j_M_begin_4 (T : Nat → ClassId) (q0 : Nat) (q0_a : Nat) (q0_b : Nat) (q0_c : Nat) (q0_rowScale : Nat) (q0_columnScale : Nat) (q0_sa : Nat) (q0_sb : Nat) (q0_sc : Nat) (q0_x : Nat) (q0_s : Nat) (q0_y : Nat) (q0_p : Nat) (q0_d : Nat) (q0_h : Nat) (q0_f : Nat) (q0_mm : Nat) (q0_low : Nat) (q0_dd : Nat) (q0_r : Nat) (q0_big : Nat) (q0_dt : Nat) (q0_dx : Nat) (q0_t : Nat) (q0_cost : Nat) (q0_rowScaleNow : Nat) (q0_columnScaleNow : Nat) (q0_basic : Nat) (q0_text : Nat) (q0_turned : Nat) (q0_na : Nat) (q0_nb : Nat) (q0_nc : Nat) (vq0_m : Int32) (vq0_n : Int32) (vq0_length : Int32) (vq0_where : Int32) (vq0_effort : Int32) (vq0_thrown : Int32) (vq0_at : Int32) (vq0_scaled : Int32) (vq0_solved : Int32) (vq0_second : Int32) (vq0_nm : Int32) (vq0_nn : Int32) (vq0_number : UInt64) (vq0_bad : Int32) (vq0_a : Nat → UInt64) (vq0_b : Nat → UInt64) (vq0_c : Nat → UInt64) : ([].map (fun (i : Nat) => (w_M_begin T q0 q0_a q0_b q0_c q0_rowScale q0_columnScale q0_sa q0_sb q0_sc q0_x q0_s q0_y q0_p q0_d q0_h q0_f q0_mm q0_low q0_dd q0_r q0_big q0_dt q0_dx q0_t q0_cost q0_rowScaleNow q0_columnScaleNow q0_basic q0_text q0_turned q0_na q0_nb q0_nc vq0_m vq0_n vq0_length vq0_where vq0_effort vq0_thrown vq0_at vq0_scaled vq0_solved vq0_second vq0_nm vq0_nn vq0_number vq0_bad vq0_a vq0_b vq0_c)[i]?) = (w_M_in T  ).map some) ∧ ([].map (fun (i : Nat) => (w_M_begin T q0 q0_a q0_b q0_c q0_rowScale q0_columnScale q0_sa q0_sb q0_sc q0_x q0_s q0_y q0_p q0_d q0_h q0_f q0_mm q0_low q0_dd q0_r q0_big q0_dt q0_dx q0_t q0_cost q0_rowScaleNow q0_columnScaleNow q0_basic q0_text q0_turned q0_na q0_nb q0_nc vq0_m vq0_n vq0_length vq0_where vq0_effort vq0_thrown vq0_at vq0_scaled vq0_solved vq0_second vq0_nm vq0_nn vq0_number vq0_bad vq0_a vq0_b vq0_c)[i]?) = (w_M_in T  ).map some) ∧ ([0, 1, 2, 3].map (fun (i : Nat) => (w_M_begin T q0 q0_a q0_b q0_c q0_rowScale q0_columnScale q0_sa q0_sb q0_sc q0_x q0_s q0_y q0_p q0_d q0_h q0_f q0_mm q0_low q0_dd q0_r q0_big q0_dt q0_dx q0_t q0_cost q0_rowScaleNow q0_columnScaleNow q0_basic q0_text q0_turned q0_na q0_nb q0_nc vq0_m vq0_n vq0_length vq0_where vq0_effort vq0_thrown vq0_at vq0_scaled vq0_solved vq0_second vq0_nm vq0_nn vq0_number vq0_bad vq0_a vq0_b vq0_c)[i]?) = [0, 1, 2, 3].map (fun (i : Nat) => (w_M_begin T q0 q0_a q0_b q0_c q0_rowScale q0_columnScale q0_sa q0_sb q0_sc q0_x q0_s q0_y q0_p q0_d q0_h q0_f q0_mm q0_low q0_dd q0_r q0_big q0_dt q0_dx q0_t q0_cost q0_rowScaleNow q0_columnScaleNow q0_basic q0_text q0_turned q0_na q0_nb q0_nc vq0_m vq0_n vq0_length vq0_where vq0_effort vq0_thrown vq0_at vq0_scaled vq0_solved vq0_second vq0_nm vq0_nn vq0_number vq0_bad vq0_a vq0_b vq0_c)[i]?)) ∧ (w_M_in T  ).map Prod.fst = (w_M_in T  ).map Prod.fst ∧ (w_M_begin T q0 q0_a q0_b q0_c q0_rowScale q0_columnScale q0_sa q0_sb q0_sc q0_x q0_s q0_y q0_p q0_d q0_h q0_f q0_mm q0_low q0_dd q0_r q0_big q0_dt q0_dx q0_t q0_cost q0_rowScaleNow q0_columnScaleNow q0_basic q0_text q0_turned q0_na q0_nb q0_nc vq0_m vq0_n vq0_length vq0_where vq0_effort vq0_thrown vq0_at vq0_scaled vq0_solved vq0_second vq0_nm vq0_nn vq0_number vq0_bad vq0_a vq0_b vq0_c).length = 4 :=
  ⟨rfl, rfl, Eq.trans (b := ([some (q0, .inr (8, [.ref q0_a, .ref q0_b, .ref q0_c, .ref q0_rowScale, .ref q0_columnScale, .ref q0_sa, .ref q0_sb, .ref q0_sc, .ref q0_x, .ref q0_s, .ref q0_y, .ref q0_p, .ref q0_d, .ref q0_h, .ref q0_f, .ref q0_mm, .ref q0_low, .ref q0_dd, .ref q0_r, .ref q0_big, .ref q0_dt, .ref q0_dx, .ref q0_t, .ref q0_cost, .ref q0_rowScaleNow, .ref q0_columnScaleNow, .ref q0_basic, .ref q0_text, .ref q0_turned, .int vq0_m, .int vq0_n, .int vq0_length, .int vq0_where, .int vq0_effort, .int vq0_thrown, .int vq0_at, .int vq0_scaled, .int vq0_solved, .int vq0_second, .ref q0_na, .ref q0_nb, .ref q0_nc, .int vq0_nm, .int vq0_nn, .double vq0_number, .int vq0_bad])), some (q0_a, .inl (T 0, 40, .inr (.inr (.inr (.inl vq0_a))))), some (q0_b, .inl (T 0, 5, .inr (.inr (.inr (.inl vq0_b))))), some (q0_c, .inl (T 0, 8, .inr (.inr (.inr (.inl vq0_c)))))] : List (Option (Nat × va_E)))) rfl rfl, rfl, rfl⟩
set_option maxRecDepth 100000 in
theorem j_M_begin_14 (T : Nat → ClassId) (q0 : Nat) (q0_a : Nat) (q0_b : Nat) (q0_c : Nat) (q0_rowScale : Nat) (q0_columnScale : Nat) (q0_sa : Nat) (q0_sb : Nat) (q0_sc : Nat) (q0_x : Nat) (q0_s : Nat) (q0_y : Nat) (q0_p : Nat) (q0_d : Nat) (q0_h : Nat) (q0_f : Nat) (q0_mm : Nat) (q0_low : Nat) (q0_dd : Nat) (q0_r : Nat) (q0_big : Nat) (q0_dt : Nat) (q0_dx : Nat) (q0_t : Nat) (q0_cost : Nat) (q0_rowScaleNow : Nat) (q0_columnScaleNow : Nat) (q0_basic : Nat) (q0_text : Nat) (q0_turned : Nat) (q0_na : Nat) (q0_nb : Nat) (q0_nc : Nat) (vq0_m : Int32) (vq0_n : Int32) (vq0_length : Int32) (vq0_where : Int32) (vq0_effort : Int32) (vq0_thrown : Int32) (vq0_at : Int32) (vq0_scaled : Int32) (vq0_solved : Int32) (vq0_second : Int32) (vq0_nm : Int32) (vq0_nn : Int32) (vq0_number : UInt64) (vq0_bad : Int32) (vq0_a : Nat → UInt64) (vq0_b : Nat → UInt64) (vq0_c : Nat → UInt64) : ([].map (fun (i : Nat) => (w_M_begin T q0 q0_a q0_b q0_c q0_rowScale q0_columnScale q0_sa q0_sb q0_sc q0_x q0_s q0_y q0_p q0_d q0_h q0_f q0_mm q0_low q0_dd q0_r q0_big q0_dt q0_dx q0_t q0_cost q0_rowScaleNow q0_columnScaleNow q0_basic q0_text q0_turned q0_na q0_nb q0_nc vq0_m vq0_n vq0_length vq0_where vq0_effort vq0_thrown vq0_at vq0_scaled vq0_solved vq0_second vq0_nm vq0_nn vq0_number vq0_bad vq0_a vq0_b vq0_c)[i]?) = (w_M_in T  ).map some) ∧ ([].map (fun (i : Nat) => (w_M_begin T q0 q0_a q0_b q0_c q0_rowScale q0_columnScale q0_sa q0_sb q0_sc q0_x q0_s q0_y q0_p q0_d q0_h q0_f q0_mm q0_low q0_dd q0_r q0_big q0_dt q0_dx q0_t q0_cost q0_rowScaleNow q0_columnScaleNow q0_basic q0_text q0_turned q0_na q0_nb q0_nc vq0_m vq0_n vq0_length vq0_where vq0_effort vq0_thrown vq0_at vq0_scaled vq0_solved vq0_second vq0_nm vq0_nn vq0_number vq0_bad vq0_a vq0_b vq0_c)[i]?) = (w_M_in T  ).map some) ∧ ([0, 1, 2, 3].map (fun (i : Nat) => (w_M_begin T q0 q0_a q0_b q0_c q0_rowScale q0_columnScale q0_sa q0_sb q0_sc q0_x q0_s q0_y q0_p q0_d q0_h q0_f q0_mm q0_low q0_dd q0_r q0_big q0_dt q0_dx q0_t q0_cost q0_rowScaleNow q0_columnScaleNow q0_basic q0_text q0_turned q0_na q0_nb q0_nc vq0_m vq0_n vq0_length vq0_where vq0_effort vq0_thrown vq0_at vq0_scaled vq0_solved vq0_second vq0_nm vq0_nn vq0_number vq0_bad vq0_a vq0_b vq0_c)[i]?) = [0, 1, 2, 3].map (fun (i : Nat) => (w_M_begin T q0 q0_a q0_b q0_c q0_rowScale q0_columnScale q0_sa q0_sb q0_sc q0_x q0_s q0_y q0_p q0_d q0_h q0_f q0_mm q0_low q0_dd q0_r q0_big q0_dt q0_dx q0_t q0_cost q0_rowScaleNow q0_columnScaleNow q0_basic q0_text q0_turned q0_na q0_nb q0_nc vq0_m vq0_n vq0_length vq0_where vq0_effort vq0_thrown vq0_at vq0_scaled vq0_solved vq0_second vq0_nm vq0_nn vq0_number vq0_bad vq0_a vq0_b vq0_c)[i]?)) ∧ (w_M_in T  ).map Prod.fst = (w_M_in T  ).map Prod.fst ∧ (w_M_begin T q0 q0_a q0_b q0_c q0_rowScale q0_columnScale q0_sa q0_sb q0_sc q0_x q0_s q0_y q0_p q0_d q0_h q0_f q0_mm q0_low q0_dd q0_r q0_big q0_dt q0_dx q0_t q0_cost q0_rowScaleNow q0_columnScaleNow q0_basic q0_text q0_turned q0_na q0_nb q0_nc vq0_m vq0_n vq0_length vq0_where vq0_effort vq0_thrown vq0_at vq0_scaled vq0_solved vq0_second vq0_nm vq0_nn vq0_number vq0_bad vq0_a vq0_b vq0_c).length = 4 :=
  ⟨rfl, rfl, Eq.trans (b := ([some (q0, .inr (8, [.ref q0_a, .ref q0_b, .ref q0_c, .ref q0_rowScale, .ref q0_columnScale, .ref q0_sa, .ref q0_sb, .ref q0_sc, .ref q0_x, .ref q0_s, .ref q0_y, .ref q0_p, .ref q0_d, .ref q0_h, .ref q0_f, .ref q0_mm, .ref q0_low, .ref q0_dd, .ref q0_r, .ref q0_big, .ref q0_dt, .ref q0_dx, .ref q0_t, .ref q0_cost, .ref q0_rowScaleNow, .ref q0_columnScaleNow, .ref q0_basic, .ref q0_text, .ref q0_turned, .int vq0_m, .int vq0_n, .int vq0_length, .int vq0_where, .int vq0_effort, .int vq0_thrown, .int vq0_at, .int vq0_scaled, .int vq0_solved, .int vq0_second, .ref q0_na, .ref q0_nb, .ref q0_nc, .int vq0_nm, .int vq0_nn, .double vq0_number, .int vq0_bad])), some (q0_a, .inl (T 0, 40, .inr (.inr (.inr (.inl vq0_a))))), some (q0_b, .inl (T 0, 5, .inr (.inr (.inr (.inl vq0_b))))), some (q0_c, .inl (T 0, 8, .inr (.inr (.inr (.inl vq0_c)))))] : List (Option (Nat × va_E)))) rfl rfl, rfl, rfl⟩
set_option maxHeartbeats 40000000 in
set_option maxRecDepth 100000 in
theorem c_M_begin (l : Launch) (D : va_G) (T : Nat → ClassId) (q0 : Nat) (q0_a : Nat) (q0_b : Nat) (q0_c : Nat) (q0_rowScale : Nat) (q0_columnScale : Nat) (q0_sa : Nat) (q0_sb : Nat) (q0_sc : Nat) (q0_x : Nat) (q0_s : Nat) (q0_y : Nat) (q0_p : Nat) (q0_d : Nat) (q0_h : Nat) (q0_f : Nat) (q0_mm : Nat) (q0_low : Nat) (q0_dd : Nat) (q0_r : Nat) (q0_big : Nat) (q0_dt : Nat) (q0_dx : Nat) (q0_t : Nat) (q0_cost : Nat) (q0_rowScaleNow : Nat) (q0_columnScaleNow : Nat) (q0_basic : Nat) (q0_text : Nat) (q0_turned : Nat) (q0_na : Nat) (q0_nb : Nat) (q0_nc : Nat) (vq0_m : Int32) (vq0_n : Int32) (vq0_length : Int32) (vq0_where : Int32) (vq0_effort : Int32) (vq0_thrown : Int32) (vq0_at : Int32) (vq0_scaled : Int32) (vq0_solved : Int32) (vq0_second : Int32) (vq0_nm : Int32) (vq0_nn : Int32) (vq0_number : UInt64) (vq0_bad : Int32) (vq0_a : Nat → UInt64) (vq0_b : Nat → UInt64) (vq0_c : Nat → UInt64) (x1 : Int32) (x2 : Int32) (rm : Int32 × Int32 × Int32 × Int32 × Int32 × (Nat → UInt64) × (Nat → UInt64) × (Nat → UInt64)) (h : s_M_begin vq0_m vq0_n vq0_length vq0_where vq0_effort vq0_thrown vq0_at vq0_scaled vq0_solved vq0_second vq0_nm vq0_nn vq0_number vq0_bad vq0_a vq0_b vq0_c x1 x2 = some rm) : CtI l y_M_begin (Cond.code y_M_begin prog_10_method_6_code 4 (some .int) :: BIG) 1 22 D T [.ref q0, .int x1, .int x2] (w_M_begin T q0 q0_a q0_b q0_c q0_rowScale q0_columnScale q0_sa q0_sb q0_sc q0_x q0_s q0_y q0_p q0_d q0_h q0_f q0_mm q0_low q0_dd q0_r q0_big q0_dt q0_dx q0_t q0_cost q0_rowScaleNow q0_columnScaleNow q0_basic q0_text q0_turned q0_na q0_nb q0_nc vq0_m vq0_n vq0_length vq0_where vq0_effort vq0_thrown vq0_at vq0_scaled vq0_solved vq0_second vq0_nm vq0_nn vq0_number vq0_bad vq0_a vq0_b vq0_c) (fun r => r.1) (fun r => (w_M_begin T q0 q0_a q0_b q0_c q0_rowScale q0_columnScale q0_sa q0_sb q0_sc q0_x q0_s q0_y q0_p q0_d q0_h q0_f q0_mm q0_low q0_dd q0_r q0_big q0_dt q0_dx q0_t q0_cost q0_rowScaleNow q0_columnScaleNow q0_basic q0_text q0_turned q0_na q0_nb q0_nc r.2.1 r.2.2.1 vq0_length vq0_where vq0_effort r.2.2.2.1 vq0_at vq0_scaled r.2.2.2.2.1 vq0_second vq0_nm vq0_nn vq0_number vq0_bad r.2.2.2.2.2.1 r.2.2.2.2.2.2.1 r.2.2.2.2.2.2.2)) rm := by
  refine cf_entry (y := y_M_begin) (cc := prog_10_method_6_code) (nL := 4) (ret := (some .int)) (fr := 1) (lo := 22) (T := T) (av := [.ref q0, .int x1, .int x2]) (w := (w_M_begin T q0 q0_a q0_b q0_c q0_rowScale q0_columnScale q0_sa q0_sb q0_sc q0_x q0_s q0_y q0_p q0_d q0_h q0_f q0_mm q0_low q0_dd q0_r q0_big q0_dt q0_dx q0_t q0_cost q0_rowScaleNow q0_columnScaleNow q0_basic q0_text q0_turned q0_na q0_nb q0_nc vq0_m vq0_n vq0_length vq0_where vq0_effort vq0_thrown vq0_at vq0_scaled vq0_solved vq0_second vq0_nm vq0_nn vq0_number vq0_bad vq0_a vq0_b vq0_c)) (Qc := cfQi D (fun r => r.1) (fun r => (w_M_begin T q0 q0_a q0_b q0_c q0_rowScale q0_columnScale q0_sa q0_sb q0_sc q0_x q0_s q0_y q0_p q0_d q0_h q0_f q0_mm q0_low q0_dd q0_r q0_big q0_dt q0_dx q0_t q0_cost q0_rowScaleNow q0_columnScaleNow q0_basic q0_text q0_turned q0_na q0_nb q0_nc r.2.1 r.2.2.1 vq0_length vq0_where vq0_effort r.2.2.2.1 vq0_at vq0_scaled r.2.2.2.2.1 vq0_second vq0_nm vq0_nn vq0_number vq0_bad r.2.2.2.2.2.1 r.2.2.2.2.2.2.1 r.2.2.2.2.2.2.2)) rm) (by decide) rfl (Nat.le_of_ble_eq_true rfl) ?_
  intro p e s m args below meth c A Q H locs ls hx hb hr hlocks hml hown hts hNW hK hA hQ hP hD hS hl
  have hown : s.vm.findClass "ConeForgeModel" = some m.cls := hown
  have hl : lv_has ls 4 [(0, .ref q0), (1, .int x1), (2, .int x2)] := hl
  have L90 : ∀ (vq0_m : Int32) (vq0_n : Int32) (vq0_thrown : Int32) (vq0_solved : Int32) (vq0_a : Nat → UInt64) (vq0_b : Nat → UInt64) (vq0_c : Nat → UInt64) (x1 : Int32) (x2 : Int32) (x3 : Int32), ∀ (H : Heap) (locs : List Loc) (ls : Array Slot), va_P D CL (w_M_begin T q0 q0_a q0_b q0_c q0_rowScale q0_columnScale q0_sa q0_sb q0_sc q0_x q0_s q0_y q0_p q0_d q0_h q0_f q0_mm q0_low q0_dd q0_r q0_big q0_dt q0_dx q0_t q0_cost q0_rowScaleNow q0_columnScaleNow q0_basic q0_text q0_turned q0_na q0_nb q0_nc vq0_m vq0_n vq0_length vq0_where vq0_effort vq0_thrown vq0_at vq0_scaled vq0_solved vq0_second vq0_nm vq0_nn vq0_number vq0_bad vq0_a vq0_b vq0_c) H → va_D A (w_M_begin T q0 q0_a q0_b q0_c q0_rowScale q0_columnScale q0_sa q0_sb q0_sc q0_x q0_s q0_y q0_p q0_d q0_h q0_f q0_mm q0_low q0_dd q0_r q0_big q0_dt q0_dx q0_t q0_cost q0_rowScaleNow q0_columnScaleNow q0_basic q0_text q0_turned q0_na q0_nb q0_nc vq0_m vq0_n vq0_length vq0_where vq0_effort vq0_thrown vq0_at vq0_scaled vq0_solved vq0_second vq0_nm vq0_nn vq0_number vq0_bad vq0_a vq0_b vq0_c) → va_S A s.heap H locs → lv_has ls 4 [(0, .ref q0), (1, .int x1), (2, .int x2), (3, .int x3)] → s_M_begin_L90 vq0_m vq0_n vq0_length vq0_where vq0_effort vq0_thrown vq0_at vq0_scaled vq0_solved vq0_second vq0_nm vq0_nn vq0_number vq0_bad vq0_a vq0_b vq0_c x1 x2 x3 = some rm → W p l e (rmk 1 22) s m args below meth c H locs 0 0 Q (F0 m 90 ls []) := by
    intro vq0_m vq0_n vq0_thrown vq0_solved vq0_a vq0_b vq0_c x1 x2 x3 H locs ls hP hD hS hl h
    unfold s_M_begin_L90 at h
    obtain ⟨ul90, hul90, h⟩ := bi_some h
    refine loopO_W (Wh := fun (st : (Nat → UInt64) × Int32) => ∀ (H : Heap) (locs : List Loc) (ls : Array Slot), va_P D CL (w_M_begin T q0 q0_a q0_b q0_c q0_rowScale q0_columnScale q0_sa q0_sb q0_sc q0_x q0_s q0_y q0_p q0_d q0_h q0_f q0_mm q0_low q0_dd q0_r q0_big q0_dt q0_dx q0_t q0_cost q0_rowScaleNow q0_columnScaleNow q0_basic q0_text q0_turned q0_na q0_nb q0_nc vq0_m vq0_n vq0_length vq0_where vq0_effort vq0_thrown vq0_at vq0_scaled vq0_solved vq0_second vq0_nm vq0_nn vq0_number vq0_bad vq0_a vq0_b st.1) H → va_D A (w_M_begin T q0 q0_a q0_b q0_c q0_rowScale q0_columnScale q0_sa q0_sb q0_sc q0_x q0_s q0_y q0_p q0_d q0_h q0_f q0_mm q0_low q0_dd q0_r q0_big q0_dt q0_dx q0_t q0_cost q0_rowScaleNow q0_columnScaleNow q0_basic q0_text q0_turned q0_na q0_nb q0_nc vq0_m vq0_n vq0_length vq0_where vq0_effort vq0_thrown vq0_at vq0_scaled vq0_solved vq0_second vq0_nm vq0_nn vq0_number vq0_bad vq0_a vq0_b st.1) → va_S A s.heap H locs → lv_has ls 4 [(0, .ref q0), (1, .int x1), (2, .int x2), (3, .int st.2)] → W p l e (rmk 1 22) s m args below meth c H locs 0 0 Q (F0 m 90 ls [])) (Wx := fun (e1 : (Nat → UInt64)) => ∀ (H : Heap) (locs : List Loc) (ls : Array Slot), va_P D CL (w_M_begin T q0 q0_a q0_b q0_c q0_rowScale q0_columnScale q0_sa q0_sb q0_sc q0_x q0_s q0_y q0_p q0_d q0_h q0_f q0_mm q0_low q0_dd q0_r q0_big q0_dt q0_dx q0_t q0_cost q0_rowScaleNow q0_columnScaleNow q0_basic q0_text q0_turned q0_na q0_nb q0_nc vq0_m vq0_n vq0_length vq0_where vq0_effort vq0_thrown vq0_at vq0_scaled vq0_solved vq0_second vq0_nm vq0_nn vq0_number vq0_bad vq0_a vq0_b e1) H → va_D A (w_M_begin T q0 q0_a q0_b q0_c q0_rowScale q0_columnScale q0_sa q0_sb q0_sc q0_x q0_s q0_y q0_p q0_d q0_h q0_f q0_mm q0_low q0_dd q0_r q0_big q0_dt q0_dx q0_t q0_cost q0_rowScaleNow q0_columnScaleNow q0_basic q0_text q0_turned q0_na q0_nb q0_nc vq0_m vq0_n vq0_length vq0_where vq0_effort vq0_thrown vq0_at vq0_scaled vq0_solved vq0_second vq0_nm vq0_nn vq0_number vq0_bad vq0_a vq0_b e1) → va_S A s.heap H locs → lv_has ls 4 [(0, .ref q0), (1, .int x1), (2, .int x2)] → W p l e (rmk 1 22) s m args below meth c H locs 0 0 Q (F0 m 109 ls [])) ?_ 2000 _ ul90 hul90 ?_ H locs ls hP hD hS hl
    · intro st rb90 h kc90 kx90 H locs ls hP hD hS hl
      obtain ⟨vq0_c, x3⟩ := st
      have h : s_M_begin_B90 vq0_m vq0_n vq0_length vq0_where vq0_effort vq0_thrown vq0_at vq0_scaled vq0_solved vq0_second vq0_nm vq0_nn vq0_number vq0_bad vq0_a vq0_b x1 x2 vq0_c x3 = some rb90 := h
      unfold s_M_begin_B90 at h
      refine lv_iload_n hx hb d_M_begin_90 rfl (lv_at hl 3 rfl) ?_
      refine lv_bipush (v := 8) hx hb d_M_begin_91 (by decide) ?_
      refine lv_icmp_ge (tgt := 109) hx hb d_M_begin_93 (by decide) (fun c1 => ?_) (fun c1 => ?_)
      · have h := it_t c1 h
        exact kx90 _ (Option.some.inj h).symm H locs ls hP hD hS (lv_sub hl [0, 1, 2] rfl)
      · have h := it_f c1 h
        refine lv_aload_n hx hb d_M_begin_96 rfl (lv_at hl 0 rfl) ?_
        refine va_get (D := D) (ci := 8) (v := .ref q0_c) (C := "ConeForgeModel") (T := FM) (N := 46) hx hb hts iM hown hK hP 0 rfl rfl 2 (by decide) (hts _ (bgc bw686)) (fun _ h9 => h9) rfl d_M_begin_97 ?_
        refine lv_iload_n hx hb d_M_begin_100 rfl (lv_at hl 3 rfl) ?_
        refine lv_dconst0 hx hb d_M_begin_101 ?_
        obtain ⟨g2, h⟩ := gd_some h
        refine va_dast hx hb hK hP hD hS 3 0 rfl rfl (inb_in g2) d_M_begin_102 (fun H locs hP hD hS => ?_)
        have hP : va_P D CL (w_M_begin T q0 q0_a q0_b q0_c q0_rowScale q0_columnScale q0_sa q0_sb q0_sc q0_x q0_s q0_y q0_p q0_d q0_h q0_f q0_mm q0_low q0_dd q0_r q0_big q0_dt q0_dx q0_t q0_cost q0_rowScaleNow q0_columnScaleNow q0_basic q0_text q0_turned q0_na q0_nb q0_nc vq0_m vq0_n vq0_length vq0_where vq0_effort vq0_thrown vq0_at vq0_scaled vq0_solved vq0_second vq0_nm vq0_nn vq0_number vq0_bad vq0_a vq0_b (vf_upd vq0_c x3.toNatClampNeg FP.dconst0)) H := hP
        have hD : va_D A (w_M_begin T q0 q0_a q0_b q0_c q0_rowScale q0_columnScale q0_sa q0_sb q0_sc q0_x q0_s q0_y q0_p q0_d q0_h q0_f q0_mm q0_low q0_dd q0_r q0_big q0_dt q0_dx q0_t q0_cost q0_rowScaleNow q0_columnScaleNow q0_basic q0_text q0_turned q0_na q0_nb q0_nc vq0_m vq0_n vq0_length vq0_where vq0_effort vq0_thrown vq0_at vq0_scaled vq0_solved vq0_second vq0_nm vq0_nn vq0_number vq0_bad vq0_a vq0_b (vf_upd vq0_c x3.toNatClampNeg FP.dconst0)) := hD
        refine lv_iinc (v := x3 + 1) (lv' := [(3, .int (x3 + 1)), (0, .ref q0), (1, .int x1), (2, .int x2)]) hx hb d_M_begin_103 hl (k := 3) rfl rfl (by decide) rfl (fun ls hl => ?_)
        refine lv_goto (tgt := 90) hx hb d_M_begin_106 (by decide) ?_
        exact kc90 _ (Option.some.inj h).symm H locs ls hP hD hS (lv_sub hl [1, 2, 3, 0] rfl)
    · intro H locs ls hP hD hS hl
      refine lv_aload_n hx hb d_M_begin_109 rfl (lv_at hl 0 rfl) ?_
      refine lv_iconst (v := 0) hx hb d_M_begin_110 (by decide) ?_
      obtain ⟨g3, h⟩ := gd_some h
      refine va_put (D := D) (ci := 8) (v := .int 0) (ty := .boolean) (C := "ConeForgeModel") (T := FM) (N := 46) hx hb hts iM tM tM_ok nmM hown hK hP hD hS 0 rfl rfl 37 (by decide) (hts _ (bgc bw721)) (fun _ h9 => h9) rfl (by decide +kernel) (isb_n g3) (isb_f g3) (Nat.le_of_ble_eq_true rfl) d_M_begin_111 (fun H locs hP hD hS => ?_)
      have hP : va_P D CL (w_M_begin T q0 q0_a q0_b q0_c q0_rowScale q0_columnScale q0_sa q0_sb q0_sc q0_x q0_s q0_y q0_p q0_d q0_h q0_f q0_mm q0_low q0_dd q0_r q0_big q0_dt q0_dx q0_t q0_cost q0_rowScaleNow q0_columnScaleNow q0_basic q0_text q0_turned q0_na q0_nb q0_nc vq0_m vq0_n vq0_length vq0_where vq0_effort vq0_thrown vq0_at vq0_scaled 0 vq0_second vq0_nm vq0_nn vq0_number vq0_bad vq0_a vq0_b ul90) H := hP
      have hD : va_D A (w_M_begin T q0 q0_a q0_b q0_c q0_rowScale q0_columnScale q0_sa q0_sb q0_sc q0_x q0_s q0_y q0_p q0_d q0_h q0_f q0_mm q0_low q0_dd q0_r q0_big q0_dt q0_dx q0_t q0_cost q0_rowScaleNow q0_columnScaleNow q0_basic q0_text q0_turned q0_na q0_nb q0_nc vq0_m vq0_n vq0_length vq0_where vq0_effort vq0_thrown vq0_at vq0_scaled 0 vq0_second vq0_nm vq0_nn vq0_number vq0_bad vq0_a vq0_b ul90) := hD
      refine lv_iload_n hx hb d_M_begin_114 rfl (lv_at hl 1 rfl) ?_
      refine lv_iload_n hx hb d_M_begin_115 rfl (lv_at hl 2 rfl) ?_
      refine lv_imul hx hb d_M_begin_116 ?_
      exact rtI hx hb hr hlocks hQ (Option.some.inj h) hP hS d_M_begin_117 rfl rfl
  have L70 : ∀ (vq0_m : Int32) (vq0_n : Int32) (vq0_thrown : Int32) (vq0_solved : Int32) (vq0_a : Nat → UInt64) (vq0_b : Nat → UInt64) (vq0_c : Nat → UInt64) (x1 : Int32) (x2 : Int32) (x3 : Int32), ∀ (H : Heap) (locs : List Loc) (ls : Array Slot), va_P D CL (w_M_begin T q0 q0_a q0_b q0_c q0_rowScale q0_columnScale q0_sa q0_sb q0_sc q0_x q0_s q0_y q0_p q0_d q0_h q0_f q0_mm q0_low q0_dd q0_r q0_big q0_dt q0_dx q0_t q0_cost q0_rowScaleNow q0_columnScaleNow q0_basic q0_text q0_turned q0_na q0_nb q0_nc vq0_m vq0_n vq0_length vq0_where vq0_effort vq0_thrown vq0_at vq0_scaled vq0_solved vq0_second vq0_nm vq0_nn vq0_number vq0_bad vq0_a vq0_b vq0_c) H → va_D A (w_M_begin T q0 q0_a q0_b q0_c q0_rowScale q0_columnScale q0_sa q0_sb q0_sc q0_x q0_s q0_y q0_p q0_d q0_h q0_f q0_mm q0_low q0_dd q0_r q0_big q0_dt q0_dx q0_t q0_cost q0_rowScaleNow q0_columnScaleNow q0_basic q0_text q0_turned q0_na q0_nb q0_nc vq0_m vq0_n vq0_length vq0_where vq0_effort vq0_thrown vq0_at vq0_scaled vq0_solved vq0_second vq0_nm vq0_nn vq0_number vq0_bad vq0_a vq0_b vq0_c) → va_S A s.heap H locs → lv_has ls 4 [(0, .ref q0), (1, .int x1), (2, .int x2), (3, .int x3)] → s_M_begin_L70 vq0_m vq0_n vq0_length vq0_where vq0_effort vq0_thrown vq0_at vq0_scaled vq0_solved vq0_second vq0_nm vq0_nn vq0_number vq0_bad vq0_a vq0_b vq0_c x1 x2 x3 = some rm → W p l e (rmk 1 22) s m args below meth c H locs 0 0 Q (F0 m 70 ls []) := by
    intro vq0_m vq0_n vq0_thrown vq0_solved vq0_a vq0_b vq0_c x1 x2 x3 H locs ls hP hD hS hl h
    unfold s_M_begin_L70 at h
    obtain ⟨ul70, hul70, h⟩ := bi_some h
    refine loopO_W (Wh := fun (st : (Nat → UInt64) × Int32) => ∀ (H : Heap) (locs : List Loc) (ls : Array Slot), va_P D CL (w_M_begin T q0 q0_a q0_b q0_c q0_rowScale q0_columnScale q0_sa q0_sb q0_sc q0_x q0_s q0_y q0_p q0_d q0_h q0_f q0_mm q0_low q0_dd q0_r q0_big q0_dt q0_dx q0_t q0_cost q0_rowScaleNow q0_columnScaleNow q0_basic q0_text q0_turned q0_na q0_nb q0_nc vq0_m vq0_n vq0_length vq0_where vq0_effort vq0_thrown vq0_at vq0_scaled vq0_solved vq0_second vq0_nm vq0_nn vq0_number vq0_bad vq0_a st.1 vq0_c) H → va_D A (w_M_begin T q0 q0_a q0_b q0_c q0_rowScale q0_columnScale q0_sa q0_sb q0_sc q0_x q0_s q0_y q0_p q0_d q0_h q0_f q0_mm q0_low q0_dd q0_r q0_big q0_dt q0_dx q0_t q0_cost q0_rowScaleNow q0_columnScaleNow q0_basic q0_text q0_turned q0_na q0_nb q0_nc vq0_m vq0_n vq0_length vq0_where vq0_effort vq0_thrown vq0_at vq0_scaled vq0_solved vq0_second vq0_nm vq0_nn vq0_number vq0_bad vq0_a st.1 vq0_c) → va_S A s.heap H locs → lv_has ls 4 [(0, .ref q0), (1, .int x1), (2, .int x2), (3, .int st.2)] → W p l e (rmk 1 22) s m args below meth c H locs 0 0 Q (F0 m 70 ls [])) (Wx := fun (e1 : (Nat → UInt64)) => ∀ (H : Heap) (locs : List Loc) (ls : Array Slot), va_P D CL (w_M_begin T q0 q0_a q0_b q0_c q0_rowScale q0_columnScale q0_sa q0_sb q0_sc q0_x q0_s q0_y q0_p q0_d q0_h q0_f q0_mm q0_low q0_dd q0_r q0_big q0_dt q0_dx q0_t q0_cost q0_rowScaleNow q0_columnScaleNow q0_basic q0_text q0_turned q0_na q0_nb q0_nc vq0_m vq0_n vq0_length vq0_where vq0_effort vq0_thrown vq0_at vq0_scaled vq0_solved vq0_second vq0_nm vq0_nn vq0_number vq0_bad vq0_a e1 vq0_c) H → va_D A (w_M_begin T q0 q0_a q0_b q0_c q0_rowScale q0_columnScale q0_sa q0_sb q0_sc q0_x q0_s q0_y q0_p q0_d q0_h q0_f q0_mm q0_low q0_dd q0_r q0_big q0_dt q0_dx q0_t q0_cost q0_rowScaleNow q0_columnScaleNow q0_basic q0_text q0_turned q0_na q0_nb q0_nc vq0_m vq0_n vq0_length vq0_where vq0_effort vq0_thrown vq0_at vq0_scaled vq0_solved vq0_second vq0_nm vq0_nn vq0_number vq0_bad vq0_a e1 vq0_c) → va_S A s.heap H locs → lv_has ls 4 [(0, .ref q0), (1, .int x1), (2, .int x2)] → W p l e (rmk 1 22) s m args below meth c H locs 0 0 Q (F0 m 88 ls [])) ?_ 2000 _ ul70 hul70 ?_ H locs ls hP hD hS hl
    · intro st rb70 h kc70 kx70 H locs ls hP hD hS hl
      obtain ⟨vq0_b, x3⟩ := st
      have h : s_M_begin_B70 vq0_m vq0_n vq0_length vq0_where vq0_effort vq0_thrown vq0_at vq0_scaled vq0_solved vq0_second vq0_nm vq0_nn vq0_number vq0_bad vq0_a vq0_c x1 x2 vq0_b x3 = some rb70 := h
      unfold s_M_begin_B70 at h
      refine lv_iload_n hx hb d_M_begin_70 rfl (lv_at hl 3 rfl) ?_
      refine lv_iconst (v := 5) hx hb d_M_begin_71 (by decide) ?_
      refine lv_icmp_ge (tgt := 88) hx hb d_M_begin_72 (by decide) (fun c4 => ?_) (fun c4 => ?_)
      · have h := it_t c4 h
        exact kx70 _ (Option.some.inj h).symm H locs ls hP hD hS (lv_sub hl [0, 1, 2] rfl)
      · have h := it_f c4 h
        refine lv_aload_n hx hb d_M_begin_75 rfl (lv_at hl 0 rfl) ?_
        refine va_get (D := D) (ci := 8) (v := .ref q0_b) (C := "ConeForgeModel") (T := FM) (N := 46) hx hb hts iM hown hK hP 0 rfl rfl 1 (by decide) (hts _ (bgc bw685)) (fun _ h9 => h9) rfl d_M_begin_76 ?_
        refine lv_iload_n hx hb d_M_begin_79 rfl (lv_at hl 3 rfl) ?_
        refine lv_dconst0 hx hb d_M_begin_80 ?_
        obtain ⟨g5, h⟩ := gd_some h
        refine va_dast hx hb hK hP hD hS 2 0 rfl rfl (inb_in g5) d_M_begin_81 (fun H locs hP hD hS => ?_)
        have hP : va_P D CL (w_M_begin T q0 q0_a q0_b q0_c q0_rowScale q0_columnScale q0_sa q0_sb q0_sc q0_x q0_s q0_y q0_p q0_d q0_h q0_f q0_mm q0_low q0_dd q0_r q0_big q0_dt q0_dx q0_t q0_cost q0_rowScaleNow q0_columnScaleNow q0_basic q0_text q0_turned q0_na q0_nb q0_nc vq0_m vq0_n vq0_length vq0_where vq0_effort vq0_thrown vq0_at vq0_scaled vq0_solved vq0_second vq0_nm vq0_nn vq0_number vq0_bad vq0_a (vf_upd vq0_b x3.toNatClampNeg FP.dconst0) vq0_c) H := hP
        have hD : va_D A (w_M_begin T q0 q0_a q0_b q0_c q0_rowScale q0_columnScale q0_sa q0_sb q0_sc q0_x q0_s q0_y q0_p q0_d q0_h q0_f q0_mm q0_low q0_dd q0_r q0_big q0_dt q0_dx q0_t q0_cost q0_rowScaleNow q0_columnScaleNow q0_basic q0_text q0_turned q0_na q0_nb q0_nc vq0_m vq0_n vq0_length vq0_where vq0_effort vq0_thrown vq0_at vq0_scaled vq0_solved vq0_second vq0_nm vq0_nn vq0_number vq0_bad vq0_a (vf_upd vq0_b x3.toNatClampNeg FP.dconst0) vq0_c) := hD
        refine lv_iinc (v := x3 + 1) (lv' := [(3, .int (x3 + 1)), (0, .ref q0), (1, .int x1), (2, .int x2)]) hx hb d_M_begin_82 hl (k := 3) rfl rfl (by decide) rfl (fun ls hl => ?_)
        refine lv_goto (tgt := 70) hx hb d_M_begin_85 (by decide) ?_
        exact kc70 _ (Option.some.inj h).symm H locs ls hP hD hS (lv_sub hl [1, 2, 3, 0] rfl)
    · intro H locs ls hP hD hS hl
      refine lv_iconst (v := 0) hx hb d_M_begin_88 (by decide) ?_
      refine lv_istore_n (lv' := [(3, .int 0), (0, .ref q0), (1, .int x1), (2, .int x2)]) hx hb d_M_begin_89 rfl hl (by decide) rfl (fun ls hl => ?_)
      exact L90 vq0_m vq0_n vq0_thrown vq0_solved vq0_a ul70 vq0_c x1 x2 0 H locs ls hP hD hS (lv_sub hl [1, 2, 3, 0] rfl) h
  have L49 : ∀ (vq0_m : Int32) (vq0_n : Int32) (vq0_thrown : Int32) (vq0_solved : Int32) (vq0_a : Nat → UInt64) (vq0_b : Nat → UInt64) (vq0_c : Nat → UInt64) (x1 : Int32) (x2 : Int32) (x3 : Int32), ∀ (H : Heap) (locs : List Loc) (ls : Array Slot), va_P D CL (w_M_begin T q0 q0_a q0_b q0_c q0_rowScale q0_columnScale q0_sa q0_sb q0_sc q0_x q0_s q0_y q0_p q0_d q0_h q0_f q0_mm q0_low q0_dd q0_r q0_big q0_dt q0_dx q0_t q0_cost q0_rowScaleNow q0_columnScaleNow q0_basic q0_text q0_turned q0_na q0_nb q0_nc vq0_m vq0_n vq0_length vq0_where vq0_effort vq0_thrown vq0_at vq0_scaled vq0_solved vq0_second vq0_nm vq0_nn vq0_number vq0_bad vq0_a vq0_b vq0_c) H → va_D A (w_M_begin T q0 q0_a q0_b q0_c q0_rowScale q0_columnScale q0_sa q0_sb q0_sc q0_x q0_s q0_y q0_p q0_d q0_h q0_f q0_mm q0_low q0_dd q0_r q0_big q0_dt q0_dx q0_t q0_cost q0_rowScaleNow q0_columnScaleNow q0_basic q0_text q0_turned q0_na q0_nb q0_nc vq0_m vq0_n vq0_length vq0_where vq0_effort vq0_thrown vq0_at vq0_scaled vq0_solved vq0_second vq0_nm vq0_nn vq0_number vq0_bad vq0_a vq0_b vq0_c) → va_S A s.heap H locs → lv_has ls 4 [(0, .ref q0), (1, .int x1), (2, .int x2), (3, .int x3)] → s_M_begin_L49 vq0_m vq0_n vq0_length vq0_where vq0_effort vq0_thrown vq0_at vq0_scaled vq0_solved vq0_second vq0_nm vq0_nn vq0_number vq0_bad vq0_a vq0_b vq0_c x1 x2 x3 = some rm → W p l e (rmk 1 22) s m args below meth c H locs 0 0 Q (F0 m 49 ls []) := by
    intro vq0_m vq0_n vq0_thrown vq0_solved vq0_a vq0_b vq0_c x1 x2 x3 H locs ls hP hD hS hl h
    unfold s_M_begin_L49 at h
    obtain ⟨ul49, hul49, h⟩ := bi_some h
    refine loopO_W (Wh := fun (st : (Nat → UInt64) × Int32) => ∀ (H : Heap) (locs : List Loc) (ls : Array Slot), va_P D CL (w_M_begin T q0 q0_a q0_b q0_c q0_rowScale q0_columnScale q0_sa q0_sb q0_sc q0_x q0_s q0_y q0_p q0_d q0_h q0_f q0_mm q0_low q0_dd q0_r q0_big q0_dt q0_dx q0_t q0_cost q0_rowScaleNow q0_columnScaleNow q0_basic q0_text q0_turned q0_na q0_nb q0_nc vq0_m vq0_n vq0_length vq0_where vq0_effort vq0_thrown vq0_at vq0_scaled vq0_solved vq0_second vq0_nm vq0_nn vq0_number vq0_bad st.1 vq0_b vq0_c) H → va_D A (w_M_begin T q0 q0_a q0_b q0_c q0_rowScale q0_columnScale q0_sa q0_sb q0_sc q0_x q0_s q0_y q0_p q0_d q0_h q0_f q0_mm q0_low q0_dd q0_r q0_big q0_dt q0_dx q0_t q0_cost q0_rowScaleNow q0_columnScaleNow q0_basic q0_text q0_turned q0_na q0_nb q0_nc vq0_m vq0_n vq0_length vq0_where vq0_effort vq0_thrown vq0_at vq0_scaled vq0_solved vq0_second vq0_nm vq0_nn vq0_number vq0_bad st.1 vq0_b vq0_c) → va_S A s.heap H locs → lv_has ls 4 [(0, .ref q0), (1, .int x1), (2, .int x2), (3, .int st.2)] → W p l e (rmk 1 22) s m args below meth c H locs 0 0 Q (F0 m 49 ls [])) (Wx := fun (e1 : (Nat → UInt64)) => ∀ (H : Heap) (locs : List Loc) (ls : Array Slot), va_P D CL (w_M_begin T q0 q0_a q0_b q0_c q0_rowScale q0_columnScale q0_sa q0_sb q0_sc q0_x q0_s q0_y q0_p q0_d q0_h q0_f q0_mm q0_low q0_dd q0_r q0_big q0_dt q0_dx q0_t q0_cost q0_rowScaleNow q0_columnScaleNow q0_basic q0_text q0_turned q0_na q0_nb q0_nc vq0_m vq0_n vq0_length vq0_where vq0_effort vq0_thrown vq0_at vq0_scaled vq0_solved vq0_second vq0_nm vq0_nn vq0_number vq0_bad e1 vq0_b vq0_c) H → va_D A (w_M_begin T q0 q0_a q0_b q0_c q0_rowScale q0_columnScale q0_sa q0_sb q0_sc q0_x q0_s q0_y q0_p q0_d q0_h q0_f q0_mm q0_low q0_dd q0_r q0_big q0_dt q0_dx q0_t q0_cost q0_rowScaleNow q0_columnScaleNow q0_basic q0_text q0_turned q0_na q0_nb q0_nc vq0_m vq0_n vq0_length vq0_where vq0_effort vq0_thrown vq0_at vq0_scaled vq0_solved vq0_second vq0_nm vq0_nn vq0_number vq0_bad e1 vq0_b vq0_c) → va_S A s.heap H locs → lv_has ls 4 [(0, .ref q0), (1, .int x1), (2, .int x2)] → W p l e (rmk 1 22) s m args below meth c H locs 0 0 Q (F0 m 68 ls [])) ?_ 2000 _ ul49 hul49 ?_ H locs ls hP hD hS hl
    · intro st rb49 h kc49 kx49 H locs ls hP hD hS hl
      obtain ⟨vq0_a, x3⟩ := st
      have h : s_M_begin_B49 vq0_m vq0_n vq0_length vq0_where vq0_effort vq0_thrown vq0_at vq0_scaled vq0_solved vq0_second vq0_nm vq0_nn vq0_number vq0_bad vq0_b vq0_c x1 x2 vq0_a x3 = some rb49 := h
      unfold s_M_begin_B49 at h
      refine lv_iload_n hx hb d_M_begin_49 rfl (lv_at hl 3 rfl) ?_
      refine lv_bipush (v := 40) hx hb d_M_begin_50 (by decide) ?_
      refine lv_icmp_ge (tgt := 68) hx hb d_M_begin_52 (by decide) (fun c6 => ?_) (fun c6 => ?_)
      · have h := it_t c6 h
        exact kx49 _ (Option.some.inj h).symm H locs ls hP hD hS (lv_sub hl [0, 1, 2] rfl)
      · have h := it_f c6 h
        refine lv_aload_n hx hb d_M_begin_55 rfl (lv_at hl 0 rfl) ?_
        refine va_get (D := D) (ci := 8) (v := .ref q0_a) (C := "ConeForgeModel") (T := FM) (N := 46) hx hb hts iM hown hK hP 0 rfl rfl 0 (by decide) (hts _ (bgc bw684)) (fun _ h9 => h9) rfl d_M_begin_56 ?_
        refine lv_iload_n hx hb d_M_begin_59 rfl (lv_at hl 3 rfl) ?_
        refine lv_dconst0 hx hb d_M_begin_60 ?_
        obtain ⟨g7, h⟩ := gd_some h
        refine va_dast hx hb hK hP hD hS 1 0 rfl rfl (inb_in g7) d_M_begin_61 (fun H locs hP hD hS => ?_)
        have hP : va_P D CL (w_M_begin T q0 q0_a q0_b q0_c q0_rowScale q0_columnScale q0_sa q0_sb q0_sc q0_x q0_s q0_y q0_p q0_d q0_h q0_f q0_mm q0_low q0_dd q0_r q0_big q0_dt q0_dx q0_t q0_cost q0_rowScaleNow q0_columnScaleNow q0_basic q0_text q0_turned q0_na q0_nb q0_nc vq0_m vq0_n vq0_length vq0_where vq0_effort vq0_thrown vq0_at vq0_scaled vq0_solved vq0_second vq0_nm vq0_nn vq0_number vq0_bad (vf_upd vq0_a x3.toNatClampNeg FP.dconst0) vq0_b vq0_c) H := hP
        have hD : va_D A (w_M_begin T q0 q0_a q0_b q0_c q0_rowScale q0_columnScale q0_sa q0_sb q0_sc q0_x q0_s q0_y q0_p q0_d q0_h q0_f q0_mm q0_low q0_dd q0_r q0_big q0_dt q0_dx q0_t q0_cost q0_rowScaleNow q0_columnScaleNow q0_basic q0_text q0_turned q0_na q0_nb q0_nc vq0_m vq0_n vq0_length vq0_where vq0_effort vq0_thrown vq0_at vq0_scaled vq0_solved vq0_second vq0_nm vq0_nn vq0_number vq0_bad (vf_upd vq0_a x3.toNatClampNeg FP.dconst0) vq0_b vq0_c) := hD
        refine lv_iinc (v := x3 + 1) (lv' := [(3, .int (x3 + 1)), (0, .ref q0), (1, .int x1), (2, .int x2)]) hx hb d_M_begin_62 hl (k := 3) rfl rfl (by decide) rfl (fun ls hl => ?_)
        refine lv_goto (tgt := 49) hx hb d_M_begin_65 (by decide) ?_
        exact kc49 _ (Option.some.inj h).symm H locs ls hP hD hS (lv_sub hl [1, 2, 3, 0] rfl)
    · intro H locs ls hP hD hS hl
      refine lv_iconst (v := 0) hx hb d_M_begin_68 (by decide) ?_
      refine lv_istore_n (lv' := [(3, .int 0), (0, .ref q0), (1, .int x1), (2, .int x2)]) hx hb d_M_begin_69 rfl hl (by decide) rfl (fun ls hl => ?_)
      exact L70 vq0_m vq0_n vq0_thrown vq0_solved ul49 vq0_b vq0_c x1 x2 0 H locs ls hP hD hS (lv_sub hl [1, 2, 3, 0] rfl) h
  have J25 : ∀ (vq0_m : Int32) (vq0_n : Int32) (vq0_thrown : Int32) (vq0_solved : Int32) (vq0_a : Nat → UInt64) (vq0_b : Nat → UInt64) (vq0_c : Nat → UInt64) (x1 : Int32) (x2 : Int32) (y1 : Int32), ∀ (H : Heap) (locs : List Loc) (ls : Array Slot), va_P D CL (w_M_begin T q0 q0_a q0_b q0_c q0_rowScale q0_columnScale q0_sa q0_sb q0_sc q0_x q0_s q0_y q0_p q0_d q0_h q0_f q0_mm q0_low q0_dd q0_r q0_big q0_dt q0_dx q0_t q0_cost q0_rowScaleNow q0_columnScaleNow q0_basic q0_text q0_turned q0_na q0_nb q0_nc vq0_m vq0_n vq0_length vq0_where vq0_effort vq0_thrown vq0_at vq0_scaled vq0_solved vq0_second vq0_nm vq0_nn vq0_number vq0_bad vq0_a vq0_b vq0_c) H → va_D A (w_M_begin T q0 q0_a q0_b q0_c q0_rowScale q0_columnScale q0_sa q0_sb q0_sc q0_x q0_s q0_y q0_p q0_d q0_h q0_f q0_mm q0_low q0_dd q0_r q0_big q0_dt q0_dx q0_t q0_cost q0_rowScaleNow q0_columnScaleNow q0_basic q0_text q0_turned q0_na q0_nb q0_nc vq0_m vq0_n vq0_length vq0_where vq0_effort vq0_thrown vq0_at vq0_scaled vq0_solved vq0_second vq0_nm vq0_nn vq0_number vq0_bad vq0_a vq0_b vq0_c) → va_S A s.heap H locs → lv_has ls 4 [(0, .ref q0), (1, .int x1), (2, .int x2)] → s_M_begin_J25 vq0_m vq0_n vq0_length vq0_where vq0_effort vq0_thrown vq0_at vq0_scaled vq0_solved vq0_second vq0_nm vq0_nn vq0_number vq0_bad vq0_a vq0_b vq0_c x1 x2 y1 = some rm → W p l e (rmk 1 22) s m args below meth c H locs 0 0 Q (F0 m 25 ls [.int y1, .ref q0]) := by
    intro vq0_m vq0_n vq0_thrown vq0_solved vq0_a vq0_b vq0_c x1 x2 y1 H locs ls hP hD hS hl h
    unfold s_M_begin_J25 at h
    refine va_put (D := D) (ci := 8) (v := .int y1) (ty := .int) (C := "ConeForgeModel") (T := FM) (N := 46) hx hb hts iM tM tM_ok nmM hown hK hP hD hS 0 rfl rfl 34 (by decide) (hts _ (bgc bw718)) (fun _ h9 => h9) rfl (by decide +kernel) rfl rfl (Nat.le_of_ble_eq_true rfl) d_M_begin_25 (fun H locs hP hD hS => ?_)
    have hP : va_P D CL (w_M_begin T q0 q0_a q0_b q0_c q0_rowScale q0_columnScale q0_sa q0_sb q0_sc q0_x q0_s q0_y q0_p q0_d q0_h q0_f q0_mm q0_low q0_dd q0_r q0_big q0_dt q0_dx q0_t q0_cost q0_rowScaleNow q0_columnScaleNow q0_basic q0_text q0_turned q0_na q0_nb q0_nc vq0_m vq0_n vq0_length vq0_where vq0_effort y1 vq0_at vq0_scaled vq0_solved vq0_second vq0_nm vq0_nn vq0_number vq0_bad vq0_a vq0_b vq0_c) H := hP
    have hD : va_D A (w_M_begin T q0 q0_a q0_b q0_c q0_rowScale q0_columnScale q0_sa q0_sb q0_sc q0_x q0_s q0_y q0_p q0_d q0_h q0_f q0_mm q0_low q0_dd q0_r q0_big q0_dt q0_dx q0_t q0_cost q0_rowScaleNow q0_columnScaleNow q0_basic q0_text q0_turned q0_na q0_nb q0_nc vq0_m vq0_n vq0_length vq0_where vq0_effort y1 vq0_at vq0_scaled vq0_solved vq0_second vq0_nm vq0_nn vq0_number vq0_bad vq0_a vq0_b vq0_c) := hD
    refine lv_aload_n hx hb d_M_begin_28 rfl (lv_at hl 0 rfl) ?_
    refine va_get (D := D) (ci := 8) (v := .int y1) (C := "ConeForgeModel") (T := FM) (N := 46) hx hb hts iM hown hK hP 0 rfl rfl 34 (by decide) (hts _ (bgc bw718)) (fun _ h9 => h9) rfl d_M_begin_29 ?_
    refine lv_if_le (tgt := 37) hx hb d_M_begin_32 (by decide) (fun c8 => ?_) (fun c8 => ?_)
    · have h := it_t c8 h
      refine lv_aload_n hx hb d_M_begin_37 rfl (lv_at hl 0 rfl) ?_
      refine lv_iload_n hx hb d_M_begin_38 rfl (lv_at hl 1 rfl) ?_
      refine va_put (D := D) (ci := 8) (v := .int x1) (ty := .int) (C := "ConeForgeModel") (T := FM) (N := 46) hx hb hts iM tM tM_ok nmM hown hK hP hD hS 0 rfl rfl 29 (by decide) (hts _ (bgc bw713)) (fun _ h9 => h9) rfl (by decide +kernel) rfl rfl (Nat.le_of_ble_eq_true rfl) d_M_begin_39 (fun H locs hP hD hS => ?_)
      have hP : va_P D CL (w_M_begin T q0 q0_a q0_b q0_c q0_rowScale q0_columnScale q0_sa q0_sb q0_sc q0_x q0_s q0_y q0_p q0_d q0_h q0_f q0_mm q0_low q0_dd q0_r q0_big q0_dt q0_dx q0_t q0_cost q0_rowScaleNow q0_columnScaleNow q0_basic q0_text q0_turned q0_na q0_nb q0_nc x1 vq0_n vq0_length vq0_where vq0_effort y1 vq0_at vq0_scaled vq0_solved vq0_second vq0_nm vq0_nn vq0_number vq0_bad vq0_a vq0_b vq0_c) H := hP
      have hD : va_D A (w_M_begin T q0 q0_a q0_b q0_c q0_rowScale q0_columnScale q0_sa q0_sb q0_sc q0_x q0_s q0_y q0_p q0_d q0_h q0_f q0_mm q0_low q0_dd q0_r q0_big q0_dt q0_dx q0_t q0_cost q0_rowScaleNow q0_columnScaleNow q0_basic q0_text q0_turned q0_na q0_nb q0_nc x1 vq0_n vq0_length vq0_where vq0_effort y1 vq0_at vq0_scaled vq0_solved vq0_second vq0_nm vq0_nn vq0_number vq0_bad vq0_a vq0_b vq0_c) := hD
      refine lv_aload_n hx hb d_M_begin_42 rfl (lv_at hl 0 rfl) ?_
      refine lv_iload_n hx hb d_M_begin_43 rfl (lv_at hl 2 rfl) ?_
      refine va_put (D := D) (ci := 8) (v := .int x2) (ty := .int) (C := "ConeForgeModel") (T := FM) (N := 46) hx hb hts iM tM tM_ok nmM hown hK hP hD hS 0 rfl rfl 30 (by decide) (hts _ (bgc bw714)) (fun _ h9 => h9) rfl (by decide +kernel) rfl rfl (Nat.le_of_ble_eq_true rfl) d_M_begin_44 (fun H locs hP hD hS => ?_)
      have hP : va_P D CL (w_M_begin T q0 q0_a q0_b q0_c q0_rowScale q0_columnScale q0_sa q0_sb q0_sc q0_x q0_s q0_y q0_p q0_d q0_h q0_f q0_mm q0_low q0_dd q0_r q0_big q0_dt q0_dx q0_t q0_cost q0_rowScaleNow q0_columnScaleNow q0_basic q0_text q0_turned q0_na q0_nb q0_nc x1 x2 vq0_length vq0_where vq0_effort y1 vq0_at vq0_scaled vq0_solved vq0_second vq0_nm vq0_nn vq0_number vq0_bad vq0_a vq0_b vq0_c) H := hP
      have hD : va_D A (w_M_begin T q0 q0_a q0_b q0_c q0_rowScale q0_columnScale q0_sa q0_sb q0_sc q0_x q0_s q0_y q0_p q0_d q0_h q0_f q0_mm q0_low q0_dd q0_r q0_big q0_dt q0_dx q0_t q0_cost q0_rowScaleNow q0_columnScaleNow q0_basic q0_text q0_turned q0_na q0_nb q0_nc x1 x2 vq0_length vq0_where vq0_effort y1 vq0_at vq0_scaled vq0_solved vq0_second vq0_nm vq0_nn vq0_number vq0_bad vq0_a vq0_b vq0_c) := hD
      refine lv_iconst (v := 0) hx hb d_M_begin_47 (by decide) ?_
      refine lv_istore_n (lv' := [(3, .int 0), (0, .ref q0), (1, .int x1), (2, .int x2)]) hx hb d_M_begin_48 rfl hl (by decide) rfl (fun ls hl => ?_)
      exact L49 x1 x2 y1 vq0_solved vq0_a vq0_b vq0_c x1 x2 0 H locs ls hP hD hS (lv_sub hl [1, 2, 3, 0] rfl) h
    · have h := it_f c8 h
      refine lv_iconst (v := 0) hx hb d_M_begin_35 (by decide) ?_
      exact rtI hx hb hr hlocks hQ (Option.some.inj h) hP hS d_M_begin_36 rfl rfl
  have J24 : ∀ (vq0_m : Int32) (vq0_n : Int32) (vq0_thrown : Int32) (vq0_solved : Int32) (vq0_a : Nat → UInt64) (vq0_b : Nat → UInt64) (vq0_c : Nat → UInt64) (x1 : Int32) (x2 : Int32), ∀ (H : Heap) (locs : List Loc) (ls : Array Slot), va_P D CL (w_M_begin T q0 q0_a q0_b q0_c q0_rowScale q0_columnScale q0_sa q0_sb q0_sc q0_x q0_s q0_y q0_p q0_d q0_h q0_f q0_mm q0_low q0_dd q0_r q0_big q0_dt q0_dx q0_t q0_cost q0_rowScaleNow q0_columnScaleNow q0_basic q0_text q0_turned q0_na q0_nb q0_nc vq0_m vq0_n vq0_length vq0_where vq0_effort vq0_thrown vq0_at vq0_scaled vq0_solved vq0_second vq0_nm vq0_nn vq0_number vq0_bad vq0_a vq0_b vq0_c) H → va_D A (w_M_begin T q0 q0_a q0_b q0_c q0_rowScale q0_columnScale q0_sa q0_sb q0_sc q0_x q0_s q0_y q0_p q0_d q0_h q0_f q0_mm q0_low q0_dd q0_r q0_big q0_dt q0_dx q0_t q0_cost q0_rowScaleNow q0_columnScaleNow q0_basic q0_text q0_turned q0_na q0_nb q0_nc vq0_m vq0_n vq0_length vq0_where vq0_effort vq0_thrown vq0_at vq0_scaled vq0_solved vq0_second vq0_nm vq0_nn vq0_number vq0_bad vq0_a vq0_b vq0_c) → va_S A s.heap H locs → lv_has ls 4 [(0, .ref q0), (1, .int x1), (2, .int x2)] → s_M_begin_J24 vq0_m vq0_n vq0_length vq0_where vq0_effort vq0_thrown vq0_at vq0_scaled vq0_solved vq0_second vq0_nm vq0_nn vq0_number vq0_bad vq0_a vq0_b vq0_c x1 x2 = some rm → W p l e (rmk 1 22) s m args below meth c H locs 0 0 Q (F0 m 24 ls [.ref q0]) := by
    intro vq0_m vq0_n vq0_thrown vq0_solved vq0_a vq0_b vq0_c x1 x2 H locs ls hP hD hS hl h
    unfold s_M_begin_J24 at h
    refine lv_iconst (v := 1) hx hb d_M_begin_24 (by decide) ?_
    exact J25 vq0_m vq0_n vq0_thrown vq0_solved vq0_a vq0_b vq0_c x1 x2 1 H locs ls hP hD hS (lv_sub hl [0, 1, 2] rfl) h
  unfold s_M_begin at h
  refine lv_aload_n hx hb d_M_begin_0 rfl (lv_at hl 0 rfl) ?_
  refine lv_iload_n hx hb d_M_begin_1 rfl (lv_at hl 1 rfl) ?_
  refine lv_iconst (v := 1) hx hb d_M_begin_2 (by decide) ?_
  refine lv_iconst (v := 5) hx hb d_M_begin_3 (by decide) ?_
  obtain ⟨u9, hu9, h⟩ := bi_some h
  have jj10 := j_M_begin_4 T q0 q0_a q0_b q0_c q0_rowScale q0_columnScale q0_sa q0_sb q0_sc q0_x q0_s q0_y q0_p q0_d q0_h q0_f q0_mm q0_low q0_dd q0_r q0_big q0_dt q0_dx q0_t q0_cost q0_rowScaleNow q0_columnScaleNow q0_basic q0_text q0_turned q0_na q0_nb q0_nc vq0_m vq0_n vq0_length vq0_where vq0_effort vq0_thrown vq0_at vq0_scaled vq0_solved vq0_second vq0_nm vq0_nn vq0_number vq0_bad vq0_a vq0_b vq0_c
  refine kI2 (v := u9) (wc := (w_M_in T  )) (wc' := (w_M_in T  )) (w_M_begin T q0 q0_a q0_b q0_c q0_rowScale q0_columnScale q0_sa q0_sb q0_sc q0_x q0_s q0_y q0_p q0_d q0_h q0_f q0_mm q0_low q0_dd q0_r q0_big q0_dt q0_dx q0_t q0_cost q0_rowScaleNow q0_columnScaleNow q0_basic q0_text q0_turned q0_na q0_nb q0_nc vq0_m vq0_n vq0_length vq0_where vq0_effort vq0_thrown vq0_at vq0_scaled vq0_solved vq0_second vq0_nm vq0_nn vq0_number vq0_bad vq0_a vq0_b vq0_c) (runOS (As := [.int x1, .int 1, .int 5]) (rest := [.ref q0]) ((c_M_in l D T   x1 1 5 u9 hu9) H.size) ⟨hx, hb, hml, hown, hts⟩ (cwOS bw785 bw786 bw105 bw787 dd_M_in hts ⟨Nat.le_of_ble_eq_true rfl, Nat.le_of_ble_eq_true rfl⟩)  hNW hK hP hD [] jj10.1 (by decide) rfl hl.1 rfl (lv_room (Nat.le_of_ble_eq_true rfl)) d_M_begin_4 ⟨Nat.le_of_ble_eq_true rfl, Nat.le_of_ble_eq_true rfl⟩) hP hD hS hA [] [0, 1, 2, 3] jj10.1 jj10.2.1 jj10.2.2.1 (N := 4) jj10.2.2.2.2 (by decide) jj10.2.2.2.1 (fun H locs hP hD hS => ?_)
  refine lv_if_eq (tgt := 24) hx hb d_M_begin_7 (by decide) (fun c11 => ?_) (fun c11 => ?_)
  · have h := it_t c11 h
    exact J24 vq0_m vq0_n vq0_thrown vq0_solved vq0_a vq0_b vq0_c x1 x2 H locs ls hP hD hS (lv_sub hl [0, 1, 2] rfl) h
  · have h := it_f c11 h
    refine lv_iload_n hx hb d_M_begin_10 rfl (lv_at hl 2 rfl) ?_
    refine lv_iconst (v := 1) hx hb d_M_begin_11 (by decide) ?_
    refine lv_bipush (v := 8) hx hb d_M_begin_12 (by decide) ?_
    obtain ⟨u12, hu12, h⟩ := bi_some h
    have jj13 := j_M_begin_14 T q0 q0_a q0_b q0_c q0_rowScale q0_columnScale q0_sa q0_sb q0_sc q0_x q0_s q0_y q0_p q0_d q0_h q0_f q0_mm q0_low q0_dd q0_r q0_big q0_dt q0_dx q0_t q0_cost q0_rowScaleNow q0_columnScaleNow q0_basic q0_text q0_turned q0_na q0_nb q0_nc vq0_m vq0_n vq0_length vq0_where vq0_effort vq0_thrown vq0_at vq0_scaled vq0_solved vq0_second vq0_nm vq0_nn vq0_number vq0_bad vq0_a vq0_b vq0_c
    refine kI2 (v := u12) (wc := (w_M_in T  )) (wc' := (w_M_in T  )) (w_M_begin T q0 q0_a q0_b q0_c q0_rowScale q0_columnScale q0_sa q0_sb q0_sc q0_x q0_s q0_y q0_p q0_d q0_h q0_f q0_mm q0_low q0_dd q0_r q0_big q0_dt q0_dx q0_t q0_cost q0_rowScaleNow q0_columnScaleNow q0_basic q0_text q0_turned q0_na q0_nb q0_nc vq0_m vq0_n vq0_length vq0_where vq0_effort vq0_thrown vq0_at vq0_scaled vq0_solved vq0_second vq0_nm vq0_nn vq0_number vq0_bad vq0_a vq0_b vq0_c) (runOS (As := [.int x2, .int 1, .int 8]) (rest := [.ref q0]) ((c_M_in l D T   x2 1 8 u12 hu12) H.size) ⟨hx, hb, hml, hown, hts⟩ (cwOS bw785 bw786 bw105 bw787 dd_M_in hts ⟨Nat.le_of_ble_eq_true rfl, Nat.le_of_ble_eq_true rfl⟩)  hNW hK hP hD [] jj13.1 (by decide) rfl hl.1 rfl (lv_room (Nat.le_of_ble_eq_true rfl)) d_M_begin_14 ⟨Nat.le_of_ble_eq_true rfl, Nat.le_of_ble_eq_true rfl⟩) hP hD hS hA [] [0, 1, 2, 3] jj13.1 jj13.2.1 jj13.2.2.1 (N := 4) jj13.2.2.2.2 (by decide) jj13.2.2.2.1 (fun H locs hP hD hS => ?_)
    refine lv_if_eq (tgt := 24) hx hb d_M_begin_17 (by decide) (fun c14 => ?_) (fun c14 => ?_)
    · have h := it_t c14 h
      exact J24 vq0_m vq0_n vq0_thrown vq0_solved vq0_a vq0_b vq0_c x1 x2 H locs ls hP hD hS (lv_sub hl [0, 1, 2] rfl) h
    · have h := it_f c14 h
      refine lv_iconst (v := 0) hx hb d_M_begin_20 (by decide) ?_
      refine lv_goto (tgt := 25) hx hb d_M_begin_21 (by decide) ?_
      exact J25 vq0_m vq0_n vq0_thrown vq0_solved vq0_a vq0_b vq0_c x1 x2 0 H locs ls hP hD hS (lv_sub hl [0, 1, 2] rfl) h
theorem d_M_set_0 : decode prog_10_method_7_code 0 = .ok (.aload_n 0, 1) := by decide +kernel
theorem d_M_set_1 : decode prog_10_method_7_code 1 = .ok (.iload_n 1, 1) := by decide +kernel
theorem d_M_set_2 : decode prog_10_method_7_code 2 = .ok (.iconst 0, 1) := by decide +kernel
theorem d_M_set_3 : decode prog_10_method_7_code 3 = .ok (.iconst 2, 1) := by decide +kernel
theorem d_M_set_4 : decode prog_10_method_7_code 4 = .ok (.invokestatic 125, 3) := by decide +kernel
theorem d_M_set_7 : decode prog_10_method_7_code 7 = .ok (.ifCond .eq 46, 3) := by decide +kernel
theorem d_M_set_10 : decode prog_10_method_7_code 10 = .ok (.dload 4, 2) := by decide +kernel
theorem d_M_set_12 : decode prog_10_method_7_code 12 = .ok (.ldc2_w 132, 3) := by decide +kernel
theorem d_M_set_15 : decode prog_10_method_7_code 15 = .ok (.dcmp .g, 1) := by decide +kernel
theorem d_M_set_16 : decode prog_10_method_7_code 16 = .ok (.ifCond .gt 37, 3) := by decide +kernel
theorem d_M_set_19 : decode prog_10_method_7_code 19 = .ok (.dload 4, 2) := by decide +kernel
theorem d_M_set_21 : decode prog_10_method_7_code 21 = .ok (.ldc2_w 134, 3) := by decide +kernel
theorem d_M_set_24 : decode prog_10_method_7_code 24 = .ok (.dcmp .l, 1) := by decide +kernel
theorem d_M_set_25 : decode prog_10_method_7_code 25 = .ok (.ifCond .lt 28, 3) := by decide +kernel
theorem d_M_set_28 : decode prog_10_method_7_code 28 = .ok (.dload 4, 2) := by decide +kernel
theorem d_M_set_30 : decode prog_10_method_7_code 30 = .ok (.dconst 0, 1) := by decide +kernel
theorem d_M_set_31 : decode prog_10_method_7_code 31 = .ok (.dcmp .l, 1) := by decide +kernel
theorem d_M_set_32 : decode prog_10_method_7_code 32 = .ok (.ifCond .eq 25, 3) := by decide +kernel
theorem d_M_set_35 : decode prog_10_method_7_code 35 = .ok (.dload 4, 2) := by decide +kernel
theorem d_M_set_37 : decode prog_10_method_7_code 37 = .ok (.ldc2_w 136, 3) := by decide +kernel
theorem d_M_set_40 : decode prog_10_method_7_code 40 = .ok (.dcmp .g, 1) := by decide +kernel
theorem d_M_set_41 : decode prog_10_method_7_code 41 = .ok (.ifCond .ge 16, 3) := by decide +kernel
theorem d_M_set_44 : decode prog_10_method_7_code 44 = .ok (.dload 4, 2) := by decide +kernel
theorem d_M_set_46 : decode prog_10_method_7_code 46 = .ok (.ldc2_w 138, 3) := by decide +kernel
theorem d_M_set_49 : decode prog_10_method_7_code 49 = .ok (.dcmp .l, 1) := by decide +kernel
theorem d_M_set_50 : decode prog_10_method_7_code 50 = .ok (.ifCond .le 7, 3) := by decide +kernel
theorem d_M_set_53 : decode prog_10_method_7_code 53 = .ok (.iconst 1, 1) := by decide +kernel
theorem d_M_set_54 : decode prog_10_method_7_code 54 = .ok (.goto 46, 3) := by decide +kernel
theorem d_M_set_57 : decode prog_10_method_7_code 57 = .ok (.iload_n 1, 1) := by decide +kernel
theorem d_M_set_58 : decode prog_10_method_7_code 58 = .ok (.iconst 2, 1) := by decide +kernel
theorem d_M_set_59 : decode prog_10_method_7_code 59 = .ok (.if_icmp .ge 17, 3) := by decide +kernel
theorem d_M_set_62 : decode prog_10_method_7_code 62 = .ok (.iload_n 2, 1) := by decide +kernel
theorem d_M_set_63 : decode prog_10_method_7_code 63 = .ok (.iconst 0, 1) := by decide +kernel
theorem d_M_set_64 : decode prog_10_method_7_code 64 = .ok (.aload_n 0, 1) := by decide +kernel
theorem d_M_set_65 : decode prog_10_method_7_code 65 = .ok (.getfield 99, 3) := by decide +kernel
theorem d_M_set_68 : decode prog_10_method_7_code 68 = .ok (.iconst 1, 1) := by decide +kernel
theorem d_M_set_69 : decode prog_10_method_7_code 69 = .ok (.isub, 1) := by decide +kernel
theorem d_M_set_70 : decode prog_10_method_7_code 70 = .ok (.invokestatic 125, 3) := by decide +kernel
theorem d_M_set_73 : decode prog_10_method_7_code 73 = .ok (.ifCond .eq 22, 3) := by decide +kernel
theorem d_M_set_76 : decode prog_10_method_7_code 76 = .ok (.iload_n 1, 1) := by decide +kernel
theorem d_M_set_77 : decode prog_10_method_7_code 77 = .ok (.iconst 1, 1) := by decide +kernel
theorem d_M_set_78 : decode prog_10_method_7_code 78 = .ok (.if_icmp .eq 21, 3) := by decide +kernel
theorem d_M_set_81 : decode prog_10_method_7_code 81 = .ok (.iload_n 3, 1) := by decide +kernel
theorem d_M_set_82 : decode prog_10_method_7_code 82 = .ok (.iconst 0, 1) := by decide +kernel
theorem d_M_set_83 : decode prog_10_method_7_code 83 = .ok (.aload_n 0, 1) := by decide +kernel
theorem d_M_set_84 : decode prog_10_method_7_code 84 = .ok (.getfield 103, 3) := by decide +kernel
theorem d_M_set_87 : decode prog_10_method_7_code 87 = .ok (.iconst 1, 1) := by decide +kernel
theorem d_M_set_88 : decode prog_10_method_7_code 88 = .ok (.isub, 1) := by decide +kernel
theorem d_M_set_89 : decode prog_10_method_7_code 89 = .ok (.invokestatic 125, 3) := by decide +kernel
theorem d_M_set_92 : decode prog_10_method_7_code 92 = .ok (.ifCond .ne 7, 3) := by decide +kernel
theorem d_M_set_95 : decode prog_10_method_7_code 95 = .ok (.iconst 2, 1) := by decide +kernel
theorem d_M_set_96 : decode prog_10_method_7_code 96 = .ok (.goto 4, 3) := by decide +kernel
theorem d_M_set_99 : decode prog_10_method_7_code 99 = .ok (.iconst 0, 1) := by decide +kernel
theorem d_M_set_100 : decode prog_10_method_7_code 100 = .ok (.putfield 122, 3) := by decide +kernel
theorem d_M_set_103 : decode prog_10_method_7_code 103 = .ok (.aload_n 0, 1) := by decide +kernel
theorem d_M_set_104 : decode prog_10_method_7_code 104 = .ok (.getfield 122, 3) := by decide +kernel
theorem d_M_set_107 : decode prog_10_method_7_code 107 = .ok (.ifCond .le 5, 3) := by decide +kernel
theorem d_M_set_110 : decode prog_10_method_7_code 110 = .ok (.dconst 0, 1) := by decide +kernel
theorem d_M_set_111 : decode prog_10_method_7_code 111 = .ok (.dreturn, 1) := by decide +kernel
theorem d_M_set_112 : decode prog_10_method_7_code 112 = .ok (.aload_n 0, 1) := by decide +kernel
theorem d_M_set_113 : decode prog_10_method_7_code 113 = .ok (.iconst 0, 1) := by decide +kernel
theorem d_M_set_114 : decode prog_10_method_7_code 114 = .ok (.putfield 129, 3) := by decide +kernel
theorem d_M_set_117 : decode prog_10_method_7_code 117 = .ok (.iload_n 1, 1) := by decide +kernel
theorem d_M_set_118 : decode prog_10_method_7_code 118 = .ok (.ifCond .ne 17, 3) := by decide +kernel
theorem d_M_set_121 : decode prog_10_method_7_code 121 = .ok (.aload_n 0, 1) := by decide +kernel
theorem d_M_set_122 : decode prog_10_method_7_code 122 = .ok (.getfield 7, 3) := by decide +kernel
theorem d_M_set_125 : decode prog_10_method_7_code 125 = .ok (.bipush 8, 2) := by decide +kernel
theorem d_M_set_127 : decode prog_10_method_7_code 127 = .ok (.iload_n 2, 1) := by decide +kernel
theorem d_M_set_128 : decode prog_10_method_7_code 128 = .ok (.imul, 1) := by decide +kernel
theorem d_M_set_129 : decode prog_10_method_7_code 129 = .ok (.iload_n 3, 1) := by decide +kernel
theorem d_M_set_130 : decode prog_10_method_7_code 130 = .ok (.iadd, 1) := by decide +kernel
theorem d_M_set_131 : decode prog_10_method_7_code 131 = .ok (.daload, 1) := by decide +kernel
theorem d_M_set_132 : decode prog_10_method_7_code 132 = .ok (.goto 23, 3) := by decide +kernel
theorem d_M_set_135 : decode prog_10_method_7_code 135 = .ok (.iload_n 1, 1) := by decide +kernel
theorem d_M_set_136 : decode prog_10_method_7_code 136 = .ok (.iconst 1, 1) := by decide +kernel
theorem d_M_set_137 : decode prog_10_method_7_code 137 = .ok (.if_icmp .ne 12, 3) := by decide +kernel
theorem d_M_set_140 : decode prog_10_method_7_code 140 = .ok (.aload_n 0, 1) := by decide +kernel
theorem d_M_set_141 : decode prog_10_method_7_code 141 = .ok (.getfield 13, 3) := by decide +kernel
theorem d_M_set_144 : decode prog_10_method_7_code 144 = .ok (.iload_n 2, 1) := by decide +kernel
theorem d_M_set_145 : decode prog_10_method_7_code 145 = .ok (.daload, 1) := by decide +kernel
theorem d_M_set_146 : decode prog_10_method_7_code 146 = .ok (.goto 9, 3) := by decide +kernel
theorem d_M_set_149 : decode prog_10_method_7_code 149 = .ok (.aload_n 0, 1) := by decide +kernel
theorem d_M_set_150 : decode prog_10_method_7_code 150 = .ok (.getfield 16, 3) := by decide +kernel
theorem d_M_set_153 : decode prog_10_method_7_code 153 = .ok (.iload_n 3, 1) := by decide +kernel
theorem d_M_set_154 : decode prog_10_method_7_code 154 = .ok (.daload, 1) := by decide +kernel
theorem d_M_set_155 : decode prog_10_method_7_code 155 = .ok (.dstore 6, 2) := by decide +kernel
theorem d_M_set_157 : decode prog_10_method_7_code 157 = .ok (.iload_n 1, 1) := by decide +kernel
theorem d_M_set_158 : decode prog_10_method_7_code 158 = .ok (.ifCond .ne 19, 3) := by decide +kernel
theorem d_M_set_161 : decode prog_10_method_7_code 161 = .ok (.aload_n 0, 1) := by decide +kernel
theorem d_M_set_162 : decode prog_10_method_7_code 162 = .ok (.getfield 7, 3) := by decide +kernel
theorem d_M_set_165 : decode prog_10_method_7_code 165 = .ok (.bipush 8, 2) := by decide +kernel
theorem d_M_set_167 : decode prog_10_method_7_code 167 = .ok (.iload_n 2, 1) := by decide +kernel
theorem d_M_set_168 : decode prog_10_method_7_code 168 = .ok (.imul, 1) := by decide +kernel
theorem d_M_set_169 : decode prog_10_method_7_code 169 = .ok (.iload_n 3, 1) := by decide +kernel
theorem d_M_set_170 : decode prog_10_method_7_code 170 = .ok (.iadd, 1) := by decide +kernel
theorem d_M_set_171 : decode prog_10_method_7_code 171 = .ok (.dload 4, 2) := by decide +kernel
theorem d_M_set_173 : decode prog_10_method_7_code 173 = .ok (.dastore, 1) := by decide +kernel
theorem d_M_set_174 : decode prog_10_method_7_code 174 = .ok (.goto 27, 3) := by decide +kernel
theorem d_M_set_177 : decode prog_10_method_7_code 177 = .ok (.iload_n 1, 1) := by decide +kernel
theorem d_M_set_178 : decode prog_10_method_7_code 178 = .ok (.iconst 1, 1) := by decide +kernel
theorem d_M_set_179 : decode prog_10_method_7_code 179 = .ok (.if_icmp .ne 14, 3) := by decide +kernel
theorem d_M_set_182 : decode prog_10_method_7_code 182 = .ok (.aload_n 0, 1) := by decide +kernel
theorem d_M_set_183 : decode prog_10_method_7_code 183 = .ok (.getfield 13, 3) := by decide +kernel
theorem d_M_set_186 : decode prog_10_method_7_code 186 = .ok (.iload_n 2, 1) := by decide +kernel
theorem d_M_set_187 : decode prog_10_method_7_code 187 = .ok (.dload 4, 2) := by decide +kernel
theorem d_M_set_189 : decode prog_10_method_7_code 189 = .ok (.dastore, 1) := by decide +kernel
theorem d_M_set_190 : decode prog_10_method_7_code 190 = .ok (.goto 11, 3) := by decide +kernel
theorem d_M_set_193 : decode prog_10_method_7_code 193 = .ok (.aload_n 0, 1) := by decide +kernel
theorem d_M_set_194 : decode prog_10_method_7_code 194 = .ok (.getfield 16, 3) := by decide +kernel
theorem d_M_set_197 : decode prog_10_method_7_code 197 = .ok (.iload_n 3, 1) := by decide +kernel
theorem d_M_set_198 : decode prog_10_method_7_code 198 = .ok (.dload 4, 2) := by decide +kernel
theorem d_M_set_200 : decode prog_10_method_7_code 200 = .ok (.dastore, 1) := by decide +kernel
theorem d_M_set_201 : decode prog_10_method_7_code 201 = .ok (.dload 6, 2) := by decide +kernel
theorem d_M_set_203 : decode prog_10_method_7_code 203 = .ok (.dreturn, 1) := by decide +kernel
abbrev w_M_set (T : Nat → ClassId) (q0 : Nat) (q0_a : Nat) (q0_b : Nat) (q0_c : Nat) (q0_rowScale : Nat) (q0_columnScale : Nat) (q0_sa : Nat) (q0_sb : Nat) (q0_sc : Nat) (q0_x : Nat) (q0_s : Nat) (q0_y : Nat) (q0_p : Nat) (q0_d : Nat) (q0_h : Nat) (q0_f : Nat) (q0_mm : Nat) (q0_low : Nat) (q0_dd : Nat) (q0_r : Nat) (q0_big : Nat) (q0_dt : Nat) (q0_dx : Nat) (q0_t : Nat) (q0_cost : Nat) (q0_rowScaleNow : Nat) (q0_columnScaleNow : Nat) (q0_basic : Nat) (q0_text : Nat) (q0_turned : Nat) (q0_na : Nat) (q0_nb : Nat) (q0_nc : Nat) (vq0_m : Int32) (vq0_n : Int32) (vq0_length : Int32) (vq0_where : Int32) (vq0_effort : Int32) (vq0_thrown : Int32) (vq0_at : Int32) (vq0_scaled : Int32) (vq0_solved : Int32) (vq0_second : Int32) (vq0_nm : Int32) (vq0_nn : Int32) (vq0_number : UInt64) (vq0_bad : Int32) (vq0_a : Nat → UInt64) (vq0_b : Nat → UInt64) (vq0_c : Nat → UInt64) : va_W := [(q0, .inr (8, [.ref q0_a, .ref q0_b, .ref q0_c, .ref q0_rowScale, .ref q0_columnScale, .ref q0_sa, .ref q0_sb, .ref q0_sc, .ref q0_x, .ref q0_s, .ref q0_y, .ref q0_p, .ref q0_d, .ref q0_h, .ref q0_f, .ref q0_mm, .ref q0_low, .ref q0_dd, .ref q0_r, .ref q0_big, .ref q0_dt, .ref q0_dx, .ref q0_t, .ref q0_cost, .ref q0_rowScaleNow, .ref q0_columnScaleNow, .ref q0_basic, .ref q0_text, .ref q0_turned, .int vq0_m, .int vq0_n, .int vq0_length, .int vq0_where, .int vq0_effort, .int vq0_thrown, .int vq0_at, .int vq0_scaled, .int vq0_solved, .int vq0_second, .ref q0_na, .ref q0_nb, .ref q0_nc, .int vq0_nm, .int vq0_nn, .double vq0_number, .int vq0_bad])), (q0_a, .inl (T 0, 40, .inr (.inr (.inr (.inl vq0_a))))), (q0_b, .inl (T 0, 5, .inr (.inr (.inr (.inl vq0_b))))), (q0_c, .inl (T 0, 8, .inr (.inr (.inr (.inl vq0_c)))))]
def s_M_set_J155 (vq0_m : Int32) (vq0_n : Int32) (vq0_length : Int32) (vq0_where : Int32) (vq0_effort : Int32) (vq0_thrown : Int32) (vq0_at : Int32) (vq0_scaled : Int32) (vq0_solved : Int32) (vq0_second : Int32) (vq0_nm : Int32) (vq0_nn : Int32) (vq0_number : UInt64) (vq0_bad : Int32) (vq0_a : Nat → UInt64) (vq0_b : Nat → UInt64) (vq0_c : Nat → UInt64) (x1 : Int32) (x2 : Int32) (x3 : Int32) (x4 : UInt64) (y0 : UInt64) : Option (UInt64 × Int32 × Int32 × (Nat → UInt64) × (Nat → UInt64) × (Nat → UInt64)) :=
  if x1 = 0 then (gd (inb ((8 * x2) + x3) 40) <| some (y0, vq0_thrown, vq0_solved, vf_upd vq0_a ((8 * x2) + x3).toNatClampNeg x4, vq0_b, vq0_c)) else (if x1 = 1 then (gd (inb x2 5) <| some (y0, vq0_thrown, vq0_solved, vq0_a, vf_upd vq0_b x2.toNatClampNeg x4, vq0_c)) else (gd (inb x3 8) <| some (y0, vq0_thrown, vq0_solved, vq0_a, vq0_b, vf_upd vq0_c x3.toNatClampNeg x4)))
def s_M_set_J100 (vq0_m : Int32) (vq0_n : Int32) (vq0_length : Int32) (vq0_where : Int32) (vq0_effort : Int32) (vq0_thrown : Int32) (vq0_at : Int32) (vq0_scaled : Int32) (vq0_solved : Int32) (vq0_second : Int32) (vq0_nm : Int32) (vq0_nn : Int32) (vq0_number : UInt64) (vq0_bad : Int32) (vq0_a : Nat → UInt64) (vq0_b : Nat → UInt64) (vq0_c : Nat → UInt64) (x1 : Int32) (x2 : Int32) (x3 : Int32) (x4 : UInt64) (y1 : Int32) : Option (UInt64 × Int32 × Int32 × (Nat → UInt64) × (Nat → UInt64) × (Nat → UInt64)) :=
  if y1 ≤ 0 then (gd (isb 0) <| if x1 = 0 then (gd (inb ((8 * x2) + x3) 40) <| s_M_set_J155 vq0_m vq0_n vq0_length vq0_where vq0_effort y1 vq0_at vq0_scaled 0 vq0_second vq0_nm vq0_nn vq0_number vq0_bad vq0_a vq0_b vq0_c x1 x2 x3 x4 (vq0_a ((8 * x2) + x3).toNatClampNeg)) else (if x1 = 1 then (gd (inb x2 5) <| s_M_set_J155 vq0_m vq0_n vq0_length vq0_where vq0_effort y1 vq0_at vq0_scaled 0 vq0_second vq0_nm vq0_nn vq0_number vq0_bad vq0_a vq0_b vq0_c x1 x2 x3 x4 (vq0_b x2.toNatClampNeg)) else (gd (inb x3 8) <| s_M_set_J155 vq0_m vq0_n vq0_length vq0_where vq0_effort y1 vq0_at vq0_scaled 0 vq0_second vq0_nm vq0_nn vq0_number vq0_bad vq0_a vq0_b vq0_c x1 x2 x3 x4 (vq0_c x3.toNatClampNeg)))) else (some (FP.dconst0, y1, vq0_solved, vq0_a, vq0_b, vq0_c))
def s_M_set_J99 (vq0_m : Int32) (vq0_n : Int32) (vq0_length : Int32) (vq0_where : Int32) (vq0_effort : Int32) (vq0_thrown : Int32) (vq0_at : Int32) (vq0_scaled : Int32) (vq0_solved : Int32) (vq0_second : Int32) (vq0_nm : Int32) (vq0_nn : Int32) (vq0_number : UInt64) (vq0_bad : Int32) (vq0_a : Nat → UInt64) (vq0_b : Nat → UInt64) (vq0_c : Nat → UInt64) (x1 : Int32) (x2 : Int32) (x3 : Int32) (x4 : UInt64) : Option (UInt64 × Int32 × Int32 × (Nat → UInt64) × (Nat → UInt64) × (Nat → UInt64)) :=
  s_M_set_J100 vq0_m vq0_n vq0_length vq0_where vq0_effort vq0_thrown vq0_at vq0_scaled vq0_solved vq0_second vq0_nm vq0_nn vq0_number vq0_bad vq0_a vq0_b vq0_c x1 x2 x3 x4 0
def s_M_set_J95 (vq0_m : Int32) (vq0_n : Int32) (vq0_length : Int32) (vq0_where : Int32) (vq0_effort : Int32) (vq0_thrown : Int32) (vq0_at : Int32) (vq0_scaled : Int32) (vq0_solved : Int32) (vq0_second : Int32) (vq0_nm : Int32) (vq0_nn : Int32) (vq0_number : UInt64) (vq0_bad : Int32) (vq0_a : Nat → UInt64) (vq0_b : Nat → UInt64) (vq0_c : Nat → UInt64) (x1 : Int32) (x2 : Int32) (x3 : Int32) (x4 : UInt64) : Option (UInt64 × Int32 × Int32 × (Nat → UInt64) × (Nat → UInt64) × (Nat → UInt64)) :=
  s_M_set_J100 vq0_m vq0_n vq0_length vq0_where vq0_effort vq0_thrown vq0_at vq0_scaled vq0_solved vq0_second vq0_nm vq0_nn vq0_number vq0_bad vq0_a vq0_b vq0_c x1 x2 x3 x4 2
def s_M_set_J76 (vq0_m : Int32) (vq0_n : Int32) (vq0_length : Int32) (vq0_where : Int32) (vq0_effort : Int32) (vq0_thrown : Int32) (vq0_at : Int32) (vq0_scaled : Int32) (vq0_solved : Int32) (vq0_second : Int32) (vq0_nm : Int32) (vq0_nn : Int32) (vq0_number : UInt64) (vq0_bad : Int32) (vq0_a : Nat → UInt64) (vq0_b : Nat → UInt64) (vq0_c : Nat → UInt64) (x1 : Int32) (x2 : Int32) (x3 : Int32) (x4 : UInt64) : Option (UInt64 × Int32 × Int32 × (Nat → UInt64) × (Nat → UInt64) × (Nat → UInt64)) :=
  if x1 = 1 then (s_M_set_J99 vq0_m vq0_n vq0_length vq0_where vq0_effort vq0_thrown vq0_at vq0_scaled vq0_solved vq0_second vq0_nm vq0_nn vq0_number vq0_bad vq0_a vq0_b vq0_c x1 x2 x3 x4) else ((s_M_in x3 0 (vq0_n - 1)).bind fun u14 => if u14 = 0 then (s_M_set_J95 vq0_m vq0_n vq0_length vq0_where vq0_effort vq0_thrown vq0_at vq0_scaled vq0_solved vq0_second vq0_nm vq0_nn vq0_number vq0_bad vq0_a vq0_b vq0_c x1 x2 x3 x4) else (s_M_set_J99 vq0_m vq0_n vq0_length vq0_where vq0_effort vq0_thrown vq0_at vq0_scaled vq0_solved vq0_second vq0_nm vq0_nn vq0_number vq0_bad vq0_a vq0_b vq0_c x1 x2 x3 x4))
def s_M_set_J57 (vq0_m : Int32) (vq0_n : Int32) (vq0_length : Int32) (vq0_where : Int32) (vq0_effort : Int32) (vq0_thrown : Int32) (vq0_at : Int32) (vq0_scaled : Int32) (vq0_solved : Int32) (vq0_second : Int32) (vq0_nm : Int32) (vq0_nn : Int32) (vq0_number : UInt64) (vq0_bad : Int32) (vq0_a : Nat → UInt64) (vq0_b : Nat → UInt64) (vq0_c : Nat → UInt64) (x1 : Int32) (x2 : Int32) (x3 : Int32) (x4 : UInt64) : Option (UInt64 × Int32 × Int32 × (Nat → UInt64) × (Nat → UInt64) × (Nat → UInt64)) :=
  if 2 ≤ x1 then (s_M_set_J76 vq0_m vq0_n vq0_length vq0_where vq0_effort vq0_thrown vq0_at vq0_scaled vq0_solved vq0_second vq0_nm vq0_nn vq0_number vq0_bad vq0_a vq0_b vq0_c x1 x2 x3 x4) else ((s_M_in x2 0 (vq0_m - 1)).bind fun u18 => if u18 = 0 then (s_M_set_J95 vq0_m vq0_n vq0_length vq0_where vq0_effort vq0_thrown vq0_at vq0_scaled vq0_solved vq0_second vq0_nm vq0_nn vq0_number vq0_bad vq0_a vq0_b vq0_c x1 x2 x3 x4) else (s_M_set_J76 vq0_m vq0_n vq0_length vq0_where vq0_effort vq0_thrown vq0_at vq0_scaled vq0_solved vq0_second vq0_nm vq0_nn vq0_number vq0_bad vq0_a vq0_b vq0_c x1 x2 x3 x4))
def s_M_set_J53 (vq0_m : Int32) (vq0_n : Int32) (vq0_length : Int32) (vq0_where : Int32) (vq0_effort : Int32) (vq0_thrown : Int32) (vq0_at : Int32) (vq0_scaled : Int32) (vq0_solved : Int32) (vq0_second : Int32) (vq0_nm : Int32) (vq0_nn : Int32) (vq0_number : UInt64) (vq0_bad : Int32) (vq0_a : Nat → UInt64) (vq0_b : Nat → UInt64) (vq0_c : Nat → UInt64) (x1 : Int32) (x2 : Int32) (x3 : Int32) (x4 : UInt64) : Option (UInt64 × Int32 × Int32 × (Nat → UInt64) × (Nat → UInt64) × (Nat → UInt64)) :=
  s_M_set_J100 vq0_m vq0_n vq0_length vq0_where vq0_effort vq0_thrown vq0_at vq0_scaled vq0_solved vq0_second vq0_nm vq0_nn vq0_number vq0_bad vq0_a vq0_b vq0_c x1 x2 x3 x4 1
def s_M_set (vq0_m : Int32) (vq0_n : Int32) (vq0_length : Int32) (vq0_where : Int32) (vq0_effort : Int32) (vq0_thrown : Int32) (vq0_at : Int32) (vq0_scaled : Int32) (vq0_solved : Int32) (vq0_second : Int32) (vq0_nm : Int32) (vq0_nn : Int32) (vq0_number : UInt64) (vq0_bad : Int32) (vq0_a : Nat → UInt64) (vq0_b : Nat → UInt64) (vq0_c : Nat → UInt64) (x1 : Int32) (x2 : Int32) (x3 : Int32) (x4 : UInt64) : Option (UInt64 × Int32 × Int32 × (Nat → UInt64) × (Nat → UInt64) × (Nat → UInt64)) :=
  (s_M_in x1 0 2).bind fun u21 => if u21 = 0 then (s_M_set_J53 vq0_m vq0_n vq0_length vq0_where vq0_effort vq0_thrown vq0_at vq0_scaled vq0_solved vq0_second vq0_nm vq0_nn vq0_number vq0_bad vq0_a vq0_b vq0_c x1 x2 x3 x4) else (if 0 < (Op.cmpValue (FP.dcmp x4 4652007308841189376) .g) then (s_M_set_J53 vq0_m vq0_n vq0_length vq0_where vq0_effort vq0_thrown vq0_at vq0_scaled vq0_solved vq0_second vq0_nm vq0_nn vq0_number vq0_bad vq0_a vq0_b vq0_c x1 x2 x3 x4) else (if (Op.cmpValue (FP.dcmp x4 13875379345695965184) .l) < 0 then (s_M_set_J53 vq0_m vq0_n vq0_length vq0_where vq0_effort vq0_thrown vq0_at vq0_scaled vq0_solved vq0_second vq0_nm vq0_nn vq0_number vq0_bad vq0_a vq0_b vq0_c x1 x2 x3 x4) else (if (Op.cmpValue (FP.dcmp x4 FP.dconst0) .l) = 0 then (s_M_set_J57 vq0_m vq0_n vq0_length vq0_where vq0_effort vq0_thrown vq0_at vq0_scaled vq0_solved vq0_second vq0_nm vq0_nn vq0_number vq0_bad vq0_a vq0_b vq0_c x1 x2 x3 x4) else (if 0 ≤ (Op.cmpValue (FP.dcmp x4 4517329193108106637) .g) then (s_M_set_J57 vq0_m vq0_n vq0_length vq0_where vq0_effort vq0_thrown vq0_at vq0_scaled vq0_solved vq0_second vq0_nm vq0_nn vq0_number vq0_bad vq0_a vq0_b vq0_c x1 x2 x3 x4) else (if (Op.cmpValue (FP.dcmp x4 13740701229962882445) .l) ≤ 0 then (s_M_set_J57 vq0_m vq0_n vq0_length vq0_where vq0_effort vq0_thrown vq0_at vq0_scaled vq0_solved vq0_second vq0_nm vq0_nn vq0_number vq0_bad vq0_a vq0_b vq0_c x1 x2 x3 x4) else (s_M_set_J53 vq0_m vq0_n vq0_length vq0_where vq0_effort vq0_thrown vq0_at vq0_scaled vq0_solved vq0_second vq0_nm vq0_nn vq0_number vq0_bad vq0_a vq0_b vq0_c x1 x2 x3 x4))))))
set_option maxRecDepth 100000 in
theorem j_M_set_89 (T : Nat → ClassId) (q0 : Nat) (q0_a : Nat) (q0_b : Nat) (q0_c : Nat) (q0_rowScale : Nat) (q0_columnScale : Nat) (q0_sa : Nat) (q0_sb : Nat) (q0_sc : Nat) (q0_x : Nat) (q0_s : Nat) (q0_y : Nat) (q0_p : Nat) (q0_d : Nat) (q0_h : Nat) (q0_f : Nat) (q0_mm : Nat) (q0_low : Nat) (q0_dd : Nat) (q0_r : Nat) (q0_big : Nat) (q0_dt : Nat) (q0_dx : Nat) (q0_t : Nat) (q0_cost : Nat) (q0_rowScaleNow : Nat) (q0_columnScaleNow : Nat) (q0_basic : Nat) (q0_text : Nat) (q0_turned : Nat) (q0_na : Nat) (q0_nb : Nat) (q0_nc : Nat) (vq0_m : Int32) (vq0_n : Int32) (vq0_length : Int32) (vq0_where : Int32) (vq0_effort : Int32) (vq0_thrown : Int32) (vq0_at : Int32) (vq0_scaled : Int32) (vq0_solved : Int32) (vq0_second : Int32) (vq0_nm : Int32) (vq0_nn : Int32) (vq0_number : UInt64) (vq0_bad : Int32) (vq0_a : Nat → UInt64) (vq0_b : Nat → UInt64) (vq0_c : Nat → UInt64) : ([].map (fun (i : Nat) => (w_M_set T q0 q0_a q0_b q0_c q0_rowScale q0_columnScale q0_sa q0_sb q0_sc q0_x q0_s q0_y q0_p q0_d q0_h q0_f q0_mm q0_low q0_dd q0_r q0_big q0_dt q0_dx q0_t q0_cost q0_rowScaleNow q0_columnScaleNow q0_basic q0_text q0_turned q0_na q0_nb q0_nc vq0_m vq0_n vq0_length vq0_where vq0_effort vq0_thrown vq0_at vq0_scaled vq0_solved vq0_second vq0_nm vq0_nn vq0_number vq0_bad vq0_a vq0_b vq0_c)[i]?) = (w_M_in T  ).map some) ∧ ([].map (fun (i : Nat) => (w_M_set T q0 q0_a q0_b q0_c q0_rowScale q0_columnScale q0_sa q0_sb q0_sc q0_x q0_s q0_y q0_p q0_d q0_h q0_f q0_mm q0_low q0_dd q0_r q0_big q0_dt q0_dx q0_t q0_cost q0_rowScaleNow q0_columnScaleNow q0_basic q0_text q0_turned q0_na q0_nb q0_nc vq0_m vq0_n vq0_length vq0_where vq0_effort vq0_thrown vq0_at vq0_scaled vq0_solved vq0_second vq0_nm vq0_nn vq0_number vq0_bad vq0_a vq0_b vq0_c)[i]?) = (w_M_in T  ).map some) ∧ ([0, 1, 2, 3].map (fun (i : Nat) => (w_M_set T q0 q0_a q0_b q0_c q0_rowScale q0_columnScale q0_sa q0_sb q0_sc q0_x q0_s q0_y q0_p q0_d q0_h q0_f q0_mm q0_low q0_dd q0_r q0_big q0_dt q0_dx q0_t q0_cost q0_rowScaleNow q0_columnScaleNow q0_basic q0_text q0_turned q0_na q0_nb q0_nc vq0_m vq0_n vq0_length vq0_where vq0_effort vq0_thrown vq0_at vq0_scaled vq0_solved vq0_second vq0_nm vq0_nn vq0_number vq0_bad vq0_a vq0_b vq0_c)[i]?) = [0, 1, 2, 3].map (fun (i : Nat) => (w_M_set T q0 q0_a q0_b q0_c q0_rowScale q0_columnScale q0_sa q0_sb q0_sc q0_x q0_s q0_y q0_p q0_d q0_h q0_f q0_mm q0_low q0_dd q0_r q0_big q0_dt q0_dx q0_t q0_cost q0_rowScaleNow q0_columnScaleNow q0_basic q0_text q0_turned q0_na q0_nb q0_nc vq0_m vq0_n vq0_length vq0_where vq0_effort vq0_thrown vq0_at vq0_scaled vq0_solved vq0_second vq0_nm vq0_nn vq0_number vq0_bad vq0_a vq0_b vq0_c)[i]?)) ∧ (w_M_in T  ).map Prod.fst = (w_M_in T  ).map Prod.fst ∧ (w_M_set T q0 q0_a q0_b q0_c q0_rowScale q0_columnScale q0_sa q0_sb q0_sc q0_x q0_s q0_y q0_p q0_d q0_h q0_f q0_mm q0_low q0_dd q0_r q0_big q0_dt q0_dx q0_t q0_cost q0_rowScaleNow q0_columnScaleNow q0_basic q0_text q0_turned q0_na q0_nb q0_nc vq0_m vq0_n vq0_length vq0_where vq0_effort vq0_thrown vq0_at vq0_scaled vq0_solved vq0_second vq0_nm vq0_nn vq0_number vq0_bad vq0_a vq0_b vq0_c).length = 4 :=
  ⟨rfl, rfl, Eq.trans (b := ([some (q0, .inr (8, [.ref q0_a, .ref q0_b, .ref q0_c, .ref q0_rowScale, .ref q0_columnScale, .ref q0_sa, .ref q0_sb, .ref q0_sc, .ref q0_x, .ref q0_s, .ref q0_y, .ref q0_p, .ref q0_d, .ref q0_h, .ref q0_f, .ref q0_mm, .ref q0_low, .ref q0_dd, .ref q0_r, .ref q0_big, .ref q0_dt, .ref q0_dx, .ref q0_t, .ref q0_cost, .ref q0_rowScaleNow, .ref q0_columnScaleNow, .ref q0_basic, .ref q0_text, .ref q0_turned, .int vq0_m, .int vq0_n, .int vq0_length, .int vq0_where, .int vq0_effort, .int vq0_thrown, .int vq0_at, .int vq0_scaled, .int vq0_solved, .int vq0_second, .ref q0_na, .ref q0_nb, .ref q0_nc, .int vq0_nm, .int vq0_nn, .double vq0_number, .int vq0_bad])), some (q0_a, .inl (T 0, 40, .inr (.inr (.inr (.inl vq0_a))))), some (q0_b, .inl (T 0, 5, .inr (.inr (.inr (.inl vq0_b))))), some (q0_c, .inl (T 0, 8, .inr (.inr (.inr (.inl vq0_c)))))] : List (Option (Nat × va_E)))) rfl rfl, rfl, rfl⟩
set_option maxRecDepth 100000 in
theorem j_M_set_70 (T : Nat → ClassId) (q0 : Nat) (q0_a : Nat) (q0_b : Nat) (q0_c : Nat) (q0_rowScale : Nat) (q0_columnScale : Nat) (q0_sa : Nat) (q0_sb : Nat) (q0_sc : Nat) (q0_x : Nat) (q0_s : Nat) (q0_y : Nat) (q0_p : Nat) (q0_d : Nat) (q0_h : Nat) (q0_f : Nat) (q0_mm : Nat) (q0_low : Nat) (q0_dd : Nat) (q0_r : Nat) (q0_big : Nat) (q0_dt : Nat) (q0_dx : Nat) (q0_t : Nat) (q0_cost : Nat) (q0_rowScaleNow : Nat) (q0_columnScaleNow : Nat) (q0_basic : Nat) (q0_text : Nat) (q0_turned : Nat) (q0_na : Nat) (q0_nb : Nat) (q0_nc : Nat) (vq0_m : Int32) (vq0_n : Int32) (vq0_length : Int32) (vq0_where : Int32) (vq0_effort : Int32) (vq0_thrown : Int32) (vq0_at : Int32) (vq0_scaled : Int32) (vq0_solved : Int32) (vq0_second : Int32) (vq0_nm : Int32) (vq0_nn : Int32) (vq0_number : UInt64) (vq0_bad : Int32) (vq0_a : Nat → UInt64) (vq0_b : Nat → UInt64) (vq0_c : Nat → UInt64) : ([].map (fun (i : Nat) => (w_M_set T q0 q0_a q0_b q0_c q0_rowScale q0_columnScale q0_sa q0_sb q0_sc q0_x q0_s q0_y q0_p q0_d q0_h q0_f q0_mm q0_low q0_dd q0_r q0_big q0_dt q0_dx q0_t q0_cost q0_rowScaleNow q0_columnScaleNow q0_basic q0_text q0_turned q0_na q0_nb q0_nc vq0_m vq0_n vq0_length vq0_where vq0_effort vq0_thrown vq0_at vq0_scaled vq0_solved vq0_second vq0_nm vq0_nn vq0_number vq0_bad vq0_a vq0_b vq0_c)[i]?) = (w_M_in T  ).map some) ∧ ([].map (fun (i : Nat) => (w_M_set T q0 q0_a q0_b q0_c q0_rowScale q0_columnScale q0_sa q0_sb q0_sc q0_x q0_s q0_y q0_p q0_d q0_h q0_f q0_mm q0_low q0_dd q0_r q0_big q0_dt q0_dx q0_t q0_cost q0_rowScaleNow q0_columnScaleNow q0_basic q0_text q0_turned q0_na q0_nb q0_nc vq0_m vq0_n vq0_length vq0_where vq0_effort vq0_thrown vq0_at vq0_scaled vq0_solved vq0_second vq0_nm vq0_nn vq0_number vq0_bad vq0_a vq0_b vq0_c)[i]?) = (w_M_in T  ).map some) ∧ ([0, 1, 2, 3].map (fun (i : Nat) => (w_M_set T q0 q0_a q0_b q0_c q0_rowScale q0_columnScale q0_sa q0_sb q0_sc q0_x q0_s q0_y q0_p q0_d q0_h q0_f q0_mm q0_low q0_dd q0_r q0_big q0_dt q0_dx q0_t q0_cost q0_rowScaleNow q0_columnScaleNow q0_basic q0_text q0_turned q0_na q0_nb q0_nc vq0_m vq0_n vq0_length vq0_where vq0_effort vq0_thrown vq0_at vq0_scaled vq0_solved vq0_second vq0_nm vq0_nn vq0_number vq0_bad vq0_a vq0_b vq0_c)[i]?) = [0, 1, 2, 3].map (fun (i : Nat) => (w_M_set T q0 q0_a q0_b q0_c q0_rowScale q0_columnScale q0_sa q0_sb q0_sc q0_x q0_s q0_y q0_p q0_d q0_h q0_f q0_mm q0_low q0_dd q0_r q0_big q0_dt q0_dx q0_t q0_cost q0_rowScaleNow q0_columnScaleNow q0_basic q0_text q0_turned q0_na q0_nb q0_nc vq0_m vq0_n vq0_length vq0_where vq0_effort vq0_thrown vq0_at vq0_scaled vq0_solved vq0_second vq0_nm vq0_nn vq0_number vq0_bad vq0_a vq0_b vq0_c)[i]?)) ∧ (w_M_in T  ).map Prod.fst = (w_M_in T  ).map Prod.fst ∧ (w_M_set T q0 q0_a q0_b q0_c q0_rowScale q0_columnScale q0_sa q0_sb q0_sc q0_x q0_s q0_y q0_p q0_d q0_h q0_f q0_mm q0_low q0_dd q0_r q0_big q0_dt q0_dx q0_t q0_cost q0_rowScaleNow q0_columnScaleNow q0_basic q0_text q0_turned q0_na q0_nb q0_nc vq0_m vq0_n vq0_length vq0_where vq0_effort vq0_thrown vq0_at vq0_scaled vq0_solved vq0_second vq0_nm vq0_nn vq0_number vq0_bad vq0_a vq0_b vq0_c).length = 4 :=
  ⟨rfl, rfl, Eq.trans (b := ([some (q0, .inr (8, [.ref q0_a, .ref q0_b, .ref q0_c, .ref q0_rowScale, .ref q0_columnScale, .ref q0_sa, .ref q0_sb, .ref q0_sc, .ref q0_x, .ref q0_s, .ref q0_y, .ref q0_p, .ref q0_d, .ref q0_h, .ref q0_f, .ref q0_mm, .ref q0_low, .ref q0_dd, .ref q0_r, .ref q0_big, .ref q0_dt, .ref q0_dx, .ref q0_t, .ref q0_cost, .ref q0_rowScaleNow, .ref q0_columnScaleNow, .ref q0_basic, .ref q0_text, .ref q0_turned, .int vq0_m, .int vq0_n, .int vq0_length, .int vq0_where, .int vq0_effort, .int vq0_thrown, .int vq0_at, .int vq0_scaled, .int vq0_solved, .int vq0_second, .ref q0_na, .ref q0_nb, .ref q0_nc, .int vq0_nm, .int vq0_nn, .double vq0_number, .int vq0_bad])), some (q0_a, .inl (T 0, 40, .inr (.inr (.inr (.inl vq0_a))))), some (q0_b, .inl (T 0, 5, .inr (.inr (.inr (.inl vq0_b))))), some (q0_c, .inl (T 0, 8, .inr (.inr (.inr (.inl vq0_c)))))] : List (Option (Nat × va_E)))) rfl rfl, rfl, rfl⟩
set_option maxRecDepth 100000 in
theorem j_M_set_4 (T : Nat → ClassId) (q0 : Nat) (q0_a : Nat) (q0_b : Nat) (q0_c : Nat) (q0_rowScale : Nat) (q0_columnScale : Nat) (q0_sa : Nat) (q0_sb : Nat) (q0_sc : Nat) (q0_x : Nat) (q0_s : Nat) (q0_y : Nat) (q0_p : Nat) (q0_d : Nat) (q0_h : Nat) (q0_f : Nat) (q0_mm : Nat) (q0_low : Nat) (q0_dd : Nat) (q0_r : Nat) (q0_big : Nat) (q0_dt : Nat) (q0_dx : Nat) (q0_t : Nat) (q0_cost : Nat) (q0_rowScaleNow : Nat) (q0_columnScaleNow : Nat) (q0_basic : Nat) (q0_text : Nat) (q0_turned : Nat) (q0_na : Nat) (q0_nb : Nat) (q0_nc : Nat) (vq0_m : Int32) (vq0_n : Int32) (vq0_length : Int32) (vq0_where : Int32) (vq0_effort : Int32) (vq0_thrown : Int32) (vq0_at : Int32) (vq0_scaled : Int32) (vq0_solved : Int32) (vq0_second : Int32) (vq0_nm : Int32) (vq0_nn : Int32) (vq0_number : UInt64) (vq0_bad : Int32) (vq0_a : Nat → UInt64) (vq0_b : Nat → UInt64) (vq0_c : Nat → UInt64) : ([].map (fun (i : Nat) => (w_M_set T q0 q0_a q0_b q0_c q0_rowScale q0_columnScale q0_sa q0_sb q0_sc q0_x q0_s q0_y q0_p q0_d q0_h q0_f q0_mm q0_low q0_dd q0_r q0_big q0_dt q0_dx q0_t q0_cost q0_rowScaleNow q0_columnScaleNow q0_basic q0_text q0_turned q0_na q0_nb q0_nc vq0_m vq0_n vq0_length vq0_where vq0_effort vq0_thrown vq0_at vq0_scaled vq0_solved vq0_second vq0_nm vq0_nn vq0_number vq0_bad vq0_a vq0_b vq0_c)[i]?) = (w_M_in T  ).map some) ∧ ([].map (fun (i : Nat) => (w_M_set T q0 q0_a q0_b q0_c q0_rowScale q0_columnScale q0_sa q0_sb q0_sc q0_x q0_s q0_y q0_p q0_d q0_h q0_f q0_mm q0_low q0_dd q0_r q0_big q0_dt q0_dx q0_t q0_cost q0_rowScaleNow q0_columnScaleNow q0_basic q0_text q0_turned q0_na q0_nb q0_nc vq0_m vq0_n vq0_length vq0_where vq0_effort vq0_thrown vq0_at vq0_scaled vq0_solved vq0_second vq0_nm vq0_nn vq0_number vq0_bad vq0_a vq0_b vq0_c)[i]?) = (w_M_in T  ).map some) ∧ ([0, 1, 2, 3].map (fun (i : Nat) => (w_M_set T q0 q0_a q0_b q0_c q0_rowScale q0_columnScale q0_sa q0_sb q0_sc q0_x q0_s q0_y q0_p q0_d q0_h q0_f q0_mm q0_low q0_dd q0_r q0_big q0_dt q0_dx q0_t q0_cost q0_rowScaleNow q0_columnScaleNow q0_basic q0_text q0_turned q0_na q0_nb q0_nc vq0_m vq0_n vq0_length vq0_where vq0_effort vq0_thrown vq0_at vq0_scaled vq0_solved vq0_second vq0_nm vq0_nn vq0_number vq0_bad vq0_a vq0_b vq0_c)[i]?) = [0, 1, 2, 3].map (fun (i : Nat) => (w_M_set T q0 q0_a q0_b q0_c q0_rowScale q0_columnScale q0_sa q0_sb q0_sc q0_x q0_s q0_y q0_p q0_d q0_h q0_f q0_mm q0_low q0_dd q0_r q0_big q0_dt q0_dx q0_t q0_cost q0_rowScaleNow q0_columnScaleNow q0_basic q0_text q0_turned q0_na q0_nb q0_nc vq0_m vq0_n vq0_length vq0_where vq0_effort vq0_thrown vq0_at vq0_scaled vq0_solved vq0_second vq0_nm vq0_nn vq0_number vq0_bad vq0_a vq0_b vq0_c)[i]?)) ∧ (w_M_in T  ).map Prod.fst = (w_M_in T  ).map Prod.fst ∧ (w_M_set T q0 q0_a q0_b q0_c q0_rowScale q0_columnScale q0_sa q0_sb q0_sc q0_x q0_s q0_y q0_p q0_d q0_h q0_f q0_mm q0_low q0_dd q0_r q0_big q0_dt q0_dx q0_t q0_cost q0_rowScaleNow q0_columnScaleNow q0_basic q0_text q0_turned q0_na q0_nb q0_nc vq0_m vq0_n vq0_length vq0_where vq0_effort vq0_thrown vq0_at vq0_scaled vq0_solved vq0_second vq0_nm vq0_nn vq0_number vq0_bad vq0_a vq0_b vq0_c).length = 4 :=
  ⟨rfl, rfl, Eq.trans (b := ([some (q0, .inr (8, [.ref q0_a, .ref q0_b, .ref q0_c, .ref q0_rowScale, .ref q0_columnScale, .ref q0_sa, .ref q0_sb, .ref q0_sc, .ref q0_x, .ref q0_s, .ref q0_y, .ref q0_p, .ref q0_d, .ref q0_h, .ref q0_f, .ref q0_mm, .ref q0_low, .ref q0_dd, .ref q0_r, .ref q0_big, .ref q0_dt, .ref q0_dx, .ref q0_t, .ref q0_cost, .ref q0_rowScaleNow, .ref q0_columnScaleNow, .ref q0_basic, .ref q0_text, .ref q0_turned, .int vq0_m, .int vq0_n, .int vq0_length, .int vq0_where, .int vq0_effort, .int vq0_thrown, .int vq0_at, .int vq0_scaled, .int vq0_solved, .int vq0_second, .ref q0_na, .ref q0_nb, .ref q0_nc, .int vq0_nm, .int vq0_nn, .double vq0_number, .int vq0_bad])), some (q0_a, .inl (T 0, 40, .inr (.inr (.inr (.inl vq0_a))))), some (q0_b, .inl (T 0, 5, .inr (.inr (.inr (.inl vq0_b))))), some (q0_c, .inl (T 0, 8, .inr (.inr (.inr (.inl vq0_c)))))] : List (Option (Nat × va_E)))) rfl rfl, rfl, rfl⟩
set_option maxHeartbeats 40000000 in
set_option maxRecDepth 100000 in
theorem c_M_set (l : Launch) (D : va_G) (T : Nat → ClassId) (q0 : Nat) (q0_a : Nat) (q0_b : Nat) (q0_c : Nat) (q0_rowScale : Nat) (q0_columnScale : Nat) (q0_sa : Nat) (q0_sb : Nat) (q0_sc : Nat) (q0_x : Nat) (q0_s : Nat) (q0_y : Nat) (q0_p : Nat) (q0_d : Nat) (q0_h : Nat) (q0_f : Nat) (q0_mm : Nat) (q0_low : Nat) (q0_dd : Nat) (q0_r : Nat) (q0_big : Nat) (q0_dt : Nat) (q0_dx : Nat) (q0_t : Nat) (q0_cost : Nat) (q0_rowScaleNow : Nat) (q0_columnScaleNow : Nat) (q0_basic : Nat) (q0_text : Nat) (q0_turned : Nat) (q0_na : Nat) (q0_nb : Nat) (q0_nc : Nat) (vq0_m : Int32) (vq0_n : Int32) (vq0_length : Int32) (vq0_where : Int32) (vq0_effort : Int32) (vq0_thrown : Int32) (vq0_at : Int32) (vq0_scaled : Int32) (vq0_solved : Int32) (vq0_second : Int32) (vq0_nm : Int32) (vq0_nn : Int32) (vq0_number : UInt64) (vq0_bad : Int32) (vq0_a : Nat → UInt64) (vq0_b : Nat → UInt64) (vq0_c : Nat → UInt64) (x1 : Int32) (x2 : Int32) (x3 : Int32) (x4 : UInt64) (rm : UInt64 × Int32 × Int32 × (Nat → UInt64) × (Nat → UInt64) × (Nat → UInt64)) (h : s_M_set vq0_m vq0_n vq0_length vq0_where vq0_effort vq0_thrown vq0_at vq0_scaled vq0_solved vq0_second vq0_nm vq0_nn vq0_number vq0_bad vq0_a vq0_b vq0_c x1 x2 x3 x4 = some rm) : CtD l y_M_set (Cond.code y_M_set prog_10_method_7_code 8 (some .double) :: BIG) 1 22 D T [.ref q0, .int x1, .int x2, .int x3, .double x4] (w_M_set T q0 q0_a q0_b q0_c q0_rowScale q0_columnScale q0_sa q0_sb q0_sc q0_x q0_s q0_y q0_p q0_d q0_h q0_f q0_mm q0_low q0_dd q0_r q0_big q0_dt q0_dx q0_t q0_cost q0_rowScaleNow q0_columnScaleNow q0_basic q0_text q0_turned q0_na q0_nb q0_nc vq0_m vq0_n vq0_length vq0_where vq0_effort vq0_thrown vq0_at vq0_scaled vq0_solved vq0_second vq0_nm vq0_nn vq0_number vq0_bad vq0_a vq0_b vq0_c) (fun r => r.1) (fun r => (w_M_set T q0 q0_a q0_b q0_c q0_rowScale q0_columnScale q0_sa q0_sb q0_sc q0_x q0_s q0_y q0_p q0_d q0_h q0_f q0_mm q0_low q0_dd q0_r q0_big q0_dt q0_dx q0_t q0_cost q0_rowScaleNow q0_columnScaleNow q0_basic q0_text q0_turned q0_na q0_nb q0_nc vq0_m vq0_n vq0_length vq0_where vq0_effort r.2.1 vq0_at vq0_scaled r.2.2.1 vq0_second vq0_nm vq0_nn vq0_number vq0_bad r.2.2.2.1 r.2.2.2.2.1 r.2.2.2.2.2)) rm := by
  refine cf_entry (y := y_M_set) (cc := prog_10_method_7_code) (nL := 8) (ret := (some .double)) (fr := 1) (lo := 22) (T := T) (av := [.ref q0, .int x1, .int x2, .int x3, .double x4]) (w := (w_M_set T q0 q0_a q0_b q0_c q0_rowScale q0_columnScale q0_sa q0_sb q0_sc q0_x q0_s q0_y q0_p q0_d q0_h q0_f q0_mm q0_low q0_dd q0_r q0_big q0_dt q0_dx q0_t q0_cost q0_rowScaleNow q0_columnScaleNow q0_basic q0_text q0_turned q0_na q0_nb q0_nc vq0_m vq0_n vq0_length vq0_where vq0_effort vq0_thrown vq0_at vq0_scaled vq0_solved vq0_second vq0_nm vq0_nn vq0_number vq0_bad vq0_a vq0_b vq0_c)) (Qc := cfQd D (fun r => r.1) (fun r => (w_M_set T q0 q0_a q0_b q0_c q0_rowScale q0_columnScale q0_sa q0_sb q0_sc q0_x q0_s q0_y q0_p q0_d q0_h q0_f q0_mm q0_low q0_dd q0_r q0_big q0_dt q0_dx q0_t q0_cost q0_rowScaleNow q0_columnScaleNow q0_basic q0_text q0_turned q0_na q0_nb q0_nc vq0_m vq0_n vq0_length vq0_where vq0_effort r.2.1 vq0_at vq0_scaled r.2.2.1 vq0_second vq0_nm vq0_nn vq0_number vq0_bad r.2.2.2.1 r.2.2.2.2.1 r.2.2.2.2.2)) rm) (by decide) rfl (Nat.le_of_ble_eq_true rfl) ?_
  intro p e s m args below meth c A Q H locs ls hx hb hr hlocks hml hown hts hNW hK hA hQ hP hD hS hl
  have hown : s.vm.findClass "ConeForgeModel" = some m.cls := hown
  have hl : lv_has ls 8 [(0, .ref q0), (1, .int x1), (2, .int x2), (3, .int x3), (4, .double x4)] := hl
  have J155 : ∀ (vq0_thrown : Int32) (vq0_solved : Int32) (vq0_a : Nat → UInt64) (vq0_b : Nat → UInt64) (vq0_c : Nat → UInt64) (x1 : Int32) (x2 : Int32) (x3 : Int32) (x4 : UInt64) (y0 : UInt64), ∀ (H : Heap) (locs : List Loc) (ls : Array Slot), va_P D CL (w_M_set T q0 q0_a q0_b q0_c q0_rowScale q0_columnScale q0_sa q0_sb q0_sc q0_x q0_s q0_y q0_p q0_d q0_h q0_f q0_mm q0_low q0_dd q0_r q0_big q0_dt q0_dx q0_t q0_cost q0_rowScaleNow q0_columnScaleNow q0_basic q0_text q0_turned q0_na q0_nb q0_nc vq0_m vq0_n vq0_length vq0_where vq0_effort vq0_thrown vq0_at vq0_scaled vq0_solved vq0_second vq0_nm vq0_nn vq0_number vq0_bad vq0_a vq0_b vq0_c) H → va_D A (w_M_set T q0 q0_a q0_b q0_c q0_rowScale q0_columnScale q0_sa q0_sb q0_sc q0_x q0_s q0_y q0_p q0_d q0_h q0_f q0_mm q0_low q0_dd q0_r q0_big q0_dt q0_dx q0_t q0_cost q0_rowScaleNow q0_columnScaleNow q0_basic q0_text q0_turned q0_na q0_nb q0_nc vq0_m vq0_n vq0_length vq0_where vq0_effort vq0_thrown vq0_at vq0_scaled vq0_solved vq0_second vq0_nm vq0_nn vq0_number vq0_bad vq0_a vq0_b vq0_c) → va_S A s.heap H locs → lv_has ls 8 [(0, .ref q0), (1, .int x1), (2, .int x2), (3, .int x3), (4, .double x4)] → s_M_set_J155 vq0_m vq0_n vq0_length vq0_where vq0_effort vq0_thrown vq0_at vq0_scaled vq0_solved vq0_second vq0_nm vq0_nn vq0_number vq0_bad vq0_a vq0_b vq0_c x1 x2 x3 x4 y0 = some rm → W p l e (rmk 1 22) s m args below meth c H locs 0 0 Q (F0 m 155 ls [.double y0]) := by
    intro vq0_thrown vq0_solved vq0_a vq0_b vq0_c x1 x2 x3 x4 y0 H locs ls hP hD hS hl h
    unfold s_M_set_J155 at h
    refine lv_dstore (lv' := [(6, .double y0), (0, .ref q0), (1, .int x1), (2, .int x2), (3, .int x3), (4, .double x4)]) hx hb d_M_set_155 hl (by decide) rfl (fun ls hl => ?_)
    refine lv_iload_n hx hb d_M_set_157 rfl (lv_at hl 2 rfl) ?_
    refine lv_if_ne (tgt := 177) hx hb d_M_set_158 (by decide) (fun c1 => ?_) (fun c1 => ?_)
    · have h := it_f c1 h
      refine lv_iload_n hx hb d_M_set_177 rfl (lv_at hl 2 rfl) ?_
      refine lv_iconst (v := 1) hx hb d_M_set_178 (by decide) ?_
      refine lv_icmp_ne (tgt := 193) hx hb d_M_set_179 (by decide) (fun c2 => ?_) (fun c2 => ?_)
      · have h := it_f c2 h
        refine lv_aload_n hx hb d_M_set_193 rfl (lv_at hl 1 rfl) ?_
        refine va_get (D := D) (ci := 8) (v := .ref q0_c) (C := "ConeForgeModel") (T := FM) (N := 46) hx hb hts iM hown hK hP 0 rfl rfl 2 (by decide) (hts _ (bgc bw686)) (fun _ h9 => h9) rfl d_M_set_194 ?_
        refine lv_iload_n hx hb d_M_set_197 rfl (lv_at hl 4 rfl) ?_
        refine lv_dload hx hb d_M_set_198 (lv_at hl 5 rfl) ?_
        obtain ⟨g3, h⟩ := gd_some h
        refine va_dast hx hb hK hP hD hS 3 0 rfl rfl (inb_in g3) d_M_set_200 (fun H locs hP hD hS => ?_)
        have hP : va_P D CL (w_M_set T q0 q0_a q0_b q0_c q0_rowScale q0_columnScale q0_sa q0_sb q0_sc q0_x q0_s q0_y q0_p q0_d q0_h q0_f q0_mm q0_low q0_dd q0_r q0_big q0_dt q0_dx q0_t q0_cost q0_rowScaleNow q0_columnScaleNow q0_basic q0_text q0_turned q0_na q0_nb q0_nc vq0_m vq0_n vq0_length vq0_where vq0_effort vq0_thrown vq0_at vq0_scaled vq0_solved vq0_second vq0_nm vq0_nn vq0_number vq0_bad vq0_a vq0_b (vf_upd vq0_c x3.toNatClampNeg x4)) H := hP
        have hD : va_D A (w_M_set T q0 q0_a q0_b q0_c q0_rowScale q0_columnScale q0_sa q0_sb q0_sc q0_x q0_s q0_y q0_p q0_d q0_h q0_f q0_mm q0_low q0_dd q0_r q0_big q0_dt q0_dx q0_t q0_cost q0_rowScaleNow q0_columnScaleNow q0_basic q0_text q0_turned q0_na q0_nb q0_nc vq0_m vq0_n vq0_length vq0_where vq0_effort vq0_thrown vq0_at vq0_scaled vq0_solved vq0_second vq0_nm vq0_nn vq0_number vq0_bad vq0_a vq0_b (vf_upd vq0_c x3.toNatClampNeg x4)) := hD
        refine lv_dload hx hb d_M_set_201 (lv_at hl 0 rfl) ?_
        exact rtD hx hb hr hlocks hQ (Option.some.inj h) hP hS d_M_set_203 rfl rfl
      · have h := it_t c2 h
        refine lv_aload_n hx hb d_M_set_182 rfl (lv_at hl 1 rfl) ?_
        refine va_get (D := D) (ci := 8) (v := .ref q0_b) (C := "ConeForgeModel") (T := FM) (N := 46) hx hb hts iM hown hK hP 0 rfl rfl 1 (by decide) (hts _ (bgc bw685)) (fun _ h9 => h9) rfl d_M_set_183 ?_
        refine lv_iload_n hx hb d_M_set_186 rfl (lv_at hl 3 rfl) ?_
        refine lv_dload hx hb d_M_set_187 (lv_at hl 5 rfl) ?_
        obtain ⟨g4, h⟩ := gd_some h
        refine va_dast hx hb hK hP hD hS 2 0 rfl rfl (inb_in g4) d_M_set_189 (fun H locs hP hD hS => ?_)
        have hP : va_P D CL (w_M_set T q0 q0_a q0_b q0_c q0_rowScale q0_columnScale q0_sa q0_sb q0_sc q0_x q0_s q0_y q0_p q0_d q0_h q0_f q0_mm q0_low q0_dd q0_r q0_big q0_dt q0_dx q0_t q0_cost q0_rowScaleNow q0_columnScaleNow q0_basic q0_text q0_turned q0_na q0_nb q0_nc vq0_m vq0_n vq0_length vq0_where vq0_effort vq0_thrown vq0_at vq0_scaled vq0_solved vq0_second vq0_nm vq0_nn vq0_number vq0_bad vq0_a (vf_upd vq0_b x2.toNatClampNeg x4) vq0_c) H := hP
        have hD : va_D A (w_M_set T q0 q0_a q0_b q0_c q0_rowScale q0_columnScale q0_sa q0_sb q0_sc q0_x q0_s q0_y q0_p q0_d q0_h q0_f q0_mm q0_low q0_dd q0_r q0_big q0_dt q0_dx q0_t q0_cost q0_rowScaleNow q0_columnScaleNow q0_basic q0_text q0_turned q0_na q0_nb q0_nc vq0_m vq0_n vq0_length vq0_where vq0_effort vq0_thrown vq0_at vq0_scaled vq0_solved vq0_second vq0_nm vq0_nn vq0_number vq0_bad vq0_a (vf_upd vq0_b x2.toNatClampNeg x4) vq0_c) := hD
        refine lv_goto (tgt := 201) hx hb d_M_set_190 (by decide) ?_
        refine lv_dload hx hb d_M_set_201 (lv_at hl 0 rfl) ?_
        exact rtD hx hb hr hlocks hQ (Option.some.inj h) hP hS d_M_set_203 rfl rfl
    · have h := it_t c1 h
      refine lv_aload_n hx hb d_M_set_161 rfl (lv_at hl 1 rfl) ?_
      refine va_get (D := D) (ci := 8) (v := .ref q0_a) (C := "ConeForgeModel") (T := FM) (N := 46) hx hb hts iM hown hK hP 0 rfl rfl 0 (by decide) (hts _ (bgc bw684)) (fun _ h9 => h9) rfl d_M_set_162 ?_
      refine lv_bipush (v := 8) hx hb d_M_set_165 (by decide) ?_
      refine lv_iload_n hx hb d_M_set_167 rfl (lv_at hl 3 rfl) ?_
      refine lv_imul hx hb d_M_set_168 ?_
      refine lv_iload_n hx hb d_M_set_169 rfl (lv_at hl 4 rfl) ?_
      refine lv_iadd hx hb d_M_set_170 ?_
      refine lv_dload hx hb d_M_set_171 (lv_at hl 5 rfl) ?_
      obtain ⟨g5, h⟩ := gd_some h
      refine va_dast hx hb hK hP hD hS 1 0 rfl rfl (inb_in g5) d_M_set_173 (fun H locs hP hD hS => ?_)
      have hP : va_P D CL (w_M_set T q0 q0_a q0_b q0_c q0_rowScale q0_columnScale q0_sa q0_sb q0_sc q0_x q0_s q0_y q0_p q0_d q0_h q0_f q0_mm q0_low q0_dd q0_r q0_big q0_dt q0_dx q0_t q0_cost q0_rowScaleNow q0_columnScaleNow q0_basic q0_text q0_turned q0_na q0_nb q0_nc vq0_m vq0_n vq0_length vq0_where vq0_effort vq0_thrown vq0_at vq0_scaled vq0_solved vq0_second vq0_nm vq0_nn vq0_number vq0_bad (vf_upd vq0_a ((8 * x2) + x3).toNatClampNeg x4) vq0_b vq0_c) H := hP
      have hD : va_D A (w_M_set T q0 q0_a q0_b q0_c q0_rowScale q0_columnScale q0_sa q0_sb q0_sc q0_x q0_s q0_y q0_p q0_d q0_h q0_f q0_mm q0_low q0_dd q0_r q0_big q0_dt q0_dx q0_t q0_cost q0_rowScaleNow q0_columnScaleNow q0_basic q0_text q0_turned q0_na q0_nb q0_nc vq0_m vq0_n vq0_length vq0_where vq0_effort vq0_thrown vq0_at vq0_scaled vq0_solved vq0_second vq0_nm vq0_nn vq0_number vq0_bad (vf_upd vq0_a ((8 * x2) + x3).toNatClampNeg x4) vq0_b vq0_c) := hD
      refine lv_goto (tgt := 201) hx hb d_M_set_174 (by decide) ?_
      refine lv_dload hx hb d_M_set_201 (lv_at hl 0 rfl) ?_
      exact rtD hx hb hr hlocks hQ (Option.some.inj h) hP hS d_M_set_203 rfl rfl
  have J100 : ∀ (vq0_thrown : Int32) (vq0_solved : Int32) (vq0_a : Nat → UInt64) (vq0_b : Nat → UInt64) (vq0_c : Nat → UInt64) (x1 : Int32) (x2 : Int32) (x3 : Int32) (x4 : UInt64) (y1 : Int32), ∀ (H : Heap) (locs : List Loc) (ls : Array Slot), va_P D CL (w_M_set T q0 q0_a q0_b q0_c q0_rowScale q0_columnScale q0_sa q0_sb q0_sc q0_x q0_s q0_y q0_p q0_d q0_h q0_f q0_mm q0_low q0_dd q0_r q0_big q0_dt q0_dx q0_t q0_cost q0_rowScaleNow q0_columnScaleNow q0_basic q0_text q0_turned q0_na q0_nb q0_nc vq0_m vq0_n vq0_length vq0_where vq0_effort vq0_thrown vq0_at vq0_scaled vq0_solved vq0_second vq0_nm vq0_nn vq0_number vq0_bad vq0_a vq0_b vq0_c) H → va_D A (w_M_set T q0 q0_a q0_b q0_c q0_rowScale q0_columnScale q0_sa q0_sb q0_sc q0_x q0_s q0_y q0_p q0_d q0_h q0_f q0_mm q0_low q0_dd q0_r q0_big q0_dt q0_dx q0_t q0_cost q0_rowScaleNow q0_columnScaleNow q0_basic q0_text q0_turned q0_na q0_nb q0_nc vq0_m vq0_n vq0_length vq0_where vq0_effort vq0_thrown vq0_at vq0_scaled vq0_solved vq0_second vq0_nm vq0_nn vq0_number vq0_bad vq0_a vq0_b vq0_c) → va_S A s.heap H locs → lv_has ls 8 [(0, .ref q0), (1, .int x1), (2, .int x2), (3, .int x3), (4, .double x4)] → s_M_set_J100 vq0_m vq0_n vq0_length vq0_where vq0_effort vq0_thrown vq0_at vq0_scaled vq0_solved vq0_second vq0_nm vq0_nn vq0_number vq0_bad vq0_a vq0_b vq0_c x1 x2 x3 x4 y1 = some rm → W p l e (rmk 1 22) s m args below meth c H locs 0 0 Q (F0 m 100 ls [.int y1, .ref q0]) := by
    intro vq0_thrown vq0_solved vq0_a vq0_b vq0_c x1 x2 x3 x4 y1 H locs ls hP hD hS hl h
    unfold s_M_set_J100 at h
    refine va_put (D := D) (ci := 8) (v := .int y1) (ty := .int) (C := "ConeForgeModel") (T := FM) (N := 46) hx hb hts iM tM tM_ok nmM hown hK hP hD hS 0 rfl rfl 34 (by decide) (hts _ (bgc bw718)) (fun _ h9 => h9) rfl (by decide +kernel) rfl rfl (Nat.le_of_ble_eq_true rfl) d_M_set_100 (fun H locs hP hD hS => ?_)
    have hP : va_P D CL (w_M_set T q0 q0_a q0_b q0_c q0_rowScale q0_columnScale q0_sa q0_sb q0_sc q0_x q0_s q0_y q0_p q0_d q0_h q0_f q0_mm q0_low q0_dd q0_r q0_big q0_dt q0_dx q0_t q0_cost q0_rowScaleNow q0_columnScaleNow q0_basic q0_text q0_turned q0_na q0_nb q0_nc vq0_m vq0_n vq0_length vq0_where vq0_effort y1 vq0_at vq0_scaled vq0_solved vq0_second vq0_nm vq0_nn vq0_number vq0_bad vq0_a vq0_b vq0_c) H := hP
    have hD : va_D A (w_M_set T q0 q0_a q0_b q0_c q0_rowScale q0_columnScale q0_sa q0_sb q0_sc q0_x q0_s q0_y q0_p q0_d q0_h q0_f q0_mm q0_low q0_dd q0_r q0_big q0_dt q0_dx q0_t q0_cost q0_rowScaleNow q0_columnScaleNow q0_basic q0_text q0_turned q0_na q0_nb q0_nc vq0_m vq0_n vq0_length vq0_where vq0_effort y1 vq0_at vq0_scaled vq0_solved vq0_second vq0_nm vq0_nn vq0_number vq0_bad vq0_a vq0_b vq0_c) := hD
    refine lv_aload_n hx hb d_M_set_103 rfl (lv_at hl 0 rfl) ?_
    refine va_get (D := D) (ci := 8) (v := .int y1) (C := "ConeForgeModel") (T := FM) (N := 46) hx hb hts iM hown hK hP 0 rfl rfl 34 (by decide) (hts _ (bgc bw718)) (fun _ h9 => h9) rfl d_M_set_104 ?_
    refine lv_if_le (tgt := 112) hx hb d_M_set_107 (by decide) (fun c6 => ?_) (fun c6 => ?_)
    · have h := it_t c6 h
      refine lv_aload_n hx hb d_M_set_112 rfl (lv_at hl 0 rfl) ?_
      refine lv_iconst (v := 0) hx hb d_M_set_113 (by decide) ?_
      obtain ⟨g7, h⟩ := gd_some h
      refine va_put (D := D) (ci := 8) (v := .int 0) (ty := .boolean) (C := "ConeForgeModel") (T := FM) (N := 46) hx hb hts iM tM tM_ok nmM hown hK hP hD hS 0 rfl rfl 37 (by decide) (hts _ (bgc bw721)) (fun _ h9 => h9) rfl (by decide +kernel) (isb_n g7) (isb_f g7) (Nat.le_of_ble_eq_true rfl) d_M_set_114 (fun H locs hP hD hS => ?_)
      have hP : va_P D CL (w_M_set T q0 q0_a q0_b q0_c q0_rowScale q0_columnScale q0_sa q0_sb q0_sc q0_x q0_s q0_y q0_p q0_d q0_h q0_f q0_mm q0_low q0_dd q0_r q0_big q0_dt q0_dx q0_t q0_cost q0_rowScaleNow q0_columnScaleNow q0_basic q0_text q0_turned q0_na q0_nb q0_nc vq0_m vq0_n vq0_length vq0_where vq0_effort y1 vq0_at vq0_scaled 0 vq0_second vq0_nm vq0_nn vq0_number vq0_bad vq0_a vq0_b vq0_c) H := hP
      have hD : va_D A (w_M_set T q0 q0_a q0_b q0_c q0_rowScale q0_columnScale q0_sa q0_sb q0_sc q0_x q0_s q0_y q0_p q0_d q0_h q0_f q0_mm q0_low q0_dd q0_r q0_big q0_dt q0_dx q0_t q0_cost q0_rowScaleNow q0_columnScaleNow q0_basic q0_text q0_turned q0_na q0_nb q0_nc vq0_m vq0_n vq0_length vq0_where vq0_effort y1 vq0_at vq0_scaled 0 vq0_second vq0_nm vq0_nn vq0_number vq0_bad vq0_a vq0_b vq0_c) := hD
      refine lv_iload_n hx hb d_M_set_117 rfl (lv_at hl 1 rfl) ?_
      refine lv_if_ne (tgt := 135) hx hb d_M_set_118 (by decide) (fun c8 => ?_) (fun c8 => ?_)
      · have h := it_f c8 h
        refine lv_iload_n hx hb d_M_set_135 rfl (lv_at hl 1 rfl) ?_
        refine lv_iconst (v := 1) hx hb d_M_set_136 (by decide) ?_
        refine lv_icmp_ne (tgt := 149) hx hb d_M_set_137 (by decide) (fun c9 => ?_) (fun c9 => ?_)
        · have h := it_f c9 h
          refine lv_aload_n hx hb d_M_set_149 rfl (lv_at hl 0 rfl) ?_
          refine va_get (D := D) (ci := 8) (v := .ref q0_c) (C := "ConeForgeModel") (T := FM) (N := 46) hx hb hts iM hown hK hP 0 rfl rfl 2 (by decide) (hts _ (bgc bw686)) (fun _ h9 => h9) rfl d_M_set_150 ?_
          refine lv_iload_n hx hb d_M_set_153 rfl (lv_at hl 3 rfl) ?_
          obtain ⟨g10, h⟩ := gd_some h
          refine va_dald hx hb hK hP 3 0 rfl rfl (inb_in g10) d_M_set_154 ?_
          exact J155 y1 0 vq0_a vq0_b vq0_c x1 x2 x3 x4 (vq0_c x3.toNatClampNeg) H locs ls hP hD hS (lv_sub hl [0, 1, 2, 3, 4] rfl) h
        · have h := it_t c9 h
          refine lv_aload_n hx hb d_M_set_140 rfl (lv_at hl 0 rfl) ?_
          refine va_get (D := D) (ci := 8) (v := .ref q0_b) (C := "ConeForgeModel") (T := FM) (N := 46) hx hb hts iM hown hK hP 0 rfl rfl 1 (by decide) (hts _ (bgc bw685)) (fun _ h9 => h9) rfl d_M_set_141 ?_
          refine lv_iload_n hx hb d_M_set_144 rfl (lv_at hl 2 rfl) ?_
          obtain ⟨g11, h⟩ := gd_some h
          refine va_dald hx hb hK hP 2 0 rfl rfl (inb_in g11) d_M_set_145 ?_
          refine lv_goto (tgt := 155) hx hb d_M_set_146 (by decide) ?_
          exact J155 y1 0 vq0_a vq0_b vq0_c x1 x2 x3 x4 (vq0_b x2.toNatClampNeg) H locs ls hP hD hS (lv_sub hl [0, 1, 2, 3, 4] rfl) h
      · have h := it_t c8 h
        refine lv_aload_n hx hb d_M_set_121 rfl (lv_at hl 0 rfl) ?_
        refine va_get (D := D) (ci := 8) (v := .ref q0_a) (C := "ConeForgeModel") (T := FM) (N := 46) hx hb hts iM hown hK hP 0 rfl rfl 0 (by decide) (hts _ (bgc bw684)) (fun _ h9 => h9) rfl d_M_set_122 ?_
        refine lv_bipush (v := 8) hx hb d_M_set_125 (by decide) ?_
        refine lv_iload_n hx hb d_M_set_127 rfl (lv_at hl 2 rfl) ?_
        refine lv_imul hx hb d_M_set_128 ?_
        refine lv_iload_n hx hb d_M_set_129 rfl (lv_at hl 3 rfl) ?_
        refine lv_iadd hx hb d_M_set_130 ?_
        obtain ⟨g12, h⟩ := gd_some h
        refine va_dald hx hb hK hP 1 0 rfl rfl (inb_in g12) d_M_set_131 ?_
        refine lv_goto (tgt := 155) hx hb d_M_set_132 (by decide) ?_
        exact J155 y1 0 vq0_a vq0_b vq0_c x1 x2 x3 x4 (vq0_a ((8 * x2) + x3).toNatClampNeg) H locs ls hP hD hS (lv_sub hl [0, 1, 2, 3, 4] rfl) h
    · have h := it_f c6 h
      refine lv_dconst0 hx hb d_M_set_110 ?_
      exact rtD hx hb hr hlocks hQ (Option.some.inj h) hP hS d_M_set_111 rfl rfl
  have J99 : ∀ (vq0_thrown : Int32) (vq0_solved : Int32) (vq0_a : Nat → UInt64) (vq0_b : Nat → UInt64) (vq0_c : Nat → UInt64) (x1 : Int32) (x2 : Int32) (x3 : Int32) (x4 : UInt64), ∀ (H : Heap) (locs : List Loc) (ls : Array Slot), va_P D CL (w_M_set T q0 q0_a q0_b q0_c q0_rowScale q0_columnScale q0_sa q0_sb q0_sc q0_x q0_s q0_y q0_p q0_d q0_h q0_f q0_mm q0_low q0_dd q0_r q0_big q0_dt q0_dx q0_t q0_cost q0_rowScaleNow q0_columnScaleNow q0_basic q0_text q0_turned q0_na q0_nb q0_nc vq0_m vq0_n vq0_length vq0_where vq0_effort vq0_thrown vq0_at vq0_scaled vq0_solved vq0_second vq0_nm vq0_nn vq0_number vq0_bad vq0_a vq0_b vq0_c) H → va_D A (w_M_set T q0 q0_a q0_b q0_c q0_rowScale q0_columnScale q0_sa q0_sb q0_sc q0_x q0_s q0_y q0_p q0_d q0_h q0_f q0_mm q0_low q0_dd q0_r q0_big q0_dt q0_dx q0_t q0_cost q0_rowScaleNow q0_columnScaleNow q0_basic q0_text q0_turned q0_na q0_nb q0_nc vq0_m vq0_n vq0_length vq0_where vq0_effort vq0_thrown vq0_at vq0_scaled vq0_solved vq0_second vq0_nm vq0_nn vq0_number vq0_bad vq0_a vq0_b vq0_c) → va_S A s.heap H locs → lv_has ls 8 [(0, .ref q0), (1, .int x1), (2, .int x2), (3, .int x3), (4, .double x4)] → s_M_set_J99 vq0_m vq0_n vq0_length vq0_where vq0_effort vq0_thrown vq0_at vq0_scaled vq0_solved vq0_second vq0_nm vq0_nn vq0_number vq0_bad vq0_a vq0_b vq0_c x1 x2 x3 x4 = some rm → W p l e (rmk 1 22) s m args below meth c H locs 0 0 Q (F0 m 99 ls [.ref q0]) := by
    intro vq0_thrown vq0_solved vq0_a vq0_b vq0_c x1 x2 x3 x4 H locs ls hP hD hS hl h
    unfold s_M_set_J99 at h
    refine lv_iconst (v := 0) hx hb d_M_set_99 (by decide) ?_
    exact J100 vq0_thrown vq0_solved vq0_a vq0_b vq0_c x1 x2 x3 x4 0 H locs ls hP hD hS (lv_sub hl [0, 1, 2, 3, 4] rfl) h
  have J95 : ∀ (vq0_thrown : Int32) (vq0_solved : Int32) (vq0_a : Nat → UInt64) (vq0_b : Nat → UInt64) (vq0_c : Nat → UInt64) (x1 : Int32) (x2 : Int32) (x3 : Int32) (x4 : UInt64), ∀ (H : Heap) (locs : List Loc) (ls : Array Slot), va_P D CL (w_M_set T q0 q0_a q0_b q0_c q0_rowScale q0_columnScale q0_sa q0_sb q0_sc q0_x q0_s q0_y q0_p q0_d q0_h q0_f q0_mm q0_low q0_dd q0_r q0_big q0_dt q0_dx q0_t q0_cost q0_rowScaleNow q0_columnScaleNow q0_basic q0_text q0_turned q0_na q0_nb q0_nc vq0_m vq0_n vq0_length vq0_where vq0_effort vq0_thrown vq0_at vq0_scaled vq0_solved vq0_second vq0_nm vq0_nn vq0_number vq0_bad vq0_a vq0_b vq0_c) H → va_D A (w_M_set T q0 q0_a q0_b q0_c q0_rowScale q0_columnScale q0_sa q0_sb q0_sc q0_x q0_s q0_y q0_p q0_d q0_h q0_f q0_mm q0_low q0_dd q0_r q0_big q0_dt q0_dx q0_t q0_cost q0_rowScaleNow q0_columnScaleNow q0_basic q0_text q0_turned q0_na q0_nb q0_nc vq0_m vq0_n vq0_length vq0_where vq0_effort vq0_thrown vq0_at vq0_scaled vq0_solved vq0_second vq0_nm vq0_nn vq0_number vq0_bad vq0_a vq0_b vq0_c) → va_S A s.heap H locs → lv_has ls 8 [(0, .ref q0), (1, .int x1), (2, .int x2), (3, .int x3), (4, .double x4)] → s_M_set_J95 vq0_m vq0_n vq0_length vq0_where vq0_effort vq0_thrown vq0_at vq0_scaled vq0_solved vq0_second vq0_nm vq0_nn vq0_number vq0_bad vq0_a vq0_b vq0_c x1 x2 x3 x4 = some rm → W p l e (rmk 1 22) s m args below meth c H locs 0 0 Q (F0 m 95 ls [.ref q0]) := by
    intro vq0_thrown vq0_solved vq0_a vq0_b vq0_c x1 x2 x3 x4 H locs ls hP hD hS hl h
    unfold s_M_set_J95 at h
    refine lv_iconst (v := 2) hx hb d_M_set_95 (by decide) ?_
    refine lv_goto (tgt := 100) hx hb d_M_set_96 (by decide) ?_
    exact J100 vq0_thrown vq0_solved vq0_a vq0_b vq0_c x1 x2 x3 x4 2 H locs ls hP hD hS (lv_sub hl [0, 1, 2, 3, 4] rfl) h
  have J76 : ∀ (vq0_thrown : Int32) (vq0_solved : Int32) (vq0_a : Nat → UInt64) (vq0_b : Nat → UInt64) (vq0_c : Nat → UInt64) (x1 : Int32) (x2 : Int32) (x3 : Int32) (x4 : UInt64), ∀ (H : Heap) (locs : List Loc) (ls : Array Slot), va_P D CL (w_M_set T q0 q0_a q0_b q0_c q0_rowScale q0_columnScale q0_sa q0_sb q0_sc q0_x q0_s q0_y q0_p q0_d q0_h q0_f q0_mm q0_low q0_dd q0_r q0_big q0_dt q0_dx q0_t q0_cost q0_rowScaleNow q0_columnScaleNow q0_basic q0_text q0_turned q0_na q0_nb q0_nc vq0_m vq0_n vq0_length vq0_where vq0_effort vq0_thrown vq0_at vq0_scaled vq0_solved vq0_second vq0_nm vq0_nn vq0_number vq0_bad vq0_a vq0_b vq0_c) H → va_D A (w_M_set T q0 q0_a q0_b q0_c q0_rowScale q0_columnScale q0_sa q0_sb q0_sc q0_x q0_s q0_y q0_p q0_d q0_h q0_f q0_mm q0_low q0_dd q0_r q0_big q0_dt q0_dx q0_t q0_cost q0_rowScaleNow q0_columnScaleNow q0_basic q0_text q0_turned q0_na q0_nb q0_nc vq0_m vq0_n vq0_length vq0_where vq0_effort vq0_thrown vq0_at vq0_scaled vq0_solved vq0_second vq0_nm vq0_nn vq0_number vq0_bad vq0_a vq0_b vq0_c) → va_S A s.heap H locs → lv_has ls 8 [(0, .ref q0), (1, .int x1), (2, .int x2), (3, .int x3), (4, .double x4)] → s_M_set_J76 vq0_m vq0_n vq0_length vq0_where vq0_effort vq0_thrown vq0_at vq0_scaled vq0_solved vq0_second vq0_nm vq0_nn vq0_number vq0_bad vq0_a vq0_b vq0_c x1 x2 x3 x4 = some rm → W p l e (rmk 1 22) s m args below meth c H locs 0 0 Q (F0 m 76 ls [.ref q0]) := by
    intro vq0_thrown vq0_solved vq0_a vq0_b vq0_c x1 x2 x3 x4 H locs ls hP hD hS hl h
    unfold s_M_set_J76 at h
    refine lv_iload_n hx hb d_M_set_76 rfl (lv_at hl 1 rfl) ?_
    refine lv_iconst (v := 1) hx hb d_M_set_77 (by decide) ?_
    refine lv_icmp_eq (tgt := 99) hx hb d_M_set_78 (by decide) (fun c13 => ?_) (fun c13 => ?_)
    · have h := it_t c13 h
      exact J99 vq0_thrown vq0_solved vq0_a vq0_b vq0_c x1 x2 x3 x4 H locs ls hP hD hS (lv_sub hl [0, 1, 2, 3, 4] rfl) h
    · have h := it_f c13 h
      refine lv_iload_n hx hb d_M_set_81 rfl (lv_at hl 3 rfl) ?_
      refine lv_iconst (v := 0) hx hb d_M_set_82 (by decide) ?_
      refine lv_aload_n hx hb d_M_set_83 rfl (lv_at hl 0 rfl) ?_
      refine va_get (D := D) (ci := 8) (v := .int vq0_n) (C := "ConeForgeModel") (T := FM) (N := 46) hx hb hts iM hown hK hP 0 rfl rfl 30 (by decide) (hts _ (bgc bw714)) (fun _ h9 => h9) rfl d_M_set_84 ?_
      refine lv_iconst (v := 1) hx hb d_M_set_87 (by decide) ?_
      refine lv_isub hx hb d_M_set_88 ?_
      obtain ⟨u14, hu14, h⟩ := bi_some h
      have jj15 := j_M_set_89 T q0 q0_a q0_b q0_c q0_rowScale q0_columnScale q0_sa q0_sb q0_sc q0_x q0_s q0_y q0_p q0_d q0_h q0_f q0_mm q0_low q0_dd q0_r q0_big q0_dt q0_dx q0_t q0_cost q0_rowScaleNow q0_columnScaleNow q0_basic q0_text q0_turned q0_na q0_nb q0_nc vq0_m vq0_n vq0_length vq0_where vq0_effort vq0_thrown vq0_at vq0_scaled vq0_solved vq0_second vq0_nm vq0_nn vq0_number vq0_bad vq0_a vq0_b vq0_c
      refine kI2 (v := u14) (wc := (w_M_in T  )) (wc' := (w_M_in T  )) (w_M_set T q0 q0_a q0_b q0_c q0_rowScale q0_columnScale q0_sa q0_sb q0_sc q0_x q0_s q0_y q0_p q0_d q0_h q0_f q0_mm q0_low q0_dd q0_r q0_big q0_dt q0_dx q0_t q0_cost q0_rowScaleNow q0_columnScaleNow q0_basic q0_text q0_turned q0_na q0_nb q0_nc vq0_m vq0_n vq0_length vq0_where vq0_effort vq0_thrown vq0_at vq0_scaled vq0_solved vq0_second vq0_nm vq0_nn vq0_number vq0_bad vq0_a vq0_b vq0_c) (runOS (As := [.int x3, .int 0, .int (vq0_n - 1)]) (rest := [.ref q0]) ((c_M_in l D T   x3 0 (vq0_n - 1) u14 hu14) H.size) ⟨hx, hb, hml, hown, hts⟩ (cwOS bw785 bw786 bw105 bw787 dd_M_in hts ⟨Nat.le_of_ble_eq_true rfl, Nat.le_of_ble_eq_true rfl⟩)  hNW hK hP hD [] jj15.1 (by decide) rfl hl.1 rfl (lv_room (Nat.le_of_ble_eq_true rfl)) d_M_set_89 ⟨Nat.le_of_ble_eq_true rfl, Nat.le_of_ble_eq_true rfl⟩) hP hD hS hA [] [0, 1, 2, 3] jj15.1 jj15.2.1 jj15.2.2.1 (N := 4) jj15.2.2.2.2 (by decide) jj15.2.2.2.1 (fun H locs hP hD hS => ?_)
      refine lv_if_ne (tgt := 99) hx hb d_M_set_92 (by decide) (fun c16 => ?_) (fun c16 => ?_)
      · have h := it_f c16 h
        exact J99 vq0_thrown vq0_solved vq0_a vq0_b vq0_c x1 x2 x3 x4 H locs ls hP hD hS (lv_sub hl [0, 1, 2, 3, 4] rfl) h
      · have h := it_t c16 h
        exact J95 vq0_thrown vq0_solved vq0_a vq0_b vq0_c x1 x2 x3 x4 H locs ls hP hD hS (lv_sub hl [0, 1, 2, 3, 4] rfl) h
  have J57 : ∀ (vq0_thrown : Int32) (vq0_solved : Int32) (vq0_a : Nat → UInt64) (vq0_b : Nat → UInt64) (vq0_c : Nat → UInt64) (x1 : Int32) (x2 : Int32) (x3 : Int32) (x4 : UInt64), ∀ (H : Heap) (locs : List Loc) (ls : Array Slot), va_P D CL (w_M_set T q0 q0_a q0_b q0_c q0_rowScale q0_columnScale q0_sa q0_sb q0_sc q0_x q0_s q0_y q0_p q0_d q0_h q0_f q0_mm q0_low q0_dd q0_r q0_big q0_dt q0_dx q0_t q0_cost q0_rowScaleNow q0_columnScaleNow q0_basic q0_text q0_turned q0_na q0_nb q0_nc vq0_m vq0_n vq0_length vq0_where vq0_effort vq0_thrown vq0_at vq0_scaled vq0_solved vq0_second vq0_nm vq0_nn vq0_number vq0_bad vq0_a vq0_b vq0_c) H → va_D A (w_M_set T q0 q0_a q0_b q0_c q0_rowScale q0_columnScale q0_sa q0_sb q0_sc q0_x q0_s q0_y q0_p q0_d q0_h q0_f q0_mm q0_low q0_dd q0_r q0_big q0_dt q0_dx q0_t q0_cost q0_rowScaleNow q0_columnScaleNow q0_basic q0_text q0_turned q0_na q0_nb q0_nc vq0_m vq0_n vq0_length vq0_where vq0_effort vq0_thrown vq0_at vq0_scaled vq0_solved vq0_second vq0_nm vq0_nn vq0_number vq0_bad vq0_a vq0_b vq0_c) → va_S A s.heap H locs → lv_has ls 8 [(0, .ref q0), (1, .int x1), (2, .int x2), (3, .int x3), (4, .double x4)] → s_M_set_J57 vq0_m vq0_n vq0_length vq0_where vq0_effort vq0_thrown vq0_at vq0_scaled vq0_solved vq0_second vq0_nm vq0_nn vq0_number vq0_bad vq0_a vq0_b vq0_c x1 x2 x3 x4 = some rm → W p l e (rmk 1 22) s m args below meth c H locs 0 0 Q (F0 m 57 ls [.ref q0]) := by
    intro vq0_thrown vq0_solved vq0_a vq0_b vq0_c x1 x2 x3 x4 H locs ls hP hD hS hl h
    unfold s_M_set_J57 at h
    refine lv_iload_n hx hb d_M_set_57 rfl (lv_at hl 1 rfl) ?_
    refine lv_iconst (v := 2) hx hb d_M_set_58 (by decide) ?_
    refine lv_icmp_ge (tgt := 76) hx hb d_M_set_59 (by decide) (fun c17 => ?_) (fun c17 => ?_)
    · have h := it_t c17 h
      exact J76 vq0_thrown vq0_solved vq0_a vq0_b vq0_c x1 x2 x3 x4 H locs ls hP hD hS (lv_sub hl [0, 1, 2, 3, 4] rfl) h
    · have h := it_f c17 h
      refine lv_iload_n hx hb d_M_set_62 rfl (lv_at hl 2 rfl) ?_
      refine lv_iconst (v := 0) hx hb d_M_set_63 (by decide) ?_
      refine lv_aload_n hx hb d_M_set_64 rfl (lv_at hl 0 rfl) ?_
      refine va_get (D := D) (ci := 8) (v := .int vq0_m) (C := "ConeForgeModel") (T := FM) (N := 46) hx hb hts iM hown hK hP 0 rfl rfl 29 (by decide) (hts _ (bgc bw713)) (fun _ h9 => h9) rfl d_M_set_65 ?_
      refine lv_iconst (v := 1) hx hb d_M_set_68 (by decide) ?_
      refine lv_isub hx hb d_M_set_69 ?_
      obtain ⟨u18, hu18, h⟩ := bi_some h
      have jj19 := j_M_set_70 T q0 q0_a q0_b q0_c q0_rowScale q0_columnScale q0_sa q0_sb q0_sc q0_x q0_s q0_y q0_p q0_d q0_h q0_f q0_mm q0_low q0_dd q0_r q0_big q0_dt q0_dx q0_t q0_cost q0_rowScaleNow q0_columnScaleNow q0_basic q0_text q0_turned q0_na q0_nb q0_nc vq0_m vq0_n vq0_length vq0_where vq0_effort vq0_thrown vq0_at vq0_scaled vq0_solved vq0_second vq0_nm vq0_nn vq0_number vq0_bad vq0_a vq0_b vq0_c
      refine kI2 (v := u18) (wc := (w_M_in T  )) (wc' := (w_M_in T  )) (w_M_set T q0 q0_a q0_b q0_c q0_rowScale q0_columnScale q0_sa q0_sb q0_sc q0_x q0_s q0_y q0_p q0_d q0_h q0_f q0_mm q0_low q0_dd q0_r q0_big q0_dt q0_dx q0_t q0_cost q0_rowScaleNow q0_columnScaleNow q0_basic q0_text q0_turned q0_na q0_nb q0_nc vq0_m vq0_n vq0_length vq0_where vq0_effort vq0_thrown vq0_at vq0_scaled vq0_solved vq0_second vq0_nm vq0_nn vq0_number vq0_bad vq0_a vq0_b vq0_c) (runOS (As := [.int x2, .int 0, .int (vq0_m - 1)]) (rest := [.ref q0]) ((c_M_in l D T   x2 0 (vq0_m - 1) u18 hu18) H.size) ⟨hx, hb, hml, hown, hts⟩ (cwOS bw785 bw786 bw105 bw787 dd_M_in hts ⟨Nat.le_of_ble_eq_true rfl, Nat.le_of_ble_eq_true rfl⟩)  hNW hK hP hD [] jj19.1 (by decide) rfl hl.1 rfl (lv_room (Nat.le_of_ble_eq_true rfl)) d_M_set_70 ⟨Nat.le_of_ble_eq_true rfl, Nat.le_of_ble_eq_true rfl⟩) hP hD hS hA [] [0, 1, 2, 3] jj19.1 jj19.2.1 jj19.2.2.1 (N := 4) jj19.2.2.2.2 (by decide) jj19.2.2.2.1 (fun H locs hP hD hS => ?_)
      refine lv_if_eq (tgt := 95) hx hb d_M_set_73 (by decide) (fun c20 => ?_) (fun c20 => ?_)
      · have h := it_t c20 h
        exact J95 vq0_thrown vq0_solved vq0_a vq0_b vq0_c x1 x2 x3 x4 H locs ls hP hD hS (lv_sub hl [0, 1, 2, 3, 4] rfl) h
      · have h := it_f c20 h
        exact J76 vq0_thrown vq0_solved vq0_a vq0_b vq0_c x1 x2 x3 x4 H locs ls hP hD hS (lv_sub hl [0, 1, 2, 3, 4] rfl) h
  have J53 : ∀ (vq0_thrown : Int32) (vq0_solved : Int32) (vq0_a : Nat → UInt64) (vq0_b : Nat → UInt64) (vq0_c : Nat → UInt64) (x1 : Int32) (x2 : Int32) (x3 : Int32) (x4 : UInt64), ∀ (H : Heap) (locs : List Loc) (ls : Array Slot), va_P D CL (w_M_set T q0 q0_a q0_b q0_c q0_rowScale q0_columnScale q0_sa q0_sb q0_sc q0_x q0_s q0_y q0_p q0_d q0_h q0_f q0_mm q0_low q0_dd q0_r q0_big q0_dt q0_dx q0_t q0_cost q0_rowScaleNow q0_columnScaleNow q0_basic q0_text q0_turned q0_na q0_nb q0_nc vq0_m vq0_n vq0_length vq0_where vq0_effort vq0_thrown vq0_at vq0_scaled vq0_solved vq0_second vq0_nm vq0_nn vq0_number vq0_bad vq0_a vq0_b vq0_c) H → va_D A (w_M_set T q0 q0_a q0_b q0_c q0_rowScale q0_columnScale q0_sa q0_sb q0_sc q0_x q0_s q0_y q0_p q0_d q0_h q0_f q0_mm q0_low q0_dd q0_r q0_big q0_dt q0_dx q0_t q0_cost q0_rowScaleNow q0_columnScaleNow q0_basic q0_text q0_turned q0_na q0_nb q0_nc vq0_m vq0_n vq0_length vq0_where vq0_effort vq0_thrown vq0_at vq0_scaled vq0_solved vq0_second vq0_nm vq0_nn vq0_number vq0_bad vq0_a vq0_b vq0_c) → va_S A s.heap H locs → lv_has ls 8 [(0, .ref q0), (1, .int x1), (2, .int x2), (3, .int x3), (4, .double x4)] → s_M_set_J53 vq0_m vq0_n vq0_length vq0_where vq0_effort vq0_thrown vq0_at vq0_scaled vq0_solved vq0_second vq0_nm vq0_nn vq0_number vq0_bad vq0_a vq0_b vq0_c x1 x2 x3 x4 = some rm → W p l e (rmk 1 22) s m args below meth c H locs 0 0 Q (F0 m 53 ls [.ref q0]) := by
    intro vq0_thrown vq0_solved vq0_a vq0_b vq0_c x1 x2 x3 x4 H locs ls hP hD hS hl h
    unfold s_M_set_J53 at h
    refine lv_iconst (v := 1) hx hb d_M_set_53 (by decide) ?_
    refine lv_goto (tgt := 100) hx hb d_M_set_54 (by decide) ?_
    exact J100 vq0_thrown vq0_solved vq0_a vq0_b vq0_c x1 x2 x3 x4 1 H locs ls hP hD hS (lv_sub hl [0, 1, 2, 3, 4] rfl) h
  unfold s_M_set at h
  refine lv_aload_n hx hb d_M_set_0 rfl (lv_at hl 0 rfl) ?_
  refine lv_iload_n hx hb d_M_set_1 rfl (lv_at hl 1 rfl) ?_
  refine lv_iconst (v := 0) hx hb d_M_set_2 (by decide) ?_
  refine lv_iconst (v := 2) hx hb d_M_set_3 (by decide) ?_
  obtain ⟨u21, hu21, h⟩ := bi_some h
  have jj22 := j_M_set_4 T q0 q0_a q0_b q0_c q0_rowScale q0_columnScale q0_sa q0_sb q0_sc q0_x q0_s q0_y q0_p q0_d q0_h q0_f q0_mm q0_low q0_dd q0_r q0_big q0_dt q0_dx q0_t q0_cost q0_rowScaleNow q0_columnScaleNow q0_basic q0_text q0_turned q0_na q0_nb q0_nc vq0_m vq0_n vq0_length vq0_where vq0_effort vq0_thrown vq0_at vq0_scaled vq0_solved vq0_second vq0_nm vq0_nn vq0_number vq0_bad vq0_a vq0_b vq0_c
  refine kI2 (v := u21) (wc := (w_M_in T  )) (wc' := (w_M_in T  )) (w_M_set T q0 q0_a q0_b q0_c q0_rowScale q0_columnScale q0_sa q0_sb q0_sc q0_x q0_s q0_y q0_p q0_d q0_h q0_f q0_mm q0_low q0_dd q0_r q0_big q0_dt q0_dx q0_t q0_cost q0_rowScaleNow q0_columnScaleNow q0_basic q0_text q0_turned q0_na q0_nb q0_nc vq0_m vq0_n vq0_length vq0_where vq0_effort vq0_thrown vq0_at vq0_scaled vq0_solved vq0_second vq0_nm vq0_nn vq0_number vq0_bad vq0_a vq0_b vq0_c) (runOS (As := [.int x1, .int 0, .int 2]) (rest := [.ref q0]) ((c_M_in l D T   x1 0 2 u21 hu21) H.size) ⟨hx, hb, hml, hown, hts⟩ (cwOS bw785 bw786 bw105 bw787 dd_M_in hts ⟨Nat.le_of_ble_eq_true rfl, Nat.le_of_ble_eq_true rfl⟩)  hNW hK hP hD [] jj22.1 (by decide) rfl hl.1 rfl (lv_room (Nat.le_of_ble_eq_true rfl)) d_M_set_4 ⟨Nat.le_of_ble_eq_true rfl, Nat.le_of_ble_eq_true rfl⟩) hP hD hS hA [] [0, 1, 2, 3] jj22.1 jj22.2.1 jj22.2.2.1 (N := 4) jj22.2.2.2.2 (by decide) jj22.2.2.2.1 (fun H locs hP hD hS => ?_)
  refine lv_if_eq (tgt := 53) hx hb d_M_set_7 (by decide) (fun c23 => ?_) (fun c23 => ?_)
  · have h := it_t c23 h
    exact J53 vq0_thrown vq0_solved vq0_a vq0_b vq0_c x1 x2 x3 x4 H locs ls hP hD hS (lv_sub hl [0, 1, 2, 3, 4] rfl) h
  · have h := it_f c23 h
    refine lv_dload hx hb d_M_set_10 (lv_at hl 4 rfl) ?_
    refine lv_ldc2d (v := 4652007308841189376) hx hb hown (hts _ (bgc bw792)) d_M_set_12 ?_
    refine lv_dcmp hx hb d_M_set_15 ?_
    refine lv_if_gt (tgt := 53) hx hb d_M_set_16 (by decide) (fun c24 => ?_) (fun c24 => ?_)
    · have h := it_t c24 h
      exact J53 vq0_thrown vq0_solved vq0_a vq0_b vq0_c x1 x2 x3 x4 H locs ls hP hD hS (lv_sub hl [0, 1, 2, 3, 4] rfl) h
    · have h := it_f c24 h
      refine lv_dload hx hb d_M_set_19 (lv_at hl 4 rfl) ?_
      refine lv_ldc2d (v := 13875379345695965184) hx hb hown (hts _ (bgc bw793)) d_M_set_21 ?_
      refine lv_dcmp hx hb d_M_set_24 ?_
      refine lv_if_lt (tgt := 53) hx hb d_M_set_25 (by decide) (fun c25 => ?_) (fun c25 => ?_)
      · have h := it_t c25 h
        exact J53 vq0_thrown vq0_solved vq0_a vq0_b vq0_c x1 x2 x3 x4 H locs ls hP hD hS (lv_sub hl [0, 1, 2, 3, 4] rfl) h
      · have h := it_f c25 h
        refine lv_dload hx hb d_M_set_28 (lv_at hl 4 rfl) ?_
        refine lv_dconst0 hx hb d_M_set_30 ?_
        refine lv_dcmp hx hb d_M_set_31 ?_
        refine lv_if_eq (tgt := 57) hx hb d_M_set_32 (by decide) (fun c26 => ?_) (fun c26 => ?_)
        · have h := it_t c26 h
          exact J57 vq0_thrown vq0_solved vq0_a vq0_b vq0_c x1 x2 x3 x4 H locs ls hP hD hS (lv_sub hl [0, 1, 2, 3, 4] rfl) h
        · have h := it_f c26 h
          refine lv_dload hx hb d_M_set_35 (lv_at hl 4 rfl) ?_
          refine lv_ldc2d (v := 4517329193108106637) hx hb hown (hts _ (bgc bw794)) d_M_set_37 ?_
          refine lv_dcmp hx hb d_M_set_40 ?_
          refine lv_if_ge (tgt := 57) hx hb d_M_set_41 (by decide) (fun c27 => ?_) (fun c27 => ?_)
          · have h := it_t c27 h
            exact J57 vq0_thrown vq0_solved vq0_a vq0_b vq0_c x1 x2 x3 x4 H locs ls hP hD hS (lv_sub hl [0, 1, 2, 3, 4] rfl) h
          · have h := it_f c27 h
            refine lv_dload hx hb d_M_set_44 (lv_at hl 4 rfl) ?_
            refine lv_ldc2d (v := 13740701229962882445) hx hb hown (hts _ (bgc bw795)) d_M_set_46 ?_
            refine lv_dcmp hx hb d_M_set_49 ?_
            refine lv_if_le (tgt := 57) hx hb d_M_set_50 (by decide) (fun c28 => ?_) (fun c28 => ?_)
            · have h := it_t c28 h
              exact J57 vq0_thrown vq0_solved vq0_a vq0_b vq0_c x1 x2 x3 x4 H locs ls hP hD hS (lv_sub hl [0, 1, 2, 3, 4] rfl) h
            · have h := it_f c28 h
              exact J53 vq0_thrown vq0_solved vq0_a vq0_b vq0_c x1 x2 x3 x4 H locs ls hP hD hS (lv_sub hl [0, 1, 2, 3, 4] rfl) h
theorem d_M_scaling_0 : decode prog_10_method_8_code 0 = .ok (.aload_n 0, 1) := by decide +kernel
theorem d_M_scaling_1 : decode prog_10_method_8_code 1 = .ok (.iconst 0, 1) := by decide +kernel
theorem d_M_scaling_2 : decode prog_10_method_8_code 2 = .ok (.putfield 122, 3) := by decide +kernel
theorem d_M_scaling_5 : decode prog_10_method_8_code 5 = .ok (.aload_n 0, 1) := by decide +kernel
theorem d_M_scaling_6 : decode prog_10_method_8_code 6 = .ok (.getfield 109, 3) := by decide +kernel
theorem d_M_scaling_9 : decode prog_10_method_8_code 9 = .ok (.istore_n 2, 1) := by decide +kernel
theorem d_M_scaling_10 : decode prog_10_method_8_code 10 = .ok (.aload_n 0, 1) := by decide +kernel
theorem d_M_scaling_11 : decode prog_10_method_8_code 11 = .ok (.iload_n 1, 1) := by decide +kernel
theorem d_M_scaling_12 : decode prog_10_method_8_code 12 = .ok (.putfield 109, 3) := by decide +kernel
theorem d_M_scaling_15 : decode prog_10_method_8_code 15 = .ok (.iload_n 2, 1) := by decide +kernel
theorem d_M_scaling_16 : decode prog_10_method_8_code 16 = .ok (.ireturn, 1) := by decide +kernel
abbrev w_M_scaling (T : Nat → ClassId) (q0 : Nat) (q0_a : Nat) (q0_b : Nat) (q0_c : Nat) (q0_rowScale : Nat) (q0_columnScale : Nat) (q0_sa : Nat) (q0_sb : Nat) (q0_sc : Nat) (q0_x : Nat) (q0_s : Nat) (q0_y : Nat) (q0_p : Nat) (q0_d : Nat) (q0_h : Nat) (q0_f : Nat) (q0_mm : Nat) (q0_low : Nat) (q0_dd : Nat) (q0_r : Nat) (q0_big : Nat) (q0_dt : Nat) (q0_dx : Nat) (q0_t : Nat) (q0_cost : Nat) (q0_rowScaleNow : Nat) (q0_columnScaleNow : Nat) (q0_basic : Nat) (q0_text : Nat) (q0_turned : Nat) (q0_na : Nat) (q0_nb : Nat) (q0_nc : Nat) (vq0_m : Int32) (vq0_n : Int32) (vq0_length : Int32) (vq0_where : Int32) (vq0_effort : Int32) (vq0_thrown : Int32) (vq0_at : Int32) (vq0_scaled : Int32) (vq0_solved : Int32) (vq0_second : Int32) (vq0_nm : Int32) (vq0_nn : Int32) (vq0_number : UInt64) (vq0_bad : Int32) : va_W := [(q0, .inr (8, [.ref q0_a, .ref q0_b, .ref q0_c, .ref q0_rowScale, .ref q0_columnScale, .ref q0_sa, .ref q0_sb, .ref q0_sc, .ref q0_x, .ref q0_s, .ref q0_y, .ref q0_p, .ref q0_d, .ref q0_h, .ref q0_f, .ref q0_mm, .ref q0_low, .ref q0_dd, .ref q0_r, .ref q0_big, .ref q0_dt, .ref q0_dx, .ref q0_t, .ref q0_cost, .ref q0_rowScaleNow, .ref q0_columnScaleNow, .ref q0_basic, .ref q0_text, .ref q0_turned, .int vq0_m, .int vq0_n, .int vq0_length, .int vq0_where, .int vq0_effort, .int vq0_thrown, .int vq0_at, .int vq0_scaled, .int vq0_solved, .int vq0_second, .ref q0_na, .ref q0_nb, .ref q0_nc, .int vq0_nm, .int vq0_nn, .double vq0_number, .int vq0_bad]))]
def s_M_scaling (vq0_m : Int32) (vq0_n : Int32) (vq0_length : Int32) (vq0_where : Int32) (vq0_effort : Int32) (vq0_thrown : Int32) (vq0_at : Int32) (vq0_scaled : Int32) (vq0_solved : Int32) (vq0_second : Int32) (vq0_nm : Int32) (vq0_nn : Int32) (vq0_number : UInt64) (vq0_bad : Int32) (x1 : Int32) : Option (Int32 × Int32 × Int32) :=
  gd (isb x1) <| gd (isb vq0_scaled) <| some (vq0_scaled, 0, x1)
set_option maxHeartbeats 40000000 in
set_option maxRecDepth 100000 in
theorem c_M_scaling (l : Launch) (D : va_G) (T : Nat → ClassId) (q0 : Nat) (q0_a : Nat) (q0_b : Nat) (q0_c : Nat) (q0_rowScale : Nat) (q0_columnScale : Nat) (q0_sa : Nat) (q0_sb : Nat) (q0_sc : Nat) (q0_x : Nat) (q0_s : Nat) (q0_y : Nat) (q0_p : Nat) (q0_d : Nat) (q0_h : Nat) (q0_f : Nat) (q0_mm : Nat) (q0_low : Nat) (q0_dd : Nat) (q0_r : Nat) (q0_big : Nat) (q0_dt : Nat) (q0_dx : Nat) (q0_t : Nat) (q0_cost : Nat) (q0_rowScaleNow : Nat) (q0_columnScaleNow : Nat) (q0_basic : Nat) (q0_text : Nat) (q0_turned : Nat) (q0_na : Nat) (q0_nb : Nat) (q0_nc : Nat) (vq0_m : Int32) (vq0_n : Int32) (vq0_length : Int32) (vq0_where : Int32) (vq0_effort : Int32) (vq0_thrown : Int32) (vq0_at : Int32) (vq0_scaled : Int32) (vq0_solved : Int32) (vq0_second : Int32) (vq0_nm : Int32) (vq0_nn : Int32) (vq0_number : UInt64) (vq0_bad : Int32) (x1 : Int32) (rm : Int32 × Int32 × Int32) (h : s_M_scaling vq0_m vq0_n vq0_length vq0_where vq0_effort vq0_thrown vq0_at vq0_scaled vq0_solved vq0_second vq0_nm vq0_nn vq0_number vq0_bad x1 = some rm) : CtI l y_M_scaling (Cond.code y_M_scaling prog_10_method_8_code 3 (some .boolean) :: BIG) 0 0 D T [.ref q0, .int x1] (w_M_scaling T q0 q0_a q0_b q0_c q0_rowScale q0_columnScale q0_sa q0_sb q0_sc q0_x q0_s q0_y q0_p q0_d q0_h q0_f q0_mm q0_low q0_dd q0_r q0_big q0_dt q0_dx q0_t q0_cost q0_rowScaleNow q0_columnScaleNow q0_basic q0_text q0_turned q0_na q0_nb q0_nc vq0_m vq0_n vq0_length vq0_where vq0_effort vq0_thrown vq0_at vq0_scaled vq0_solved vq0_second vq0_nm vq0_nn vq0_number vq0_bad) (fun r => r.1) (fun r => (w_M_scaling T q0 q0_a q0_b q0_c q0_rowScale q0_columnScale q0_sa q0_sb q0_sc q0_x q0_s q0_y q0_p q0_d q0_h q0_f q0_mm q0_low q0_dd q0_r q0_big q0_dt q0_dx q0_t q0_cost q0_rowScaleNow q0_columnScaleNow q0_basic q0_text q0_turned q0_na q0_nb q0_nc vq0_m vq0_n vq0_length vq0_where vq0_effort r.2.1 vq0_at r.2.2 vq0_solved vq0_second vq0_nm vq0_nn vq0_number vq0_bad)) rm := by
  refine cf_entry (y := y_M_scaling) (cc := prog_10_method_8_code) (nL := 3) (ret := (some .boolean)) (fr := 0) (lo := 0) (T := T) (av := [.ref q0, .int x1]) (w := (w_M_scaling T q0 q0_a q0_b q0_c q0_rowScale q0_columnScale q0_sa q0_sb q0_sc q0_x q0_s q0_y q0_p q0_d q0_h q0_f q0_mm q0_low q0_dd q0_r q0_big q0_dt q0_dx q0_t q0_cost q0_rowScaleNow q0_columnScaleNow q0_basic q0_text q0_turned q0_na q0_nb q0_nc vq0_m vq0_n vq0_length vq0_where vq0_effort vq0_thrown vq0_at vq0_scaled vq0_solved vq0_second vq0_nm vq0_nn vq0_number vq0_bad)) (Qc := cfQi D (fun r => r.1) (fun r => (w_M_scaling T q0 q0_a q0_b q0_c q0_rowScale q0_columnScale q0_sa q0_sb q0_sc q0_x q0_s q0_y q0_p q0_d q0_h q0_f q0_mm q0_low q0_dd q0_r q0_big q0_dt q0_dx q0_t q0_cost q0_rowScaleNow q0_columnScaleNow q0_basic q0_text q0_turned q0_na q0_nb q0_nc vq0_m vq0_n vq0_length vq0_where vq0_effort r.2.1 vq0_at r.2.2 vq0_solved vq0_second vq0_nm vq0_nn vq0_number vq0_bad)) rm) (by decide) rfl (Nat.le_of_ble_eq_true rfl) ?_
  intro p e s m args below meth c A Q H locs ls hx hb hr hlocks hml hown hts hNW hK hA hQ hP hD hS hl
  have hown : s.vm.findClass "ConeForgeModel" = some m.cls := hown
  have hl : lv_has ls 3 [(0, .ref q0), (1, .int x1)] := hl
  unfold s_M_scaling at h
  refine lv_aload_n hx hb d_M_scaling_0 rfl (lv_at hl 0 rfl) ?_
  refine lv_iconst (v := 0) hx hb d_M_scaling_1 (by decide) ?_
  refine va_put (D := D) (ci := 8) (v := .int 0) (ty := .int) (C := "ConeForgeModel") (T := FM) (N := 46) hx hb hts iM tM tM_ok nmM hown hK hP hD hS 0 rfl rfl 34 (by decide) (hts _ (bgc bw718)) (fun _ h9 => h9) rfl (by decide +kernel) rfl rfl (Nat.le_of_ble_eq_true rfl) d_M_scaling_2 (fun H locs hP hD hS => ?_)
  have hP : va_P D CL (w_M_scaling T q0 q0_a q0_b q0_c q0_rowScale q0_columnScale q0_sa q0_sb q0_sc q0_x q0_s q0_y q0_p q0_d q0_h q0_f q0_mm q0_low q0_dd q0_r q0_big q0_dt q0_dx q0_t q0_cost q0_rowScaleNow q0_columnScaleNow q0_basic q0_text q0_turned q0_na q0_nb q0_nc vq0_m vq0_n vq0_length vq0_where vq0_effort 0 vq0_at vq0_scaled vq0_solved vq0_second vq0_nm vq0_nn vq0_number vq0_bad) H := hP
  have hD : va_D A (w_M_scaling T q0 q0_a q0_b q0_c q0_rowScale q0_columnScale q0_sa q0_sb q0_sc q0_x q0_s q0_y q0_p q0_d q0_h q0_f q0_mm q0_low q0_dd q0_r q0_big q0_dt q0_dx q0_t q0_cost q0_rowScaleNow q0_columnScaleNow q0_basic q0_text q0_turned q0_na q0_nb q0_nc vq0_m vq0_n vq0_length vq0_where vq0_effort 0 vq0_at vq0_scaled vq0_solved vq0_second vq0_nm vq0_nn vq0_number vq0_bad) := hD
  refine lv_aload_n hx hb d_M_scaling_5 rfl (lv_at hl 0 rfl) ?_
  refine va_get (D := D) (ci := 8) (v := .int vq0_scaled) (C := "ConeForgeModel") (T := FM) (N := 46) hx hb hts iM hown hK hP 0 rfl rfl 36 (by decide) (hts _ (bgc bw720)) (fun _ h9 => h9) rfl d_M_scaling_6 ?_
  refine lv_istore_n (lv' := [(2, .int vq0_scaled), (0, .ref q0), (1, .int x1)]) hx hb d_M_scaling_9 rfl hl (by decide) rfl (fun ls hl => ?_)
  refine lv_aload_n hx hb d_M_scaling_10 rfl (lv_at hl 1 rfl) ?_
  refine lv_iload_n hx hb d_M_scaling_11 rfl (lv_at hl 2 rfl) ?_
  obtain ⟨g1, h⟩ := gd_some h
  refine va_put (D := D) (ci := 8) (v := .int x1) (ty := .boolean) (C := "ConeForgeModel") (T := FM) (N := 46) hx hb hts iM tM tM_ok nmM hown hK hP hD hS 0 rfl rfl 36 (by decide) (hts _ (bgc bw720)) (fun _ h9 => h9) rfl (by decide +kernel) (isb_n g1) (isb_f g1) (Nat.le_of_ble_eq_true rfl) d_M_scaling_12 (fun H locs hP hD hS => ?_)
  have hP : va_P D CL (w_M_scaling T q0 q0_a q0_b q0_c q0_rowScale q0_columnScale q0_sa q0_sb q0_sc q0_x q0_s q0_y q0_p q0_d q0_h q0_f q0_mm q0_low q0_dd q0_r q0_big q0_dt q0_dx q0_t q0_cost q0_rowScaleNow q0_columnScaleNow q0_basic q0_text q0_turned q0_na q0_nb q0_nc vq0_m vq0_n vq0_length vq0_where vq0_effort 0 vq0_at x1 vq0_solved vq0_second vq0_nm vq0_nn vq0_number vq0_bad) H := hP
  have hD : va_D A (w_M_scaling T q0 q0_a q0_b q0_c q0_rowScale q0_columnScale q0_sa q0_sb q0_sc q0_x q0_s q0_y q0_p q0_d q0_h q0_f q0_mm q0_low q0_dd q0_r q0_big q0_dt q0_dx q0_t q0_cost q0_rowScaleNow q0_columnScaleNow q0_basic q0_text q0_turned q0_na q0_nb q0_nc vq0_m vq0_n vq0_length vq0_where vq0_effort 0 vq0_at x1 vq0_solved vq0_second vq0_nm vq0_nn vq0_number vq0_bad) := hD
  refine lv_iload_n hx hb d_M_scaling_15 rfl (lv_at hl 0 rfl) ?_
  obtain ⟨g2, h⟩ := gd_some h
  exact rtZ hx hb hr hlocks g2 hQ (Option.some.inj h) hP hS d_M_scaling_16 rfl rfl
theorem d_M_text_0 : decode prog_10_method_9_code 0 = .ok (.iconst 0, 1) := by decide +kernel
theorem d_M_text_1 : decode prog_10_method_9_code 1 = .ok (.istore_n 3, 1) := by decide +kernel
theorem d_M_text_2 : decode prog_10_method_9_code 2 = .ok (.iconst 1, 1) := by decide +kernel
theorem d_M_text_3 : decode prog_10_method_9_code 3 = .ok (.istore 4, 2) := by decide +kernel
theorem d_M_text_5 : decode prog_10_method_9_code 5 = .ok (.bipush 56, 2) := by decide +kernel
theorem d_M_text_7 : decode prog_10_method_9_code 7 = .ok (.istore 5, 2) := by decide +kernel
theorem d_M_text_9 : decode prog_10_method_9_code 9 = .ok (.iload 5, 2) := by decide +kernel
theorem d_M_text_11 : decode prog_10_method_9_code 11 = .ok (.ifCond .lt 53, 3) := by decide +kernel
theorem d_M_text_14 : decode prog_10_method_9_code 14 = .ok (.lload_n 1, 1) := by decide +kernel
theorem d_M_text_15 : decode prog_10_method_9_code 15 = .ok (.iload 5, 2) := by decide +kernel
theorem d_M_text_17 : decode prog_10_method_9_code 17 = .ok (.lshr, 1) := by decide +kernel
theorem d_M_text_18 : decode prog_10_method_9_code 18 = .ok (.l2i, 1) := by decide +kernel
theorem d_M_text_19 : decode prog_10_method_9_code 19 = .ok (.sipush 255, 3) := by decide +kernel
theorem d_M_text_22 : decode prog_10_method_9_code 22 = .ok (.iand, 1) := by decide +kernel
theorem d_M_text_23 : decode prog_10_method_9_code 23 = .ok (.istore 6, 2) := by decide +kernel
theorem d_M_text_25 : decode prog_10_method_9_code 25 = .ok (.iload 6, 2) := by decide +kernel
theorem d_M_text_27 : decode prog_10_method_9_code 27 = .ok (.ifCond .ne 6, 3) := by decide +kernel
theorem d_M_text_30 : decode prog_10_method_9_code 30 = .ok (.goto 28, 3) := by decide +kernel
theorem d_M_text_33 : decode prog_10_method_9_code 33 = .ok (.iload 6, 2) := by decide +kernel
theorem d_M_text_35 : decode prog_10_method_9_code 35 = .ok (.bipush 10, 2) := by decide +kernel
theorem d_M_text_37 : decode prog_10_method_9_code 37 = .ok (.if_icmp .eq 18, 3) := by decide +kernel
theorem d_M_text_40 : decode prog_10_method_9_code 40 = .ok (.iload 6, 2) := by decide +kernel
theorem d_M_text_42 : decode prog_10_method_9_code 42 = .ok (.bipush 32, 2) := by decide +kernel
theorem d_M_text_44 : decode prog_10_method_9_code 44 = .ok (.bipush 126, 2) := by decide +kernel
theorem d_M_text_46 : decode prog_10_method_9_code 46 = .ok (.invokestatic 125, 3) := by decide +kernel
theorem d_M_text_49 : decode prog_10_method_9_code 49 = .ok (.ifCond .ne 6, 3) := by decide +kernel
theorem d_M_text_52 : decode prog_10_method_9_code 52 = .ok (.iconst 0, 1) := by decide +kernel
theorem d_M_text_53 : decode prog_10_method_9_code 53 = .ok (.istore 4, 2) := by decide +kernel
theorem d_M_text_55 : decode prog_10_method_9_code 55 = .ok (.iinc 3 1, 3) := by decide +kernel
theorem d_M_text_58 : decode prog_10_method_9_code 58 = .ok (.iinc 5 (-8), 3) := by decide +kernel
theorem d_M_text_61 : decode prog_10_method_9_code 61 = .ok (.goto (-52), 3) := by decide +kernel
theorem d_M_text_64 : decode prog_10_method_9_code 64 = .ok (.aload_n 0, 1) := by decide +kernel
theorem d_M_text_65 : decode prog_10_method_9_code 65 = .ok (.iload 4, 2) := by decide +kernel
theorem d_M_text_67 : decode prog_10_method_9_code 67 = .ok (.ifCond .ne 7, 3) := by decide +kernel
theorem d_M_text_70 : decode prog_10_method_9_code 70 = .ok (.iconst 1, 1) := by decide +kernel
theorem d_M_text_71 : decode prog_10_method_9_code 71 = .ok (.goto 20, 3) := by decide +kernel
theorem d_M_text_74 : decode prog_10_method_9_code 74 = .ok (.aload_n 0, 1) := by decide +kernel
theorem d_M_text_75 : decode prog_10_method_9_code 75 = .ok (.getfield 140, 3) := by decide +kernel
theorem d_M_text_78 : decode prog_10_method_9_code 78 = .ok (.iload_n 3, 1) := by decide +kernel
theorem d_M_text_79 : decode prog_10_method_9_code 79 = .ok (.iadd, 1) := by decide +kernel
theorem d_M_text_80 : decode prog_10_method_9_code 80 = .ok (.sipush 300, 3) := by decide +kernel
theorem d_M_text_83 : decode prog_10_method_9_code 83 = .ok (.if_icmp .le 7, 3) := by decide +kernel
theorem d_M_text_86 : decode prog_10_method_9_code 86 = .ok (.iconst 2, 1) := by decide +kernel
theorem d_M_text_87 : decode prog_10_method_9_code 87 = .ok (.goto 4, 3) := by decide +kernel
theorem d_M_text_90 : decode prog_10_method_9_code 90 = .ok (.iconst 0, 1) := by decide +kernel
theorem d_M_text_91 : decode prog_10_method_9_code 91 = .ok (.putfield 122, 3) := by decide +kernel
theorem d_M_text_94 : decode prog_10_method_9_code 94 = .ok (.aload_n 0, 1) := by decide +kernel
theorem d_M_text_95 : decode prog_10_method_9_code 95 = .ok (.getfield 122, 3) := by decide +kernel
theorem d_M_text_98 : decode prog_10_method_9_code 98 = .ok (.ifCond .le 5, 3) := by decide +kernel
theorem d_M_text_101 : decode prog_10_method_9_code 101 = .ok (.iconst 0, 1) := by decide +kernel
theorem d_M_text_102 : decode prog_10_method_9_code 102 = .ok (.ireturn, 1) := by decide +kernel
theorem d_M_text_103 : decode prog_10_method_9_code 103 = .ok (.bipush 56, 2) := by decide +kernel
theorem d_M_text_105 : decode prog_10_method_9_code 105 = .ok (.istore 5, 2) := by decide +kernel
theorem d_M_text_107 : decode prog_10_method_9_code 107 = .ok (.iload 5, 2) := by decide +kernel
theorem d_M_text_109 : decode prog_10_method_9_code 109 = .ok (.ifCond .lt 49, 3) := by decide +kernel
theorem d_M_text_112 : decode prog_10_method_9_code 112 = .ok (.lload_n 1, 1) := by decide +kernel
theorem d_M_text_113 : decode prog_10_method_9_code 113 = .ok (.iload 5, 2) := by decide +kernel
theorem d_M_text_115 : decode prog_10_method_9_code 115 = .ok (.lshr, 1) := by decide +kernel
theorem d_M_text_116 : decode prog_10_method_9_code 116 = .ok (.l2i, 1) := by decide +kernel
theorem d_M_text_117 : decode prog_10_method_9_code 117 = .ok (.sipush 255, 3) := by decide +kernel
theorem d_M_text_120 : decode prog_10_method_9_code 120 = .ok (.iand, 1) := by decide +kernel
theorem d_M_text_121 : decode prog_10_method_9_code 121 = .ok (.istore 6, 2) := by decide +kernel
theorem d_M_text_123 : decode prog_10_method_9_code 123 = .ok (.iload 6, 2) := by decide +kernel
theorem d_M_text_125 : decode prog_10_method_9_code 125 = .ok (.ifCond .ne 6, 3) := by decide +kernel
theorem d_M_text_128 : decode prog_10_method_9_code 128 = .ok (.goto 24, 3) := by decide +kernel
theorem d_M_text_131 : decode prog_10_method_9_code 131 = .ok (.aload_n 0, 1) := by decide +kernel
theorem d_M_text_132 : decode prog_10_method_9_code 132 = .ok (.getfield 92, 3) := by decide +kernel
theorem d_M_text_135 : decode prog_10_method_9_code 135 = .ok (.aload_n 0, 1) := by decide +kernel
theorem d_M_text_136 : decode prog_10_method_9_code 136 = .ok (.getfield 140, 3) := by decide +kernel
theorem d_M_text_139 : decode prog_10_method_9_code 139 = .ok (.iload 6, 2) := by decide +kernel
theorem d_M_text_141 : decode prog_10_method_9_code 141 = .ok (.iastore, 1) := by decide +kernel
theorem d_M_text_142 : decode prog_10_method_9_code 142 = .ok (.aload_n 0, 1) := by decide +kernel
theorem d_M_text_143 : decode prog_10_method_9_code 143 = .ok (.dup, 1) := by decide +kernel
theorem d_M_text_144 : decode prog_10_method_9_code 144 = .ok (.getfield 140, 3) := by decide +kernel
theorem d_M_text_147 : decode prog_10_method_9_code 147 = .ok (.iconst 1, 1) := by decide +kernel
theorem d_M_text_148 : decode prog_10_method_9_code 148 = .ok (.iadd, 1) := by decide +kernel
theorem d_M_text_149 : decode prog_10_method_9_code 149 = .ok (.putfield 140, 3) := by decide +kernel
theorem d_M_text_152 : decode prog_10_method_9_code 152 = .ok (.iinc 5 (-8), 3) := by decide +kernel
theorem d_M_text_155 : decode prog_10_method_9_code 155 = .ok (.goto (-48), 3) := by decide +kernel
theorem d_M_text_158 : decode prog_10_method_9_code 158 = .ok (.aload_n 0, 1) := by decide +kernel
theorem d_M_text_159 : decode prog_10_method_9_code 159 = .ok (.getfield 140, 3) := by decide +kernel
theorem d_M_text_162 : decode prog_10_method_9_code 162 = .ok (.ireturn, 1) := by decide +kernel
abbrev w_M_text (T : Nat → ClassId) (q0 : Nat) (q0_a : Nat) (q0_b : Nat) (q0_c : Nat) (q0_rowScale : Nat) (q0_columnScale : Nat) (q0_sa : Nat) (q0_sb : Nat) (q0_sc : Nat) (q0_x : Nat) (q0_s : Nat) (q0_y : Nat) (q0_p : Nat) (q0_d : Nat) (q0_h : Nat) (q0_f : Nat) (q0_mm : Nat) (q0_low : Nat) (q0_dd : Nat) (q0_r : Nat) (q0_big : Nat) (q0_dt : Nat) (q0_dx : Nat) (q0_t : Nat) (q0_cost : Nat) (q0_rowScaleNow : Nat) (q0_columnScaleNow : Nat) (q0_basic : Nat) (q0_text : Nat) (q0_turned : Nat) (q0_na : Nat) (q0_nb : Nat) (q0_nc : Nat) (vq0_m : Int32) (vq0_n : Int32) (vq0_length : Int32) (vq0_where : Int32) (vq0_effort : Int32) (vq0_thrown : Int32) (vq0_at : Int32) (vq0_scaled : Int32) (vq0_solved : Int32) (vq0_second : Int32) (vq0_nm : Int32) (vq0_nn : Int32) (vq0_number : UInt64) (vq0_bad : Int32) (vq0_text : Nat → Int32) : va_W := [(q0, .inr (8, [.ref q0_a, .ref q0_b, .ref q0_c, .ref q0_rowScale, .ref q0_columnScale, .ref q0_sa, .ref q0_sb, .ref q0_sc, .ref q0_x, .ref q0_s, .ref q0_y, .ref q0_p, .ref q0_d, .ref q0_h, .ref q0_f, .ref q0_mm, .ref q0_low, .ref q0_dd, .ref q0_r, .ref q0_big, .ref q0_dt, .ref q0_dx, .ref q0_t, .ref q0_cost, .ref q0_rowScaleNow, .ref q0_columnScaleNow, .ref q0_basic, .ref q0_text, .ref q0_turned, .int vq0_m, .int vq0_n, .int vq0_length, .int vq0_where, .int vq0_effort, .int vq0_thrown, .int vq0_at, .int vq0_scaled, .int vq0_solved, .int vq0_second, .ref q0_na, .ref q0_nb, .ref q0_nc, .int vq0_nm, .int vq0_nn, .double vq0_number, .int vq0_bad])), (q0_text, .inl (T 1, 300, .inl vq0_text))]
def s_M_text_J152 (vq0_m : Int32) (vq0_n : Int32) (vq0_length : Int32) (vq0_where : Int32) (vq0_effort : Int32) (vq0_thrown : Int32) (vq0_at : Int32) (vq0_scaled : Int32) (vq0_solved : Int32) (vq0_second : Int32) (vq0_nm : Int32) (vq0_nn : Int32) (vq0_number : UInt64) (vq0_bad : Int32) (vq0_text : Nat → Int32) (x1 : Int64) (x5 : Int32) : Option ((Int32 × (Nat → Int32) × Int32) ⊕ (Int32 × (Nat → Int32))) :=
  some (.inl (vq0_length, vq0_text, x5 + (-8)))
def s_M_text_B107 (vq0_m : Int32) (vq0_n : Int32) (vq0_where : Int32) (vq0_effort : Int32) (vq0_thrown : Int32) (vq0_at : Int32) (vq0_scaled : Int32) (vq0_solved : Int32) (vq0_second : Int32) (vq0_nm : Int32) (vq0_nn : Int32) (vq0_number : UInt64) (vq0_bad : Int32) (x1 : Int64) (vq0_length : Int32) (vq0_text : Nat → Int32) (x5 : Int32) : Option ((Int32 × (Nat → Int32) × Int32) ⊕ (Int32 × (Nat → Int32))) :=
  if x5 < 0 then (some (.inr (vq0_length, vq0_text))) else (if (((x1 >>> (x5.toInt64 &&& 63)).toInt32) &&& 255) = 0 then (s_M_text_J152 vq0_m vq0_n vq0_length vq0_where vq0_effort vq0_thrown vq0_at vq0_scaled vq0_solved vq0_second vq0_nm vq0_nn vq0_number vq0_bad vq0_text x1 x5) else (gd (inb vq0_length 300) <| s_M_text_J152 vq0_m vq0_n (vq0_length + 1) vq0_where vq0_effort vq0_thrown vq0_at vq0_scaled vq0_solved vq0_second vq0_nm vq0_nn vq0_number vq0_bad (upd vq0_text vq0_length.toNatClampNeg (((x1 >>> (x5.toInt64 &&& 63)).toInt32) &&& 255)) x1 x5))
def s_M_text_L107 (vq0_m : Int32) (vq0_n : Int32) (vq0_length : Int32) (vq0_where : Int32) (vq0_effort : Int32) (vq0_thrown : Int32) (vq0_at : Int32) (vq0_scaled : Int32) (vq0_solved : Int32) (vq0_second : Int32) (vq0_nm : Int32) (vq0_nn : Int32) (vq0_number : UInt64) (vq0_bad : Int32) (vq0_text : Nat → Int32) (x1 : Int64) (x5 : Int32) : Option (Int32 × Int32 × Int32 × (Nat → Int32)) :=
  (loopO (fun (st : Int32 × (Nat → Int32) × Int32) => s_M_text_B107 vq0_m vq0_n vq0_where vq0_effort vq0_thrown vq0_at vq0_scaled vq0_solved vq0_second vq0_nm vq0_nn vq0_number vq0_bad x1 st.1 st.2.1 st.2.2) 2000 (vq0_length, vq0_text, x5)).bind fun ul107 => some (ul107.1, ul107.1, vq0_thrown, ul107.2)
def s_M_text_J91 (vq0_m : Int32) (vq0_n : Int32) (vq0_length : Int32) (vq0_where : Int32) (vq0_effort : Int32) (vq0_thrown : Int32) (vq0_at : Int32) (vq0_scaled : Int32) (vq0_solved : Int32) (vq0_second : Int32) (vq0_nm : Int32) (vq0_nn : Int32) (vq0_number : UInt64) (vq0_bad : Int32) (vq0_text : Nat → Int32) (x1 : Int64) (y1 : Int32) : Option (Int32 × Int32 × Int32 × (Nat → Int32)) :=
  if y1 ≤ 0 then (s_M_text_L107 vq0_m vq0_n vq0_length vq0_where vq0_effort y1 vq0_at vq0_scaled vq0_solved vq0_second vq0_nm vq0_nn vq0_number vq0_bad vq0_text x1 56) else (some (0, vq0_length, y1, vq0_text))
def s_M_text_J58 (vq0_m : Int32) (vq0_n : Int32) (vq0_length : Int32) (vq0_where : Int32) (vq0_effort : Int32) (vq0_thrown : Int32) (vq0_at : Int32) (vq0_scaled : Int32) (vq0_solved : Int32) (vq0_second : Int32) (vq0_nm : Int32) (vq0_nn : Int32) (vq0_number : UInt64) (vq0_bad : Int32) (vq0_text : Nat → Int32) (x1 : Int64) (x3 : Int32) (x4 : Int32) (x5 : Int32) : Option ((Int32 × Int32 × Int32) ⊕ (Int32 × Int32)) :=
  some (.inl (x3, x4, x5 + (-8)))
def s_M_text_J55 (vq0_m : Int32) (vq0_n : Int32) (vq0_length : Int32) (vq0_where : Int32) (vq0_effort : Int32) (vq0_thrown : Int32) (vq0_at : Int32) (vq0_scaled : Int32) (vq0_solved : Int32) (vq0_second : Int32) (vq0_nm : Int32) (vq0_nn : Int32) (vq0_number : UInt64) (vq0_bad : Int32) (vq0_text : Nat → Int32) (x1 : Int64) (x3 : Int32) (x4 : Int32) (x5 : Int32) : Option ((Int32 × Int32 × Int32) ⊕ (Int32 × Int32)) :=
  s_M_text_J58 vq0_m vq0_n vq0_length vq0_where vq0_effort vq0_thrown vq0_at vq0_scaled vq0_solved vq0_second vq0_nm vq0_nn vq0_number vq0_bad vq0_text x1 (x3 + 1) x4 x5
def s_M_text_B9 (vq0_m : Int32) (vq0_n : Int32) (vq0_length : Int32) (vq0_where : Int32) (vq0_effort : Int32) (vq0_thrown : Int32) (vq0_at : Int32) (vq0_scaled : Int32) (vq0_solved : Int32) (vq0_second : Int32) (vq0_nm : Int32) (vq0_nn : Int32) (vq0_number : UInt64) (vq0_bad : Int32) (vq0_text : Nat → Int32) (x1 : Int64) (x3 : Int32) (x4 : Int32) (x5 : Int32) : Option ((Int32 × Int32 × Int32) ⊕ (Int32 × Int32)) :=
  if x5 < 0 then (some (.inr (x3, x4))) else (if (((x1 >>> (x5.toInt64 &&& 63)).toInt32) &&& 255) = 0 then (s_M_text_J58 vq0_m vq0_n vq0_length vq0_where vq0_effort vq0_thrown vq0_at vq0_scaled vq0_solved vq0_second vq0_nm vq0_nn vq0_number vq0_bad vq0_text x1 x3 x4 x5) else (if (((x1 >>> (x5.toInt64 &&& 63)).toInt32) &&& 255) = 10 then (s_M_text_J55 vq0_m vq0_n vq0_length vq0_where vq0_effort vq0_thrown vq0_at vq0_scaled vq0_solved vq0_second vq0_nm vq0_nn vq0_number vq0_bad vq0_text x1 x3 x4 x5) else ((s_M_in (((x1 >>> (x5.toInt64 &&& 63)).toInt32) &&& 255) 32 126).bind fun u8 => if u8 = 0 then (s_M_text_J55 vq0_m vq0_n vq0_length vq0_where vq0_effort vq0_thrown vq0_at vq0_scaled vq0_solved vq0_second vq0_nm vq0_nn vq0_number vq0_bad vq0_text x1 x3 0 x5) else (s_M_text_J55 vq0_m vq0_n vq0_length vq0_where vq0_effort vq0_thrown vq0_at vq0_scaled vq0_solved vq0_second vq0_nm vq0_nn vq0_number vq0_bad vq0_text x1 x3 x4 x5))))
def s_M_text_L9 (vq0_m : Int32) (vq0_n : Int32) (vq0_length : Int32) (vq0_where : Int32) (vq0_effort : Int32) (vq0_thrown : Int32) (vq0_at : Int32) (vq0_scaled : Int32) (vq0_solved : Int32) (vq0_second : Int32) (vq0_nm : Int32) (vq0_nn : Int32) (vq0_number : UInt64) (vq0_bad : Int32) (vq0_text : Nat → Int32) (x1 : Int64) (x3 : Int32) (x4 : Int32) (x5 : Int32) : Option (Int32 × Int32 × Int32 × (Nat → Int32)) :=
  (loopO (fun (st : Int32 × Int32 × Int32) => s_M_text_B9 vq0_m vq0_n vq0_length vq0_where vq0_effort vq0_thrown vq0_at vq0_scaled vq0_solved vq0_second vq0_nm vq0_nn vq0_number vq0_bad vq0_text x1 st.1 st.2.1 st.2.2) 2000 (x3, x4, x5)).bind fun ul9 => if ul9.2 = 0 then (s_M_text_J91 vq0_m vq0_n vq0_length vq0_where vq0_effort vq0_thrown vq0_at vq0_scaled vq0_solved vq0_second vq0_nm vq0_nn vq0_number vq0_bad vq0_text x1 1) else (if (vq0_length + ul9.1) ≤ 300 then (s_M_text_J91 vq0_m vq0_n vq0_length vq0_where vq0_effort vq0_thrown vq0_at vq0_scaled vq0_solved vq0_second vq0_nm vq0_nn vq0_number vq0_bad vq0_text x1 0) else (s_M_text_J91 vq0_m vq0_n vq0_length vq0_where vq0_effort vq0_thrown vq0_at vq0_scaled vq0_solved vq0_second vq0_nm vq0_nn vq0_number vq0_bad vq0_text x1 2))
def s_M_text (vq0_m : Int32) (vq0_n : Int32) (vq0_length : Int32) (vq0_where : Int32) (vq0_effort : Int32) (vq0_thrown : Int32) (vq0_at : Int32) (vq0_scaled : Int32) (vq0_solved : Int32) (vq0_second : Int32) (vq0_nm : Int32) (vq0_nn : Int32) (vq0_number : UInt64) (vq0_bad : Int32) (vq0_text : Nat → Int32) (x1 : Int64) : Option (Int32 × Int32 × Int32 × (Nat → Int32)) :=
  s_M_text_L9 vq0_m vq0_n vq0_length vq0_where vq0_effort vq0_thrown vq0_at vq0_scaled vq0_solved vq0_second vq0_nm vq0_nn vq0_number vq0_bad vq0_text x1 0 1 56
set_option maxRecDepth 100000 in
theorem j_M_text_46 (T : Nat → ClassId) (q0 : Nat) (q0_a : Nat) (q0_b : Nat) (q0_c : Nat) (q0_rowScale : Nat) (q0_columnScale : Nat) (q0_sa : Nat) (q0_sb : Nat) (q0_sc : Nat) (q0_x : Nat) (q0_s : Nat) (q0_y : Nat) (q0_p : Nat) (q0_d : Nat) (q0_h : Nat) (q0_f : Nat) (q0_mm : Nat) (q0_low : Nat) (q0_dd : Nat) (q0_r : Nat) (q0_big : Nat) (q0_dt : Nat) (q0_dx : Nat) (q0_t : Nat) (q0_cost : Nat) (q0_rowScaleNow : Nat) (q0_columnScaleNow : Nat) (q0_basic : Nat) (q0_text : Nat) (q0_turned : Nat) (q0_na : Nat) (q0_nb : Nat) (q0_nc : Nat) (vq0_m : Int32) (vq0_n : Int32) (vq0_length : Int32) (vq0_where : Int32) (vq0_effort : Int32) (vq0_thrown : Int32) (vq0_at : Int32) (vq0_scaled : Int32) (vq0_solved : Int32) (vq0_second : Int32) (vq0_nm : Int32) (vq0_nn : Int32) (vq0_number : UInt64) (vq0_bad : Int32) (vq0_text : Nat → Int32) : ([].map (fun (i : Nat) => (w_M_text T q0 q0_a q0_b q0_c q0_rowScale q0_columnScale q0_sa q0_sb q0_sc q0_x q0_s q0_y q0_p q0_d q0_h q0_f q0_mm q0_low q0_dd q0_r q0_big q0_dt q0_dx q0_t q0_cost q0_rowScaleNow q0_columnScaleNow q0_basic q0_text q0_turned q0_na q0_nb q0_nc vq0_m vq0_n vq0_length vq0_where vq0_effort vq0_thrown vq0_at vq0_scaled vq0_solved vq0_second vq0_nm vq0_nn vq0_number vq0_bad vq0_text)[i]?) = (w_M_in T  ).map some) ∧ ([].map (fun (i : Nat) => (w_M_text T q0 q0_a q0_b q0_c q0_rowScale q0_columnScale q0_sa q0_sb q0_sc q0_x q0_s q0_y q0_p q0_d q0_h q0_f q0_mm q0_low q0_dd q0_r q0_big q0_dt q0_dx q0_t q0_cost q0_rowScaleNow q0_columnScaleNow q0_basic q0_text q0_turned q0_na q0_nb q0_nc vq0_m vq0_n vq0_length vq0_where vq0_effort vq0_thrown vq0_at vq0_scaled vq0_solved vq0_second vq0_nm vq0_nn vq0_number vq0_bad vq0_text)[i]?) = (w_M_in T  ).map some) ∧ ([0, 1].map (fun (i : Nat) => (w_M_text T q0 q0_a q0_b q0_c q0_rowScale q0_columnScale q0_sa q0_sb q0_sc q0_x q0_s q0_y q0_p q0_d q0_h q0_f q0_mm q0_low q0_dd q0_r q0_big q0_dt q0_dx q0_t q0_cost q0_rowScaleNow q0_columnScaleNow q0_basic q0_text q0_turned q0_na q0_nb q0_nc vq0_m vq0_n vq0_length vq0_where vq0_effort vq0_thrown vq0_at vq0_scaled vq0_solved vq0_second vq0_nm vq0_nn vq0_number vq0_bad vq0_text)[i]?) = [0, 1].map (fun (i : Nat) => (w_M_text T q0 q0_a q0_b q0_c q0_rowScale q0_columnScale q0_sa q0_sb q0_sc q0_x q0_s q0_y q0_p q0_d q0_h q0_f q0_mm q0_low q0_dd q0_r q0_big q0_dt q0_dx q0_t q0_cost q0_rowScaleNow q0_columnScaleNow q0_basic q0_text q0_turned q0_na q0_nb q0_nc vq0_m vq0_n vq0_length vq0_where vq0_effort vq0_thrown vq0_at vq0_scaled vq0_solved vq0_second vq0_nm vq0_nn vq0_number vq0_bad vq0_text)[i]?)) ∧ (w_M_in T  ).map Prod.fst = (w_M_in T  ).map Prod.fst ∧ (w_M_text T q0 q0_a q0_b q0_c q0_rowScale q0_columnScale q0_sa q0_sb q0_sc q0_x q0_s q0_y q0_p q0_d q0_h q0_f q0_mm q0_low q0_dd q0_r q0_big q0_dt q0_dx q0_t q0_cost q0_rowScaleNow q0_columnScaleNow q0_basic q0_text q0_turned q0_na q0_nb q0_nc vq0_m vq0_n vq0_length vq0_where vq0_effort vq0_thrown vq0_at vq0_scaled vq0_solved vq0_second vq0_nm vq0_nn vq0_number vq0_bad vq0_text).length = 2 :=
  ⟨rfl, rfl, Eq.trans (b := ([some (q0, .inr (8, [.ref q0_a, .ref q0_b, .ref q0_c, .ref q0_rowScale, .ref q0_columnScale, .ref q0_sa, .ref q0_sb, .ref q0_sc, .ref q0_x, .ref q0_s, .ref q0_y, .ref q0_p, .ref q0_d, .ref q0_h, .ref q0_f, .ref q0_mm, .ref q0_low, .ref q0_dd, .ref q0_r, .ref q0_big, .ref q0_dt, .ref q0_dx, .ref q0_t, .ref q0_cost, .ref q0_rowScaleNow, .ref q0_columnScaleNow, .ref q0_basic, .ref q0_text, .ref q0_turned, .int vq0_m, .int vq0_n, .int vq0_length, .int vq0_where, .int vq0_effort, .int vq0_thrown, .int vq0_at, .int vq0_scaled, .int vq0_solved, .int vq0_second, .ref q0_na, .ref q0_nb, .ref q0_nc, .int vq0_nm, .int vq0_nn, .double vq0_number, .int vq0_bad])), some (q0_text, .inl (T 1, 300, .inl vq0_text))] : List (Option (Nat × va_E)))) rfl rfl, rfl, rfl⟩
set_option maxHeartbeats 40000000 in
set_option maxRecDepth 100000 in
theorem c_M_text (l : Launch) (D : va_G) (T : Nat → ClassId) (q0 : Nat) (q0_a : Nat) (q0_b : Nat) (q0_c : Nat) (q0_rowScale : Nat) (q0_columnScale : Nat) (q0_sa : Nat) (q0_sb : Nat) (q0_sc : Nat) (q0_x : Nat) (q0_s : Nat) (q0_y : Nat) (q0_p : Nat) (q0_d : Nat) (q0_h : Nat) (q0_f : Nat) (q0_mm : Nat) (q0_low : Nat) (q0_dd : Nat) (q0_r : Nat) (q0_big : Nat) (q0_dt : Nat) (q0_dx : Nat) (q0_t : Nat) (q0_cost : Nat) (q0_rowScaleNow : Nat) (q0_columnScaleNow : Nat) (q0_basic : Nat) (q0_text : Nat) (q0_turned : Nat) (q0_na : Nat) (q0_nb : Nat) (q0_nc : Nat) (vq0_m : Int32) (vq0_n : Int32) (vq0_length : Int32) (vq0_where : Int32) (vq0_effort : Int32) (vq0_thrown : Int32) (vq0_at : Int32) (vq0_scaled : Int32) (vq0_solved : Int32) (vq0_second : Int32) (vq0_nm : Int32) (vq0_nn : Int32) (vq0_number : UInt64) (vq0_bad : Int32) (vq0_text : Nat → Int32) (x1 : Int64) (rm : Int32 × Int32 × Int32 × (Nat → Int32)) (h : s_M_text vq0_m vq0_n vq0_length vq0_where vq0_effort vq0_thrown vq0_at vq0_scaled vq0_solved vq0_second vq0_nm vq0_nn vq0_number vq0_bad vq0_text x1 = some rm) : CtI l y_M_text (Cond.code y_M_text prog_10_method_9_code 7 (some .int) :: BIG) 1 22 D T [.ref q0, .long x1] (w_M_text T q0 q0_a q0_b q0_c q0_rowScale q0_columnScale q0_sa q0_sb q0_sc q0_x q0_s q0_y q0_p q0_d q0_h q0_f q0_mm q0_low q0_dd q0_r q0_big q0_dt q0_dx q0_t q0_cost q0_rowScaleNow q0_columnScaleNow q0_basic q0_text q0_turned q0_na q0_nb q0_nc vq0_m vq0_n vq0_length vq0_where vq0_effort vq0_thrown vq0_at vq0_scaled vq0_solved vq0_second vq0_nm vq0_nn vq0_number vq0_bad vq0_text) (fun r => r.1) (fun r => (w_M_text T q0 q0_a q0_b q0_c q0_rowScale q0_columnScale q0_sa q0_sb q0_sc q0_x q0_s q0_y q0_p q0_d q0_h q0_f q0_mm q0_low q0_dd q0_r q0_big q0_dt q0_dx q0_t q0_cost q0_rowScaleNow q0_columnScaleNow q0_basic q0_text q0_turned q0_na q0_nb q0_nc vq0_m vq0_n r.2.1 vq0_where vq0_effort r.2.2.1 vq0_at vq0_scaled vq0_solved vq0_second vq0_nm vq0_nn vq0_number vq0_bad r.2.2.2)) rm := by
  refine cf_entry (y := y_M_text) (cc := prog_10_method_9_code) (nL := 7) (ret := (some .int)) (fr := 1) (lo := 22) (T := T) (av := [.ref q0, .long x1]) (w := (w_M_text T q0 q0_a q0_b q0_c q0_rowScale q0_columnScale q0_sa q0_sb q0_sc q0_x q0_s q0_y q0_p q0_d q0_h q0_f q0_mm q0_low q0_dd q0_r q0_big q0_dt q0_dx q0_t q0_cost q0_rowScaleNow q0_columnScaleNow q0_basic q0_text q0_turned q0_na q0_nb q0_nc vq0_m vq0_n vq0_length vq0_where vq0_effort vq0_thrown vq0_at vq0_scaled vq0_solved vq0_second vq0_nm vq0_nn vq0_number vq0_bad vq0_text)) (Qc := cfQi D (fun r => r.1) (fun r => (w_M_text T q0 q0_a q0_b q0_c q0_rowScale q0_columnScale q0_sa q0_sb q0_sc q0_x q0_s q0_y q0_p q0_d q0_h q0_f q0_mm q0_low q0_dd q0_r q0_big q0_dt q0_dx q0_t q0_cost q0_rowScaleNow q0_columnScaleNow q0_basic q0_text q0_turned q0_na q0_nb q0_nc vq0_m vq0_n r.2.1 vq0_where vq0_effort r.2.2.1 vq0_at vq0_scaled vq0_solved vq0_second vq0_nm vq0_nn vq0_number vq0_bad r.2.2.2)) rm) (by decide) rfl (Nat.le_of_ble_eq_true rfl) ?_
  intro p e s m args below meth c A Q H locs ls hx hb hr hlocks hml hown hts hNW hK hA hQ hP hD hS hl
  have hown : s.vm.findClass "ConeForgeModel" = some m.cls := hown
  have hl : lv_has ls 7 [(0, .ref q0), (1, .long x1)] := hl
  have L107 : ∀ (vq0_length : Int32) (vq0_thrown : Int32) (vq0_text : Nat → Int32) (x1 : Int64) (x5 : Int32), ∀ (H : Heap) (locs : List Loc) (ls : Array Slot), va_P D CL (w_M_text T q0 q0_a q0_b q0_c q0_rowScale q0_columnScale q0_sa q0_sb q0_sc q0_x q0_s q0_y q0_p q0_d q0_h q0_f q0_mm q0_low q0_dd q0_r q0_big q0_dt q0_dx q0_t q0_cost q0_rowScaleNow q0_columnScaleNow q0_basic q0_text q0_turned q0_na q0_nb q0_nc vq0_m vq0_n vq0_length vq0_where vq0_effort vq0_thrown vq0_at vq0_scaled vq0_solved vq0_second vq0_nm vq0_nn vq0_number vq0_bad vq0_text) H → va_D A (w_M_text T q0 q0_a q0_b q0_c q0_rowScale q0_columnScale q0_sa q0_sb q0_sc q0_x q0_s q0_y q0_p q0_d q0_h q0_f q0_mm q0_low q0_dd q0_r q0_big q0_dt q0_dx q0_t q0_cost q0_rowScaleNow q0_columnScaleNow q0_basic q0_text q0_turned q0_na q0_nb q0_nc vq0_m vq0_n vq0_length vq0_where vq0_effort vq0_thrown vq0_at vq0_scaled vq0_solved vq0_second vq0_nm vq0_nn vq0_number vq0_bad vq0_text) → va_S A s.heap H locs → lv_has ls 7 [(0, .ref q0), (1, .long x1), (5, .int x5)] → s_M_text_L107 vq0_m vq0_n vq0_length vq0_where vq0_effort vq0_thrown vq0_at vq0_scaled vq0_solved vq0_second vq0_nm vq0_nn vq0_number vq0_bad vq0_text x1 x5 = some rm → W p l e (rmk 1 22) s m args below meth c H locs 0 0 Q (F0 m 107 ls []) := by
    intro vq0_length vq0_thrown vq0_text x1 x5 H locs ls hP hD hS hl h
    unfold s_M_text_L107 at h
    obtain ⟨ul107, hul107, h⟩ := bi_some h
    refine loopO_W (Wh := fun (st : Int32 × (Nat → Int32) × Int32) => ∀ (H : Heap) (locs : List Loc) (ls : Array Slot), va_P D CL (w_M_text T q0 q0_a q0_b q0_c q0_rowScale q0_columnScale q0_sa q0_sb q0_sc q0_x q0_s q0_y q0_p q0_d q0_h q0_f q0_mm q0_low q0_dd q0_r q0_big q0_dt q0_dx q0_t q0_cost q0_rowScaleNow q0_columnScaleNow q0_basic q0_text q0_turned q0_na q0_nb q0_nc vq0_m vq0_n st.1 vq0_where vq0_effort vq0_thrown vq0_at vq0_scaled vq0_solved vq0_second vq0_nm vq0_nn vq0_number vq0_bad st.2.1) H → va_D A (w_M_text T q0 q0_a q0_b q0_c q0_rowScale q0_columnScale q0_sa q0_sb q0_sc q0_x q0_s q0_y q0_p q0_d q0_h q0_f q0_mm q0_low q0_dd q0_r q0_big q0_dt q0_dx q0_t q0_cost q0_rowScaleNow q0_columnScaleNow q0_basic q0_text q0_turned q0_na q0_nb q0_nc vq0_m vq0_n st.1 vq0_where vq0_effort vq0_thrown vq0_at vq0_scaled vq0_solved vq0_second vq0_nm vq0_nn vq0_number vq0_bad st.2.1) → va_S A s.heap H locs → lv_has ls 7 [(0, .ref q0), (1, .long x1), (5, .int st.2.2)] → W p l e (rmk 1 22) s m args below meth c H locs 0 0 Q (F0 m 107 ls [])) (Wx := fun (e1 : Int32 × (Nat → Int32)) => ∀ (H : Heap) (locs : List Loc) (ls : Array Slot), va_P D CL (w_M_text T q0 q0_a q0_b q0_c q0_rowScale q0_columnScale q0_sa q0_sb q0_sc q0_x q0_s q0_y q0_p q0_d q0_h q0_f q0_mm q0_low q0_dd q0_r q0_big q0_dt q0_dx q0_t q0_cost q0_rowScaleNow q0_columnScaleNow q0_basic q0_text q0_turned q0_na q0_nb q0_nc vq0_m vq0_n e1.1 vq0_where vq0_effort vq0_thrown vq0_at vq0_scaled vq0_solved vq0_second vq0_nm vq0_nn vq0_number vq0_bad e1.2) H → va_D A (w_M_text T q0 q0_a q0_b q0_c q0_rowScale q0_columnScale q0_sa q0_sb q0_sc q0_x q0_s q0_y q0_p q0_d q0_h q0_f q0_mm q0_low q0_dd q0_r q0_big q0_dt q0_dx q0_t q0_cost q0_rowScaleNow q0_columnScaleNow q0_basic q0_text q0_turned q0_na q0_nb q0_nc vq0_m vq0_n e1.1 vq0_where vq0_effort vq0_thrown vq0_at vq0_scaled vq0_solved vq0_second vq0_nm vq0_nn vq0_number vq0_bad e1.2) → va_S A s.heap H locs → lv_has ls 7 [(0, .ref q0)] → W p l e (rmk 1 22) s m args below meth c H locs 0 0 Q (F0 m 158 ls [])) ?_ 2000 _ ul107 hul107 ?_ H locs ls hP hD hS hl
    · intro st rb107 h kc107 kx107 H locs ls hP hD hS hl
      obtain ⟨vq0_length, vq0_text, x5⟩ := st
      have h : s_M_text_B107 vq0_m vq0_n vq0_where vq0_effort vq0_thrown vq0_at vq0_scaled vq0_solved vq0_second vq0_nm vq0_nn vq0_number vq0_bad x1 vq0_length vq0_text x5 = some rb107 := h
      have J152 : ∀ (vq0_length : Int32) (vq0_text : Nat → Int32) (x5 : Int32), ∀ (H : Heap) (locs : List Loc) (ls : Array Slot), va_P D CL (w_M_text T q0 q0_a q0_b q0_c q0_rowScale q0_columnScale q0_sa q0_sb q0_sc q0_x q0_s q0_y q0_p q0_d q0_h q0_f q0_mm q0_low q0_dd q0_r q0_big q0_dt q0_dx q0_t q0_cost q0_rowScaleNow q0_columnScaleNow q0_basic q0_text q0_turned q0_na q0_nb q0_nc vq0_m vq0_n vq0_length vq0_where vq0_effort vq0_thrown vq0_at vq0_scaled vq0_solved vq0_second vq0_nm vq0_nn vq0_number vq0_bad vq0_text) H → va_D A (w_M_text T q0 q0_a q0_b q0_c q0_rowScale q0_columnScale q0_sa q0_sb q0_sc q0_x q0_s q0_y q0_p q0_d q0_h q0_f q0_mm q0_low q0_dd q0_r q0_big q0_dt q0_dx q0_t q0_cost q0_rowScaleNow q0_columnScaleNow q0_basic q0_text q0_turned q0_na q0_nb q0_nc vq0_m vq0_n vq0_length vq0_where vq0_effort vq0_thrown vq0_at vq0_scaled vq0_solved vq0_second vq0_nm vq0_nn vq0_number vq0_bad vq0_text) → va_S A s.heap H locs → lv_has ls 7 [(0, .ref q0), (1, .long x1), (5, .int x5)] → s_M_text_J152 vq0_m vq0_n vq0_length vq0_where vq0_effort vq0_thrown vq0_at vq0_scaled vq0_solved vq0_second vq0_nm vq0_nn vq0_number vq0_bad vq0_text x1 x5 = some rb107 → W p l e (rmk 1 22) s m args below meth c H locs 0 0 Q (F0 m 152 ls []) := by
        intro vq0_length vq0_text x5 H locs ls hP hD hS hl h
        unfold s_M_text_J152 at h
        refine lv_iinc (v := x5 + (-8)) (lv' := [(5, .int (x5 + (-8))), (0, .ref q0), (1, .long x1)]) hx hb d_M_text_152 hl (k := 2) rfl rfl (by decide) rfl (fun ls hl => ?_)
        refine lv_goto (tgt := 107) hx hb d_M_text_155 (by decide) ?_
        exact kc107 _ (Option.some.inj h).symm H locs ls hP hD hS (lv_sub hl [1, 2, 0] rfl)
      unfold s_M_text_B107 at h
      refine lv_iload hx hb d_M_text_107 (lv_at hl 2 rfl) ?_
      refine lv_if_lt (tgt := 158) hx hb d_M_text_109 (by decide) (fun c1 => ?_) (fun c1 => ?_)
      · have h := it_t c1 h
        exact kx107 _ (Option.some.inj h).symm H locs ls hP hD hS (lv_sub hl [0] rfl)
      · have h := it_f c1 h
        refine lv_lload_n hx hb d_M_text_112 rfl (lv_at hl 1 rfl) ?_
        refine lv_iload hx hb d_M_text_113 (lv_at hl 2 rfl) ?_
        refine lv_lshr (v := x1 >>> (x5.toInt64 &&& 63)) hx hb d_M_text_115 rfl ?_
        refine lv_l2i (v := (x1 >>> (x5.toInt64 &&& 63)).toInt32) hx hb d_M_text_116 rfl ?_
        refine lv_sipush (v := 255) hx hb d_M_text_117 (by decide) ?_
        refine lv_iand hx hb d_M_text_120 ?_
        refine lv_istore (lv' := [(6, .int (((x1 >>> (x5.toInt64 &&& 63)).toInt32) &&& 255)), (0, .ref q0), (1, .long x1), (5, .int x5)]) hx hb d_M_text_121 hl (by decide) rfl (fun ls hl => ?_)
        refine lv_iload hx hb d_M_text_123 (lv_at hl 0 rfl) ?_
        refine lv_if_ne (tgt := 131) hx hb d_M_text_125 (by decide) (fun c2 => ?_) (fun c2 => ?_)
        · have h := it_f c2 h
          refine lv_aload_n hx hb d_M_text_131 rfl (lv_at hl 1 rfl) ?_
          refine va_get (D := D) (ci := 8) (v := .ref q0_text) (C := "ConeForgeModel") (T := FM) (N := 46) hx hb hts iM hown hK hP 0 rfl rfl 27 (by decide) (hts _ (bgc bw711)) (fun _ h9 => h9) rfl d_M_text_132 ?_
          refine lv_aload_n hx hb d_M_text_135 rfl (lv_at hl 1 rfl) ?_
          refine va_get (D := D) (ci := 8) (v := .int vq0_length) (C := "ConeForgeModel") (T := FM) (N := 46) hx hb hts iM hown hK hP 0 rfl rfl 31 (by decide) (hts _ (bgc bw715)) (fun _ h9 => h9) rfl d_M_text_136 ?_
          refine lv_iload hx hb d_M_text_139 (lv_at hl 0 rfl) ?_
          obtain ⟨g3, h⟩ := gd_some h
          refine va_iast hx hb hK hP hD hS 1 1 rfl rfl (inb_in g3) d_M_text_141 (fun H locs hP hD hS => ?_)
          have hP : va_P D CL (w_M_text T q0 q0_a q0_b q0_c q0_rowScale q0_columnScale q0_sa q0_sb q0_sc q0_x q0_s q0_y q0_p q0_d q0_h q0_f q0_mm q0_low q0_dd q0_r q0_big q0_dt q0_dx q0_t q0_cost q0_rowScaleNow q0_columnScaleNow q0_basic q0_text q0_turned q0_na q0_nb q0_nc vq0_m vq0_n vq0_length vq0_where vq0_effort vq0_thrown vq0_at vq0_scaled vq0_solved vq0_second vq0_nm vq0_nn vq0_number vq0_bad (upd vq0_text vq0_length.toNatClampNeg (((x1 >>> (x5.toInt64 &&& 63)).toInt32) &&& 255))) H := hP
          have hD : va_D A (w_M_text T q0 q0_a q0_b q0_c q0_rowScale q0_columnScale q0_sa q0_sb q0_sc q0_x q0_s q0_y q0_p q0_d q0_h q0_f q0_mm q0_low q0_dd q0_r q0_big q0_dt q0_dx q0_t q0_cost q0_rowScaleNow q0_columnScaleNow q0_basic q0_text q0_turned q0_na q0_nb q0_nc vq0_m vq0_n vq0_length vq0_where vq0_effort vq0_thrown vq0_at vq0_scaled vq0_solved vq0_second vq0_nm vq0_nn vq0_number vq0_bad (upd vq0_text vq0_length.toNatClampNeg (((x1 >>> (x5.toInt64 &&& 63)).toInt32) &&& 255))) := hD
          refine lv_aload_n hx hb d_M_text_142 rfl (lv_at hl 1 rfl) ?_
          refine lv_dup hx hb d_M_text_143 rfl ?_
          refine va_get (D := D) (ci := 8) (v := .int vq0_length) (C := "ConeForgeModel") (T := FM) (N := 46) hx hb hts iM hown hK hP 0 rfl rfl 31 (by decide) (hts _ (bgc bw715)) (fun _ h9 => h9) rfl d_M_text_144 ?_
          refine lv_iconst (v := 1) hx hb d_M_text_147 (by decide) ?_
          refine lv_iadd hx hb d_M_text_148 ?_
          refine va_put (D := D) (ci := 8) (v := .int (vq0_length + 1)) (ty := .int) (C := "ConeForgeModel") (T := FM) (N := 46) hx hb hts iM tM tM_ok nmM hown hK hP hD hS 0 rfl rfl 31 (by decide) (hts _ (bgc bw715)) (fun _ h9 => h9) rfl (by decide +kernel) rfl rfl (Nat.le_of_ble_eq_true rfl) d_M_text_149 (fun H locs hP hD hS => ?_)
          have hP : va_P D CL (w_M_text T q0 q0_a q0_b q0_c q0_rowScale q0_columnScale q0_sa q0_sb q0_sc q0_x q0_s q0_y q0_p q0_d q0_h q0_f q0_mm q0_low q0_dd q0_r q0_big q0_dt q0_dx q0_t q0_cost q0_rowScaleNow q0_columnScaleNow q0_basic q0_text q0_turned q0_na q0_nb q0_nc vq0_m vq0_n (vq0_length + 1) vq0_where vq0_effort vq0_thrown vq0_at vq0_scaled vq0_solved vq0_second vq0_nm vq0_nn vq0_number vq0_bad (upd vq0_text vq0_length.toNatClampNeg (((x1 >>> (x5.toInt64 &&& 63)).toInt32) &&& 255))) H := hP
          have hD : va_D A (w_M_text T q0 q0_a q0_b q0_c q0_rowScale q0_columnScale q0_sa q0_sb q0_sc q0_x q0_s q0_y q0_p q0_d q0_h q0_f q0_mm q0_low q0_dd q0_r q0_big q0_dt q0_dx q0_t q0_cost q0_rowScaleNow q0_columnScaleNow q0_basic q0_text q0_turned q0_na q0_nb q0_nc vq0_m vq0_n (vq0_length + 1) vq0_where vq0_effort vq0_thrown vq0_at vq0_scaled vq0_solved vq0_second vq0_nm vq0_nn vq0_number vq0_bad (upd vq0_text vq0_length.toNatClampNeg (((x1 >>> (x5.toInt64 &&& 63)).toInt32) &&& 255))) := hD
          exact J152 (vq0_length + 1) (upd vq0_text vq0_length.toNatClampNeg (((x1 >>> (x5.toInt64 &&& 63)).toInt32) &&& 255)) x5 H locs ls hP hD hS (lv_sub hl [1, 2, 3] rfl) h
        · have h := it_t c2 h
          refine lv_goto (tgt := 152) hx hb d_M_text_128 (by decide) ?_
          exact J152 vq0_length vq0_text x5 H locs ls hP hD hS (lv_sub hl [1, 2, 3] rfl) h
    · intro H locs ls hP hD hS hl
      refine lv_aload_n hx hb d_M_text_158 rfl (lv_at hl 0 rfl) ?_
      refine va_get (D := D) (ci := 8) (v := .int ul107.1) (C := "ConeForgeModel") (T := FM) (N := 46) hx hb hts iM hown hK hP 0 rfl rfl 31 (by decide) (hts _ (bgc bw715)) (fun _ h9 => h9) rfl d_M_text_159 ?_
      exact rtI hx hb hr hlocks hQ (Option.some.inj h) hP hS d_M_text_162 rfl rfl
  have J91 : ∀ (vq0_length : Int32) (vq0_thrown : Int32) (vq0_text : Nat → Int32) (x1 : Int64) (y1 : Int32), ∀ (H : Heap) (locs : List Loc) (ls : Array Slot), va_P D CL (w_M_text T q0 q0_a q0_b q0_c q0_rowScale q0_columnScale q0_sa q0_sb q0_sc q0_x q0_s q0_y q0_p q0_d q0_h q0_f q0_mm q0_low q0_dd q0_r q0_big q0_dt q0_dx q0_t q0_cost q0_rowScaleNow q0_columnScaleNow q0_basic q0_text q0_turned q0_na q0_nb q0_nc vq0_m vq0_n vq0_length vq0_where vq0_effort vq0_thrown vq0_at vq0_scaled vq0_solved vq0_second vq0_nm vq0_nn vq0_number vq0_bad vq0_text) H → va_D A (w_M_text T q0 q0_a q0_b q0_c q0_rowScale q0_columnScale q0_sa q0_sb q0_sc q0_x q0_s q0_y q0_p q0_d q0_h q0_f q0_mm q0_low q0_dd q0_r q0_big q0_dt q0_dx q0_t q0_cost q0_rowScaleNow q0_columnScaleNow q0_basic q0_text q0_turned q0_na q0_nb q0_nc vq0_m vq0_n vq0_length vq0_where vq0_effort vq0_thrown vq0_at vq0_scaled vq0_solved vq0_second vq0_nm vq0_nn vq0_number vq0_bad vq0_text) → va_S A s.heap H locs → lv_has ls 7 [(0, .ref q0), (1, .long x1)] → s_M_text_J91 vq0_m vq0_n vq0_length vq0_where vq0_effort vq0_thrown vq0_at vq0_scaled vq0_solved vq0_second vq0_nm vq0_nn vq0_number vq0_bad vq0_text x1 y1 = some rm → W p l e (rmk 1 22) s m args below meth c H locs 0 0 Q (F0 m 91 ls [.int y1, .ref q0]) := by
    intro vq0_length vq0_thrown vq0_text x1 y1 H locs ls hP hD hS hl h
    unfold s_M_text_J91 at h
    refine va_put (D := D) (ci := 8) (v := .int y1) (ty := .int) (C := "ConeForgeModel") (T := FM) (N := 46) hx hb hts iM tM tM_ok nmM hown hK hP hD hS 0 rfl rfl 34 (by decide) (hts _ (bgc bw718)) (fun _ h9 => h9) rfl (by decide +kernel) rfl rfl (Nat.le_of_ble_eq_true rfl) d_M_text_91 (fun H locs hP hD hS => ?_)
    have hP : va_P D CL (w_M_text T q0 q0_a q0_b q0_c q0_rowScale q0_columnScale q0_sa q0_sb q0_sc q0_x q0_s q0_y q0_p q0_d q0_h q0_f q0_mm q0_low q0_dd q0_r q0_big q0_dt q0_dx q0_t q0_cost q0_rowScaleNow q0_columnScaleNow q0_basic q0_text q0_turned q0_na q0_nb q0_nc vq0_m vq0_n vq0_length vq0_where vq0_effort y1 vq0_at vq0_scaled vq0_solved vq0_second vq0_nm vq0_nn vq0_number vq0_bad vq0_text) H := hP
    have hD : va_D A (w_M_text T q0 q0_a q0_b q0_c q0_rowScale q0_columnScale q0_sa q0_sb q0_sc q0_x q0_s q0_y q0_p q0_d q0_h q0_f q0_mm q0_low q0_dd q0_r q0_big q0_dt q0_dx q0_t q0_cost q0_rowScaleNow q0_columnScaleNow q0_basic q0_text q0_turned q0_na q0_nb q0_nc vq0_m vq0_n vq0_length vq0_where vq0_effort y1 vq0_at vq0_scaled vq0_solved vq0_second vq0_nm vq0_nn vq0_number vq0_bad vq0_text) := hD
    refine lv_aload_n hx hb d_M_text_94 rfl (lv_at hl 0 rfl) ?_
    refine va_get (D := D) (ci := 8) (v := .int y1) (C := "ConeForgeModel") (T := FM) (N := 46) hx hb hts iM hown hK hP 0 rfl rfl 34 (by decide) (hts _ (bgc bw718)) (fun _ h9 => h9) rfl d_M_text_95 ?_
    refine lv_if_le (tgt := 103) hx hb d_M_text_98 (by decide) (fun c4 => ?_) (fun c4 => ?_)
    · have h := it_t c4 h
      refine lv_bipush (v := 56) hx hb d_M_text_103 (by decide) ?_
      refine lv_istore (lv' := [(5, .int 56), (0, .ref q0), (1, .long x1)]) hx hb d_M_text_105 hl (by decide) rfl (fun ls hl => ?_)
      exact L107 vq0_length y1 vq0_text x1 56 H locs ls hP hD hS (lv_sub hl [1, 2, 0] rfl) h
    · have h := it_f c4 h
      refine lv_iconst (v := 0) hx hb d_M_text_101 (by decide) ?_
      exact rtI hx hb hr hlocks hQ (Option.some.inj h) hP hS d_M_text_102 rfl rfl
  have L9 : ∀ (vq0_length : Int32) (vq0_thrown : Int32) (vq0_text : Nat → Int32) (x1 : Int64) (x3 : Int32) (x4 : Int32) (x5 : Int32), ∀ (H : Heap) (locs : List Loc) (ls : Array Slot), va_P D CL (w_M_text T q0 q0_a q0_b q0_c q0_rowScale q0_columnScale q0_sa q0_sb q0_sc q0_x q0_s q0_y q0_p q0_d q0_h q0_f q0_mm q0_low q0_dd q0_r q0_big q0_dt q0_dx q0_t q0_cost q0_rowScaleNow q0_columnScaleNow q0_basic q0_text q0_turned q0_na q0_nb q0_nc vq0_m vq0_n vq0_length vq0_where vq0_effort vq0_thrown vq0_at vq0_scaled vq0_solved vq0_second vq0_nm vq0_nn vq0_number vq0_bad vq0_text) H → va_D A (w_M_text T q0 q0_a q0_b q0_c q0_rowScale q0_columnScale q0_sa q0_sb q0_sc q0_x q0_s q0_y q0_p q0_d q0_h q0_f q0_mm q0_low q0_dd q0_r q0_big q0_dt q0_dx q0_t q0_cost q0_rowScaleNow q0_columnScaleNow q0_basic q0_text q0_turned q0_na q0_nb q0_nc vq0_m vq0_n vq0_length vq0_where vq0_effort vq0_thrown vq0_at vq0_scaled vq0_solved vq0_second vq0_nm vq0_nn vq0_number vq0_bad vq0_text) → va_S A s.heap H locs → lv_has ls 7 [(0, .ref q0), (1, .long x1), (3, .int x3), (4, .int x4), (5, .int x5)] → s_M_text_L9 vq0_m vq0_n vq0_length vq0_where vq0_effort vq0_thrown vq0_at vq0_scaled vq0_solved vq0_second vq0_nm vq0_nn vq0_number vq0_bad vq0_text x1 x3 x4 x5 = some rm → W p l e (rmk 1 22) s m args below meth c H locs 0 0 Q (F0 m 9 ls []) := by
    intro vq0_length vq0_thrown vq0_text x1 x3 x4 x5 H locs ls hP hD hS hl h
    unfold s_M_text_L9 at h
    obtain ⟨ul9, hul9, h⟩ := bi_some h
    refine loopO_W (Wh := fun (st : Int32 × Int32 × Int32) => ∀ (H : Heap) (locs : List Loc) (ls : Array Slot), va_P D CL (w_M_text T q0 q0_a q0_b q0_c q0_rowScale q0_columnScale q0_sa q0_sb q0_sc q0_x q0_s q0_y q0_p q0_d q0_h q0_f q0_mm q0_low q0_dd q0_r q0_big q0_dt q0_dx q0_t q0_cost q0_rowScaleNow q0_columnScaleNow q0_basic q0_text q0_turned q0_na q0_nb q0_nc vq0_m vq0_n vq0_length vq0_where vq0_effort vq0_thrown vq0_at vq0_scaled vq0_solved vq0_second vq0_nm vq0_nn vq0_number vq0_bad vq0_text) H → va_D A (w_M_text T q0 q0_a q0_b q0_c q0_rowScale q0_columnScale q0_sa q0_sb q0_sc q0_x q0_s q0_y q0_p q0_d q0_h q0_f q0_mm q0_low q0_dd q0_r q0_big q0_dt q0_dx q0_t q0_cost q0_rowScaleNow q0_columnScaleNow q0_basic q0_text q0_turned q0_na q0_nb q0_nc vq0_m vq0_n vq0_length vq0_where vq0_effort vq0_thrown vq0_at vq0_scaled vq0_solved vq0_second vq0_nm vq0_nn vq0_number vq0_bad vq0_text) → va_S A s.heap H locs → lv_has ls 7 [(0, .ref q0), (1, .long x1), (3, .int st.1), (4, .int st.2.1), (5, .int st.2.2)] → W p l e (rmk 1 22) s m args below meth c H locs 0 0 Q (F0 m 9 ls [])) (Wx := fun (e1 : Int32 × Int32) => ∀ (H : Heap) (locs : List Loc) (ls : Array Slot), va_P D CL (w_M_text T q0 q0_a q0_b q0_c q0_rowScale q0_columnScale q0_sa q0_sb q0_sc q0_x q0_s q0_y q0_p q0_d q0_h q0_f q0_mm q0_low q0_dd q0_r q0_big q0_dt q0_dx q0_t q0_cost q0_rowScaleNow q0_columnScaleNow q0_basic q0_text q0_turned q0_na q0_nb q0_nc vq0_m vq0_n vq0_length vq0_where vq0_effort vq0_thrown vq0_at vq0_scaled vq0_solved vq0_second vq0_nm vq0_nn vq0_number vq0_bad vq0_text) H → va_D A (w_M_text T q0 q0_a q0_b q0_c q0_rowScale q0_columnScale q0_sa q0_sb q0_sc q0_x q0_s q0_y q0_p q0_d q0_h q0_f q0_mm q0_low q0_dd q0_r q0_big q0_dt q0_dx q0_t q0_cost q0_rowScaleNow q0_columnScaleNow q0_basic q0_text q0_turned q0_na q0_nb q0_nc vq0_m vq0_n vq0_length vq0_where vq0_effort vq0_thrown vq0_at vq0_scaled vq0_solved vq0_second vq0_nm vq0_nn vq0_number vq0_bad vq0_text) → va_S A s.heap H locs → lv_has ls 7 [(0, .ref q0), (1, .long x1), (3, .int e1.1), (4, .int e1.2)] → W p l e (rmk 1 22) s m args below meth c H locs 0 0 Q (F0 m 64 ls [])) ?_ 2000 _ ul9 hul9 ?_ H locs ls hP hD hS hl
    · intro st rb9 h kc9 kx9 H locs ls hP hD hS hl
      obtain ⟨x3, x4, x5⟩ := st
      have h : s_M_text_B9 vq0_m vq0_n vq0_length vq0_where vq0_effort vq0_thrown vq0_at vq0_scaled vq0_solved vq0_second vq0_nm vq0_nn vq0_number vq0_bad vq0_text x1 x3 x4 x5 = some rb9 := h
      have J58 : ∀ (x3 : Int32) (x4 : Int32) (x5 : Int32), ∀ (H : Heap) (locs : List Loc) (ls : Array Slot), va_P D CL (w_M_text T q0 q0_a q0_b q0_c q0_rowScale q0_columnScale q0_sa q0_sb q0_sc q0_x q0_s q0_y q0_p q0_d q0_h q0_f q0_mm q0_low q0_dd q0_r q0_big q0_dt q0_dx q0_t q0_cost q0_rowScaleNow q0_columnScaleNow q0_basic q0_text q0_turned q0_na q0_nb q0_nc vq0_m vq0_n vq0_length vq0_where vq0_effort vq0_thrown vq0_at vq0_scaled vq0_solved vq0_second vq0_nm vq0_nn vq0_number vq0_bad vq0_text) H → va_D A (w_M_text T q0 q0_a q0_b q0_c q0_rowScale q0_columnScale q0_sa q0_sb q0_sc q0_x q0_s q0_y q0_p q0_d q0_h q0_f q0_mm q0_low q0_dd q0_r q0_big q0_dt q0_dx q0_t q0_cost q0_rowScaleNow q0_columnScaleNow q0_basic q0_text q0_turned q0_na q0_nb q0_nc vq0_m vq0_n vq0_length vq0_where vq0_effort vq0_thrown vq0_at vq0_scaled vq0_solved vq0_second vq0_nm vq0_nn vq0_number vq0_bad vq0_text) → va_S A s.heap H locs → lv_has ls 7 [(0, .ref q0), (1, .long x1), (3, .int x3), (4, .int x4), (5, .int x5)] → s_M_text_J58 vq0_m vq0_n vq0_length vq0_where vq0_effort vq0_thrown vq0_at vq0_scaled vq0_solved vq0_second vq0_nm vq0_nn vq0_number vq0_bad vq0_text x1 x3 x4 x5 = some rb9 → W p l e (rmk 1 22) s m args below meth c H locs 0 0 Q (F0 m 58 ls []) := by
        intro x3 x4 x5 H locs ls hP hD hS hl h
        unfold s_M_text_J58 at h
        refine lv_iinc (v := x5 + (-8)) (lv' := [(5, .int (x5 + (-8))), (0, .ref q0), (1, .long x1), (3, .int x3), (4, .int x4)]) hx hb d_M_text_58 hl (k := 4) rfl rfl (by decide) rfl (fun ls hl => ?_)
        refine lv_goto (tgt := 9) hx hb d_M_text_61 (by decide) ?_
        exact kc9 _ (Option.some.inj h).symm H locs ls hP hD hS (lv_sub hl [1, 2, 3, 4, 0] rfl)
      have J55 : ∀ (x3 : Int32) (x4 : Int32) (x5 : Int32), ∀ (H : Heap) (locs : List Loc) (ls : Array Slot), va_P D CL (w_M_text T q0 q0_a q0_b q0_c q0_rowScale q0_columnScale q0_sa q0_sb q0_sc q0_x q0_s q0_y q0_p q0_d q0_h q0_f q0_mm q0_low q0_dd q0_r q0_big q0_dt q0_dx q0_t q0_cost q0_rowScaleNow q0_columnScaleNow q0_basic q0_text q0_turned q0_na q0_nb q0_nc vq0_m vq0_n vq0_length vq0_where vq0_effort vq0_thrown vq0_at vq0_scaled vq0_solved vq0_second vq0_nm vq0_nn vq0_number vq0_bad vq0_text) H → va_D A (w_M_text T q0 q0_a q0_b q0_c q0_rowScale q0_columnScale q0_sa q0_sb q0_sc q0_x q0_s q0_y q0_p q0_d q0_h q0_f q0_mm q0_low q0_dd q0_r q0_big q0_dt q0_dx q0_t q0_cost q0_rowScaleNow q0_columnScaleNow q0_basic q0_text q0_turned q0_na q0_nb q0_nc vq0_m vq0_n vq0_length vq0_where vq0_effort vq0_thrown vq0_at vq0_scaled vq0_solved vq0_second vq0_nm vq0_nn vq0_number vq0_bad vq0_text) → va_S A s.heap H locs → lv_has ls 7 [(0, .ref q0), (1, .long x1), (3, .int x3), (4, .int x4), (5, .int x5)] → s_M_text_J55 vq0_m vq0_n vq0_length vq0_where vq0_effort vq0_thrown vq0_at vq0_scaled vq0_solved vq0_second vq0_nm vq0_nn vq0_number vq0_bad vq0_text x1 x3 x4 x5 = some rb9 → W p l e (rmk 1 22) s m args below meth c H locs 0 0 Q (F0 m 55 ls []) := by
        intro x3 x4 x5 H locs ls hP hD hS hl h
        unfold s_M_text_J55 at h
        refine lv_iinc (v := x3 + 1) (lv' := [(3, .int (x3 + 1)), (0, .ref q0), (1, .long x1), (4, .int x4), (5, .int x5)]) hx hb d_M_text_55 hl (k := 2) rfl rfl (by decide) rfl (fun ls hl => ?_)
        exact J58 (x3 + 1) x4 x5 H locs ls hP hD hS (lv_sub hl [1, 2, 0, 3, 4] rfl) h
      unfold s_M_text_B9 at h
      refine lv_iload hx hb d_M_text_9 (lv_at hl 4 rfl) ?_
      refine lv_if_lt (tgt := 64) hx hb d_M_text_11 (by decide) (fun c5 => ?_) (fun c5 => ?_)
      · have h := it_t c5 h
        exact kx9 _ (Option.some.inj h).symm H locs ls hP hD hS (lv_sub hl [0, 1, 2, 3] rfl)
      · have h := it_f c5 h
        refine lv_lload_n hx hb d_M_text_14 rfl (lv_at hl 1 rfl) ?_
        refine lv_iload hx hb d_M_text_15 (lv_at hl 4 rfl) ?_
        refine lv_lshr (v := x1 >>> (x5.toInt64 &&& 63)) hx hb d_M_text_17 rfl ?_
        refine lv_l2i (v := (x1 >>> (x5.toInt64 &&& 63)).toInt32) hx hb d_M_text_18 rfl ?_
        refine lv_sipush (v := 255) hx hb d_M_text_19 (by decide) ?_
        refine lv_iand hx hb d_M_text_22 ?_
        refine lv_istore (lv' := [(6, .int (((x1 >>> (x5.toInt64 &&& 63)).toInt32) &&& 255)), (0, .ref q0), (1, .long x1), (3, .int x3), (4, .int x4), (5, .int x5)]) hx hb d_M_text_23 hl (by decide) rfl (fun ls hl => ?_)
        refine lv_iload hx hb d_M_text_25 (lv_at hl 0 rfl) ?_
        refine lv_if_ne (tgt := 33) hx hb d_M_text_27 (by decide) (fun c6 => ?_) (fun c6 => ?_)
        · have h := it_f c6 h
          refine lv_iload hx hb d_M_text_33 (lv_at hl 0 rfl) ?_
          refine lv_bipush (v := 10) hx hb d_M_text_35 (by decide) ?_
          refine lv_icmp_eq (tgt := 55) hx hb d_M_text_37 (by decide) (fun c7 => ?_) (fun c7 => ?_)
          · have h := it_t c7 h
            exact J55 x3 x4 x5 H locs ls hP hD hS (lv_sub hl [1, 2, 3, 4, 5] rfl) h
          · have h := it_f c7 h
            refine lv_iload hx hb d_M_text_40 (lv_at hl 0 rfl) ?_
            refine lv_bipush (v := 32) hx hb d_M_text_42 (by decide) ?_
            refine lv_bipush (v := 126) hx hb d_M_text_44 (by decide) ?_
            obtain ⟨u8, hu8, h⟩ := bi_some h
            have jj9 := j_M_text_46 T q0 q0_a q0_b q0_c q0_rowScale q0_columnScale q0_sa q0_sb q0_sc q0_x q0_s q0_y q0_p q0_d q0_h q0_f q0_mm q0_low q0_dd q0_r q0_big q0_dt q0_dx q0_t q0_cost q0_rowScaleNow q0_columnScaleNow q0_basic q0_text q0_turned q0_na q0_nb q0_nc vq0_m vq0_n vq0_length vq0_where vq0_effort vq0_thrown vq0_at vq0_scaled vq0_solved vq0_second vq0_nm vq0_nn vq0_number vq0_bad vq0_text
            refine kI2 (v := u8) (wc := (w_M_in T  )) (wc' := (w_M_in T  )) (w_M_text T q0 q0_a q0_b q0_c q0_rowScale q0_columnScale q0_sa q0_sb q0_sc q0_x q0_s q0_y q0_p q0_d q0_h q0_f q0_mm q0_low q0_dd q0_r q0_big q0_dt q0_dx q0_t q0_cost q0_rowScaleNow q0_columnScaleNow q0_basic q0_text q0_turned q0_na q0_nb q0_nc vq0_m vq0_n vq0_length vq0_where vq0_effort vq0_thrown vq0_at vq0_scaled vq0_solved vq0_second vq0_nm vq0_nn vq0_number vq0_bad vq0_text) (runOS (As := [.int (((x1 >>> (x5.toInt64 &&& 63)).toInt32) &&& 255), .int 32, .int 126]) (rest := []) ((c_M_in l D T   (((x1 >>> (x5.toInt64 &&& 63)).toInt32) &&& 255) 32 126 u8 hu8) H.size) ⟨hx, hb, hml, hown, hts⟩ (cwOS bw785 bw786 bw105 bw787 dd_M_in hts ⟨Nat.le_of_ble_eq_true rfl, Nat.le_of_ble_eq_true rfl⟩)  hNW hK hP hD [] jj9.1 (by decide) rfl hl.1 rfl (lv_room (Nat.le_of_ble_eq_true rfl)) d_M_text_46 ⟨Nat.le_of_ble_eq_true rfl, Nat.le_of_ble_eq_true rfl⟩) hP hD hS hA [] [0, 1] jj9.1 jj9.2.1 jj9.2.2.1 (N := 2) jj9.2.2.2.2 (by decide) jj9.2.2.2.1 (fun H locs hP hD hS => ?_)
            refine lv_if_ne (tgt := 55) hx hb d_M_text_49 (by decide) (fun c10 => ?_) (fun c10 => ?_)
            · have h := it_f c10 h
              exact J55 x3 x4 x5 H locs ls hP hD hS (lv_sub hl [1, 2, 3, 4, 5] rfl) h
            · have h := it_t c10 h
              refine lv_iconst (v := 0) hx hb d_M_text_52 (by decide) ?_
              refine lv_istore (lv' := [(4, .int 0), (6, .int (((x1 >>> (x5.toInt64 &&& 63)).toInt32) &&& 255)), (0, .ref q0), (1, .long x1), (3, .int x3), (5, .int x5)]) hx hb d_M_text_53 hl (by decide) rfl (fun ls hl => ?_)
              exact J55 x3 0 x5 H locs ls hP hD hS (lv_sub hl [2, 3, 4, 0, 5] rfl) h
        · have h := it_t c6 h
          refine lv_goto (tgt := 58) hx hb d_M_text_30 (by decide) ?_
          exact J58 x3 x4 x5 H locs ls hP hD hS (lv_sub hl [1, 2, 3, 4, 5] rfl) h
    · intro H locs ls hP hD hS hl
      refine lv_aload_n hx hb d_M_text_64 rfl (lv_at hl 0 rfl) ?_
      refine lv_iload hx hb d_M_text_65 (lv_at hl 3 rfl) ?_
      refine lv_if_ne (tgt := 74) hx hb d_M_text_67 (by decide) (fun c11 => ?_) (fun c11 => ?_)
      · have h := it_f c11 h
        refine lv_aload_n hx hb d_M_text_74 rfl (lv_at hl 0 rfl) ?_
        refine va_get (D := D) (ci := 8) (v := .int vq0_length) (C := "ConeForgeModel") (T := FM) (N := 46) hx hb hts iM hown hK hP 0 rfl rfl 31 (by decide) (hts _ (bgc bw715)) (fun _ h9 => h9) rfl d_M_text_75 ?_
        refine lv_iload_n hx hb d_M_text_78 rfl (lv_at hl 2 rfl) ?_
        refine lv_iadd hx hb d_M_text_79 ?_
        refine lv_sipush (v := 300) hx hb d_M_text_80 (by decide) ?_
        refine lv_icmp_le (tgt := 90) hx hb d_M_text_83 (by decide) (fun c12 => ?_) (fun c12 => ?_)
        · have h := it_t c12 h
          refine lv_iconst (v := 0) hx hb d_M_text_90 (by decide) ?_
          exact J91 vq0_length vq0_thrown vq0_text x1 0 H locs ls hP hD hS (lv_sub hl [0, 1] rfl) h
        · have h := it_f c12 h
          refine lv_iconst (v := 2) hx hb d_M_text_86 (by decide) ?_
          refine lv_goto (tgt := 91) hx hb d_M_text_87 (by decide) ?_
          exact J91 vq0_length vq0_thrown vq0_text x1 2 H locs ls hP hD hS (lv_sub hl [0, 1] rfl) h
      · have h := it_t c11 h
        refine lv_iconst (v := 1) hx hb d_M_text_70 (by decide) ?_
        refine lv_goto (tgt := 91) hx hb d_M_text_71 (by decide) ?_
        exact J91 vq0_length vq0_thrown vq0_text x1 1 H locs ls hP hD hS (lv_sub hl [0, 1] rfl) h
  unfold s_M_text at h
  refine lv_iconst (v := 0) hx hb d_M_text_0 (by decide) ?_
  refine lv_istore_n (lv' := [(3, .int 0), (0, .ref q0), (1, .long x1)]) hx hb d_M_text_1 rfl hl (by decide) rfl (fun ls hl => ?_)
  refine lv_iconst (v := 1) hx hb d_M_text_2 (by decide) ?_
  refine lv_istore (lv' := [(4, .int 1), (3, .int 0), (0, .ref q0), (1, .long x1)]) hx hb d_M_text_3 hl (by decide) rfl (fun ls hl => ?_)
  refine lv_bipush (v := 56) hx hb d_M_text_5 (by decide) ?_
  refine lv_istore (lv' := [(5, .int 56), (4, .int 1), (3, .int 0), (0, .ref q0), (1, .long x1)]) hx hb d_M_text_7 hl (by decide) rfl (fun ls hl => ?_)
  exact L9 vq0_length vq0_thrown vq0_text x1 0 1 56 H locs ls hP hD hS (lv_sub hl [3, 4, 2, 1, 0] rfl) h
theorem d_M_here_0 : decode prog_10_method_10_code 0 = .ok (.aload_n 0, 1) := by decide +kernel
theorem d_M_here_1 : decode prog_10_method_10_code 1 = .ok (.getfield 143, 3) := by decide +kernel
theorem d_M_here_4 : decode prog_10_method_10_code 4 = .ok (.aload_n 0, 1) := by decide +kernel
theorem d_M_here_5 : decode prog_10_method_10_code 5 = .ok (.getfield 140, 3) := by decide +kernel
theorem d_M_here_8 : decode prog_10_method_10_code 8 = .ok (.if_icmp .ge 15, 3) := by decide +kernel
theorem d_M_here_11 : decode prog_10_method_10_code 11 = .ok (.aload_n 0, 1) := by decide +kernel
theorem d_M_here_12 : decode prog_10_method_10_code 12 = .ok (.getfield 92, 3) := by decide +kernel
theorem d_M_here_15 : decode prog_10_method_10_code 15 = .ok (.aload_n 0, 1) := by decide +kernel
theorem d_M_here_16 : decode prog_10_method_10_code 16 = .ok (.getfield 143, 3) := by decide +kernel
theorem d_M_here_19 : decode prog_10_method_10_code 19 = .ok (.iaload, 1) := by decide +kernel
theorem d_M_here_20 : decode prog_10_method_10_code 20 = .ok (.goto 4, 3) := by decide +kernel
theorem d_M_here_23 : decode prog_10_method_10_code 23 = .ok (.iconst (-1), 1) := by decide +kernel
theorem d_M_here_24 : decode prog_10_method_10_code 24 = .ok (.ireturn, 1) := by decide +kernel
abbrev w_M_here (T : Nat → ClassId) (q0 : Nat) (q0_a : Nat) (q0_b : Nat) (q0_c : Nat) (q0_rowScale : Nat) (q0_columnScale : Nat) (q0_sa : Nat) (q0_sb : Nat) (q0_sc : Nat) (q0_x : Nat) (q0_s : Nat) (q0_y : Nat) (q0_p : Nat) (q0_d : Nat) (q0_h : Nat) (q0_f : Nat) (q0_mm : Nat) (q0_low : Nat) (q0_dd : Nat) (q0_r : Nat) (q0_big : Nat) (q0_dt : Nat) (q0_dx : Nat) (q0_t : Nat) (q0_cost : Nat) (q0_rowScaleNow : Nat) (q0_columnScaleNow : Nat) (q0_basic : Nat) (q0_text : Nat) (q0_turned : Nat) (q0_na : Nat) (q0_nb : Nat) (q0_nc : Nat) (vq0_m : Int32) (vq0_n : Int32) (vq0_length : Int32) (vq0_where : Int32) (vq0_effort : Int32) (vq0_thrown : Int32) (vq0_at : Int32) (vq0_scaled : Int32) (vq0_solved : Int32) (vq0_second : Int32) (vq0_nm : Int32) (vq0_nn : Int32) (vq0_number : UInt64) (vq0_bad : Int32) (vq0_text : Nat → Int32) : va_W := [(q0, .inr (8, [.ref q0_a, .ref q0_b, .ref q0_c, .ref q0_rowScale, .ref q0_columnScale, .ref q0_sa, .ref q0_sb, .ref q0_sc, .ref q0_x, .ref q0_s, .ref q0_y, .ref q0_p, .ref q0_d, .ref q0_h, .ref q0_f, .ref q0_mm, .ref q0_low, .ref q0_dd, .ref q0_r, .ref q0_big, .ref q0_dt, .ref q0_dx, .ref q0_t, .ref q0_cost, .ref q0_rowScaleNow, .ref q0_columnScaleNow, .ref q0_basic, .ref q0_text, .ref q0_turned, .int vq0_m, .int vq0_n, .int vq0_length, .int vq0_where, .int vq0_effort, .int vq0_thrown, .int vq0_at, .int vq0_scaled, .int vq0_solved, .int vq0_second, .ref q0_na, .ref q0_nb, .ref q0_nc, .int vq0_nm, .int vq0_nn, .double vq0_number, .int vq0_bad])), (q0_text, .inl (T 1, 300, .inl vq0_text))]
def s_M_here (vq0_m : Int32) (vq0_n : Int32) (vq0_length : Int32) (vq0_where : Int32) (vq0_effort : Int32) (vq0_thrown : Int32) (vq0_at : Int32) (vq0_scaled : Int32) (vq0_solved : Int32) (vq0_second : Int32) (vq0_nm : Int32) (vq0_nn : Int32) (vq0_number : UInt64) (vq0_bad : Int32) (vq0_text : Nat → Int32) : Option (Int32) :=
  if vq0_length ≤ vq0_at then (some (-1)) else (gd (inb vq0_at 300) <| some (vq0_text vq0_at.toNatClampNeg))
set_option maxHeartbeats 40000000 in
set_option maxRecDepth 100000 in
theorem c_M_here (l : Launch) (D : va_G) (T : Nat → ClassId) (q0 : Nat) (q0_a : Nat) (q0_b : Nat) (q0_c : Nat) (q0_rowScale : Nat) (q0_columnScale : Nat) (q0_sa : Nat) (q0_sb : Nat) (q0_sc : Nat) (q0_x : Nat) (q0_s : Nat) (q0_y : Nat) (q0_p : Nat) (q0_d : Nat) (q0_h : Nat) (q0_f : Nat) (q0_mm : Nat) (q0_low : Nat) (q0_dd : Nat) (q0_r : Nat) (q0_big : Nat) (q0_dt : Nat) (q0_dx : Nat) (q0_t : Nat) (q0_cost : Nat) (q0_rowScaleNow : Nat) (q0_columnScaleNow : Nat) (q0_basic : Nat) (q0_text : Nat) (q0_turned : Nat) (q0_na : Nat) (q0_nb : Nat) (q0_nc : Nat) (vq0_m : Int32) (vq0_n : Int32) (vq0_length : Int32) (vq0_where : Int32) (vq0_effort : Int32) (vq0_thrown : Int32) (vq0_at : Int32) (vq0_scaled : Int32) (vq0_solved : Int32) (vq0_second : Int32) (vq0_nm : Int32) (vq0_nn : Int32) (vq0_number : UInt64) (vq0_bad : Int32) (vq0_text : Nat → Int32) (rm : Int32) (h : s_M_here vq0_m vq0_n vq0_length vq0_where vq0_effort vq0_thrown vq0_at vq0_scaled vq0_solved vq0_second vq0_nm vq0_nn vq0_number vq0_bad vq0_text = some rm) : CtI l y_M_here (Cond.code y_M_here prog_10_method_10_code 1 (some .int) :: BIG) 0 0 D T [.ref q0] (w_M_here T q0 q0_a q0_b q0_c q0_rowScale q0_columnScale q0_sa q0_sb q0_sc q0_x q0_s q0_y q0_p q0_d q0_h q0_f q0_mm q0_low q0_dd q0_r q0_big q0_dt q0_dx q0_t q0_cost q0_rowScaleNow q0_columnScaleNow q0_basic q0_text q0_turned q0_na q0_nb q0_nc vq0_m vq0_n vq0_length vq0_where vq0_effort vq0_thrown vq0_at vq0_scaled vq0_solved vq0_second vq0_nm vq0_nn vq0_number vq0_bad vq0_text) (fun r => r) (fun r => (w_M_here T q0 q0_a q0_b q0_c q0_rowScale q0_columnScale q0_sa q0_sb q0_sc q0_x q0_s q0_y q0_p q0_d q0_h q0_f q0_mm q0_low q0_dd q0_r q0_big q0_dt q0_dx q0_t q0_cost q0_rowScaleNow q0_columnScaleNow q0_basic q0_text q0_turned q0_na q0_nb q0_nc vq0_m vq0_n vq0_length vq0_where vq0_effort vq0_thrown vq0_at vq0_scaled vq0_solved vq0_second vq0_nm vq0_nn vq0_number vq0_bad vq0_text)) rm := by
  refine cf_entry (y := y_M_here) (cc := prog_10_method_10_code) (nL := 1) (ret := (some .int)) (fr := 0) (lo := 0) (T := T) (av := [.ref q0]) (w := (w_M_here T q0 q0_a q0_b q0_c q0_rowScale q0_columnScale q0_sa q0_sb q0_sc q0_x q0_s q0_y q0_p q0_d q0_h q0_f q0_mm q0_low q0_dd q0_r q0_big q0_dt q0_dx q0_t q0_cost q0_rowScaleNow q0_columnScaleNow q0_basic q0_text q0_turned q0_na q0_nb q0_nc vq0_m vq0_n vq0_length vq0_where vq0_effort vq0_thrown vq0_at vq0_scaled vq0_solved vq0_second vq0_nm vq0_nn vq0_number vq0_bad vq0_text)) (Qc := cfQi D (fun r => r) (fun r => (w_M_here T q0 q0_a q0_b q0_c q0_rowScale q0_columnScale q0_sa q0_sb q0_sc q0_x q0_s q0_y q0_p q0_d q0_h q0_f q0_mm q0_low q0_dd q0_r q0_big q0_dt q0_dx q0_t q0_cost q0_rowScaleNow q0_columnScaleNow q0_basic q0_text q0_turned q0_na q0_nb q0_nc vq0_m vq0_n vq0_length vq0_where vq0_effort vq0_thrown vq0_at vq0_scaled vq0_solved vq0_second vq0_nm vq0_nn vq0_number vq0_bad vq0_text)) rm) (by decide) rfl (Nat.le_of_ble_eq_true rfl) ?_
  intro p e s m args below meth c A Q H locs ls hx hb hr hlocks hml hown hts hNW hK hA hQ hP hD hS hl
  have hown : s.vm.findClass "ConeForgeModel" = some m.cls := hown
  have hl : lv_has ls 1 [(0, .ref q0)] := hl
  unfold s_M_here at h
  refine lv_aload_n hx hb d_M_here_0 rfl (lv_at hl 0 rfl) ?_
  refine va_get (D := D) (ci := 8) (v := .int vq0_at) (C := "ConeForgeModel") (T := FM) (N := 46) hx hb hts iM hown hK hP 0 rfl rfl 35 (by decide) (hts _ (bgc bw719)) (fun _ h9 => h9) rfl d_M_here_1 ?_
  refine lv_aload_n hx hb d_M_here_4 rfl (lv_at hl 0 rfl) ?_
  refine va_get (D := D) (ci := 8) (v := .int vq0_length) (C := "ConeForgeModel") (T := FM) (N := 46) hx hb hts iM hown hK hP 0 rfl rfl 31 (by decide) (hts _ (bgc bw715)) (fun _ h9 => h9) rfl d_M_here_5 ?_
  refine lv_icmp_ge (tgt := 23) hx hb d_M_here_8 (by decide) (fun c1 => ?_) (fun c1 => ?_)
  · have h := it_t c1 h
    refine lv_iconst (v := (-1)) hx hb d_M_here_23 (by decide) ?_
    exact rtI hx hb hr hlocks hQ (Option.some.inj h) hP hS d_M_here_24 rfl rfl
  · have h := it_f c1 h
    refine lv_aload_n hx hb d_M_here_11 rfl (lv_at hl 0 rfl) ?_
    refine va_get (D := D) (ci := 8) (v := .ref q0_text) (C := "ConeForgeModel") (T := FM) (N := 46) hx hb hts iM hown hK hP 0 rfl rfl 27 (by decide) (hts _ (bgc bw711)) (fun _ h9 => h9) rfl d_M_here_12 ?_
    refine lv_aload_n hx hb d_M_here_15 rfl (lv_at hl 0 rfl) ?_
    refine va_get (D := D) (ci := 8) (v := .int vq0_at) (C := "ConeForgeModel") (T := FM) (N := 46) hx hb hts iM hown hK hP 0 rfl rfl 35 (by decide) (hts _ (bgc bw719)) (fun _ h9 => h9) rfl d_M_here_16 ?_
    obtain ⟨g2, h⟩ := gd_some h
    refine va_iald hx hb hK hP 1 1 rfl rfl (inb_in g2) d_M_here_19 ?_
    refine lv_goto (tgt := 24) hx hb d_M_here_20 (by decide) ?_
    exact rtI hx hb hr hlocks hQ (Option.some.inj h) hP hS d_M_here_24 rfl rfl
