theorem d_M_thrown_0 : decode prog_10_method_2_code 0 = .ok (.aload_n 0, 1) := by decide +kernel
theorem d_M_thrown_1 : decode prog_10_method_2_code 1 = .ok (.getfield 122, 3) := by decide +kernel
theorem d_M_thrown_4 : decode prog_10_method_2_code 4 = .ok (.ireturn, 1) := by decide +kernel
abbrev w_M_thrown (T : Nat → ClassId) (q0 : Nat) (q0_a : Nat) (q0_b : Nat) (q0_c : Nat) (q0_rowScale : Nat) (q0_columnScale : Nat) (q0_sa : Nat) (q0_sb : Nat) (q0_sc : Nat) (q0_x : Nat) (q0_s : Nat) (q0_y : Nat) (q0_p : Nat) (q0_d : Nat) (q0_h : Nat) (q0_f : Nat) (q0_mm : Nat) (q0_low : Nat) (q0_dd : Nat) (q0_r : Nat) (q0_big : Nat) (q0_dt : Nat) (q0_dx : Nat) (q0_t : Nat) (q0_cost : Nat) (q0_rowScaleNow : Nat) (q0_columnScaleNow : Nat) (q0_basic : Nat) (q0_text : Nat) (q0_turned : Nat) (q0_na : Nat) (q0_nb : Nat) (q0_nc : Nat) (vq0_m : Int32) (vq0_n : Int32) (vq0_length : Int32) (vq0_where : Int32) (vq0_effort : Int32) (vq0_thrown : Int32) (vq0_at : Int32) (vq0_scaled : Int32) (vq0_solved : Int32) (vq0_second : Int32) (vq0_nm : Int32) (vq0_nn : Int32) (vq0_number : UInt64) (vq0_bad : Int32) : va_W := [(q0, .inr (8, [.ref q0_a, .ref q0_b, .ref q0_c, .ref q0_rowScale, .ref q0_columnScale, .ref q0_sa, .ref q0_sb, .ref q0_sc, .ref q0_x, .ref q0_s, .ref q0_y, .ref q0_p, .ref q0_d, .ref q0_h, .ref q0_f, .ref q0_mm, .ref q0_low, .ref q0_dd, .ref q0_r, .ref q0_big, .ref q0_dt, .ref q0_dx, .ref q0_t, .ref q0_cost, .ref q0_rowScaleNow, .ref q0_columnScaleNow, .ref q0_basic, .ref q0_text, .ref q0_turned, .int vq0_m, .int vq0_n, .int vq0_length, .int vq0_where, .int vq0_effort, .int vq0_thrown, .int vq0_at, .int vq0_scaled, .int vq0_solved, .int vq0_second, .ref q0_na, .ref q0_nb, .ref q0_nc, .int vq0_nm, .int vq0_nn, .double vq0_number, .int vq0_bad]))]
def s_M_thrown (vq0_m : Int32) (vq0_n : Int32) (vq0_length : Int32) (vq0_where : Int32) (vq0_effort : Int32) (vq0_thrown : Int32) (vq0_at : Int32) (vq0_scaled : Int32) (vq0_solved : Int32) (vq0_second : Int32) (vq0_nm : Int32) (vq0_nn : Int32) (vq0_number : UInt64) (vq0_bad : Int32) : Option (Int32) :=
  some vq0_thrown
set_option maxHeartbeats 4000000 in
set_option maxRecDepth 100000 in
theorem c_M_thrown (l : Launch) (D : va_G) (T : Nat → ClassId) (q0 : Nat) (q0_a : Nat) (q0_b : Nat) (q0_c : Nat) (q0_rowScale : Nat) (q0_columnScale : Nat) (q0_sa : Nat) (q0_sb : Nat) (q0_sc : Nat) (q0_x : Nat) (q0_s : Nat) (q0_y : Nat) (q0_p : Nat) (q0_d : Nat) (q0_h : Nat) (q0_f : Nat) (q0_mm : Nat) (q0_low : Nat) (q0_dd : Nat) (q0_r : Nat) (q0_big : Nat) (q0_dt : Nat) (q0_dx : Nat) (q0_t : Nat) (q0_cost : Nat) (q0_rowScaleNow : Nat) (q0_columnScaleNow : Nat) (q0_basic : Nat) (q0_text : Nat) (q0_turned : Nat) (q0_na : Nat) (q0_nb : Nat) (q0_nc : Nat) (vq0_m : Int32) (vq0_n : Int32) (vq0_length : Int32) (vq0_where : Int32) (vq0_effort : Int32) (vq0_thrown : Int32) (vq0_at : Int32) (vq0_scaled : Int32) (vq0_solved : Int32) (vq0_second : Int32) (vq0_nm : Int32) (vq0_nn : Int32) (vq0_number : UInt64) (vq0_bad : Int32) (rm : Int32) (h : s_M_thrown vq0_m vq0_n vq0_length vq0_where vq0_effort vq0_thrown vq0_at vq0_scaled vq0_solved vq0_second vq0_nm vq0_nn vq0_number vq0_bad = some rm) : CtI l y_M_thrown (Cond.code y_M_thrown prog_10_method_2_code 1 (some .int) :: BIG) 0 0 D T [.ref q0] (w_M_thrown T q0 q0_a q0_b q0_c q0_rowScale q0_columnScale q0_sa q0_sb q0_sc q0_x q0_s q0_y q0_p q0_d q0_h q0_f q0_mm q0_low q0_dd q0_r q0_big q0_dt q0_dx q0_t q0_cost q0_rowScaleNow q0_columnScaleNow q0_basic q0_text q0_turned q0_na q0_nb q0_nc vq0_m vq0_n vq0_length vq0_where vq0_effort vq0_thrown vq0_at vq0_scaled vq0_solved vq0_second vq0_nm vq0_nn vq0_number vq0_bad) (fun r => r) (fun r => (w_M_thrown T q0 q0_a q0_b q0_c q0_rowScale q0_columnScale q0_sa q0_sb q0_sc q0_x q0_s q0_y q0_p q0_d q0_h q0_f q0_mm q0_low q0_dd q0_r q0_big q0_dt q0_dx q0_t q0_cost q0_rowScaleNow q0_columnScaleNow q0_basic q0_text q0_turned q0_na q0_nb q0_nc vq0_m vq0_n vq0_length vq0_where vq0_effort vq0_thrown vq0_at vq0_scaled vq0_solved vq0_second vq0_nm vq0_nn vq0_number vq0_bad)) rm := by
  refine cf_entry (y := y_M_thrown) (cc := prog_10_method_2_code) (nL := 1) (ret := (some .int)) (fr := 0) (lo := 0) (T := T) (av := [.ref q0]) (w := (w_M_thrown T q0 q0_a q0_b q0_c q0_rowScale q0_columnScale q0_sa q0_sb q0_sc q0_x q0_s q0_y q0_p q0_d q0_h q0_f q0_mm q0_low q0_dd q0_r q0_big q0_dt q0_dx q0_t q0_cost q0_rowScaleNow q0_columnScaleNow q0_basic q0_text q0_turned q0_na q0_nb q0_nc vq0_m vq0_n vq0_length vq0_where vq0_effort vq0_thrown vq0_at vq0_scaled vq0_solved vq0_second vq0_nm vq0_nn vq0_number vq0_bad)) (Qc := cfQi D (fun r => r) (fun r => (w_M_thrown T q0 q0_a q0_b q0_c q0_rowScale q0_columnScale q0_sa q0_sb q0_sc q0_x q0_s q0_y q0_p q0_d q0_h q0_f q0_mm q0_low q0_dd q0_r q0_big q0_dt q0_dx q0_t q0_cost q0_rowScaleNow q0_columnScaleNow q0_basic q0_text q0_turned q0_na q0_nb q0_nc vq0_m vq0_n vq0_length vq0_where vq0_effort vq0_thrown vq0_at vq0_scaled vq0_solved vq0_second vq0_nm vq0_nn vq0_number vq0_bad)) rm) (by decide) rfl (Nat.le_of_ble_eq_true rfl) ?_
  intro p e s m args below meth c A Q H locs ls hx hb hr hlocks hml hown hts hNW hK hA hQ hP hD hS hl
  have hown : s.vm.findClass "ConeForgeModel" = some m.cls := hown
  have hl : lv_has ls 1 [(0, .ref q0)] := hl
  unfold s_M_thrown at h
  refine lv_aload_n hx hb d_M_thrown_0 rfl (lv_at hl 0 rfl) ?_
  refine va_get (D := D) (ci := 8) (v := .int vq0_thrown) (C := "ConeForgeModel") (T := FM) (N := 46) hx hb hts iM hown hK hP 0 rfl rfl 34 (by decide) (hts _ (bgc bw718)) (fun _ h9 => h9) rfl d_M_thrown_1 ?_
  exact rtI hx hb hr hlocks hQ (Option.some.inj h) hP hS d_M_thrown_4 rfl rfl
theorem d_M_in_0 : decode prog_10_method_3_code 0 = .ok (.iload_n 0, 1) := by decide +kernel
theorem d_M_in_1 : decode prog_10_method_3_code 1 = .ok (.iload_n 1, 1) := by decide +kernel
theorem d_M_in_2 : decode prog_10_method_3_code 2 = .ok (.if_icmp .lt 12, 3) := by decide +kernel
theorem d_M_in_5 : decode prog_10_method_3_code 5 = .ok (.iload_n 0, 1) := by decide +kernel
theorem d_M_in_6 : decode prog_10_method_3_code 6 = .ok (.iload_n 2, 1) := by decide +kernel
theorem d_M_in_7 : decode prog_10_method_3_code 7 = .ok (.if_icmp .gt 7, 3) := by decide +kernel
theorem d_M_in_10 : decode prog_10_method_3_code 10 = .ok (.iconst 1, 1) := by decide +kernel
theorem d_M_in_11 : decode prog_10_method_3_code 11 = .ok (.goto 4, 3) := by decide +kernel
theorem d_M_in_14 : decode prog_10_method_3_code 14 = .ok (.iconst 0, 1) := by decide +kernel
theorem d_M_in_15 : decode prog_10_method_3_code 15 = .ok (.ireturn, 1) := by decide +kernel
abbrev w_M_in (T : Nat → ClassId)   : va_W := []
def s_M_in_J14  : Option (Int32) :=
  gd (isb 0) <| some 0
def s_M_in (x0 : Int32) (x1 : Int32) (x2 : Int32) : Option (Int32) :=
  if x0 < x1 then (s_M_in_J14 ) else (if x2 < x0 then (s_M_in_J14 ) else (gd (isb 1) <| some 1))
set_option maxHeartbeats 4000000 in
set_option maxRecDepth 100000 in
theorem c_M_in (l : Launch) (D : va_G) (T : Nat → ClassId) (x0 : Int32) (x1 : Int32) (x2 : Int32) (rm : Int32) (h : s_M_in x0 x1 x2 = some rm) : CtI l y_M_in (Cond.code y_M_in prog_10_method_3_code 3 (some .boolean) :: BIG) 0 0 D T [.int x0, .int x1, .int x2] (w_M_in T  ) (fun r => r) (fun r => (w_M_in T  )) rm := by
  refine cf_entry (y := y_M_in) (cc := prog_10_method_3_code) (nL := 3) (ret := (some .boolean)) (fr := 0) (lo := 0) (T := T) (av := [.int x0, .int x1, .int x2]) (w := (w_M_in T  )) (Qc := cfQi D (fun r => r) (fun r => (w_M_in T  )) rm) (by decide) rfl (Nat.le_of_ble_eq_true rfl) ?_
  intro p e s m args below meth c A Q H locs ls hx hb hr hlocks hml hown hts hNW hK hA hQ hP hD hS hl
  have hown : s.vm.findClass "ConeForgeModel" = some m.cls := hown
  have hl : lv_has ls 3 [(0, .int x0), (1, .int x1), (2, .int x2)] := hl
  have J14 : ∀ (H : Heap) (locs : List Loc) (ls : Array Slot), va_P D CL (w_M_in T  ) H → va_D A (w_M_in T  ) → va_S A s.heap H locs → lv_has ls 3 [] → s_M_in_J14  = some rm → W p l e (rmk 0 0) s m args below meth c H locs 0 0 Q (F0 m 14 ls []) := by
    intro  H locs ls hP hD hS hl h
    unfold s_M_in_J14 at h
    refine lv_iconst (v := 0) hx hb d_M_in_14 (by decide) ?_
    obtain ⟨g1, h⟩ := gd_some h
    exact rtZ hx hb hr hlocks g1 hQ (Option.some.inj h) hP hS d_M_in_15 rfl rfl
  unfold s_M_in at h
  refine lv_iload_n hx hb d_M_in_0 rfl (lv_at hl 0 rfl) ?_
  refine lv_iload_n hx hb d_M_in_1 rfl (lv_at hl 1 rfl) ?_
  refine lv_icmp_lt (tgt := 14) hx hb d_M_in_2 (by decide) (fun c2 => ?_) (fun c2 => ?_)
  · have h := it_t c2 h
    exact J14  H locs ls hP hD hS (lv_sub hl [] rfl) h
  · have h := it_f c2 h
    refine lv_iload_n hx hb d_M_in_5 rfl (lv_at hl 0 rfl) ?_
    refine lv_iload_n hx hb d_M_in_6 rfl (lv_at hl 2 rfl) ?_
    refine lv_icmp_gt (tgt := 14) hx hb d_M_in_7 (by decide) (fun c3 => ?_) (fun c3 => ?_)
    · have h := it_t c3 h
      exact J14  H locs ls hP hD hS (lv_sub hl [] rfl) h
    · have h := it_f c3 h
      refine lv_iconst (v := 1) hx hb d_M_in_10 (by decide) ?_
      refine lv_goto (tgt := 15) hx hb d_M_in_11 (by decide) ?_
      obtain ⟨g4, h⟩ := gd_some h
      exact rtZ hx hb hr hlocks g4 hQ (Option.some.inj h) hP hS d_M_in_15 rfl rfl
theorem d_M_abs_0 : decode prog_10_method_4_code 0 = .ok (.dload_n 0, 1) := by decide +kernel
theorem d_M_abs_1 : decode prog_10_method_4_code 1 = .ok (.dconst 0, 1) := by decide +kernel
theorem d_M_abs_2 : decode prog_10_method_4_code 2 = .ok (.dcmp .g, 1) := by decide +kernel
theorem d_M_abs_3 : decode prog_10_method_4_code 3 = .ok (.ifCond .ge 8, 3) := by decide +kernel
theorem d_M_abs_6 : decode prog_10_method_4_code 6 = .ok (.dload_n 0, 1) := by decide +kernel
theorem d_M_abs_7 : decode prog_10_method_4_code 7 = .ok (.dneg, 1) := by decide +kernel
theorem d_M_abs_8 : decode prog_10_method_4_code 8 = .ok (.goto 4, 3) := by decide +kernel
theorem d_M_abs_11 : decode prog_10_method_4_code 11 = .ok (.dload_n 0, 1) := by decide +kernel
theorem d_M_abs_12 : decode prog_10_method_4_code 12 = .ok (.dreturn, 1) := by decide +kernel
abbrev w_M_abs (T : Nat → ClassId)   : va_W := []
def s_M_abs (x0 : UInt64) : Option (UInt64) :=
  if 0 ≤ (Op.cmpValue (FP.dcmp x0 FP.dconst0) .g) then (some x0) else (some (FP.dneg x0))
set_option maxHeartbeats 4000000 in
set_option maxRecDepth 100000 in
theorem c_M_abs (l : Launch) (D : va_G) (T : Nat → ClassId) (x0 : UInt64) (rm : UInt64) (h : s_M_abs x0 = some rm) : CtD l y_M_abs (Cond.code y_M_abs prog_10_method_4_code 2 (some .double) :: BIG) 0 0 D T [.double x0] (w_M_abs T  ) (fun r => r) (fun r => (w_M_abs T  )) rm := by
  refine cf_entry (y := y_M_abs) (cc := prog_10_method_4_code) (nL := 2) (ret := (some .double)) (fr := 0) (lo := 0) (T := T) (av := [.double x0]) (w := (w_M_abs T  )) (Qc := cfQd D (fun r => r) (fun r => (w_M_abs T  )) rm) (by decide) rfl (Nat.le_of_ble_eq_true rfl) ?_
  intro p e s m args below meth c A Q H locs ls hx hb hr hlocks hml hown hts hNW hK hA hQ hP hD hS hl
  have hown : s.vm.findClass "ConeForgeModel" = some m.cls := hown
  have hl : lv_has ls 2 [(0, .double x0)] := hl
  unfold s_M_abs at h
  refine lv_dload_n hx hb d_M_abs_0 rfl (lv_at hl 0 rfl) ?_
  refine lv_dconst0 hx hb d_M_abs_1 ?_
  refine lv_dcmp hx hb d_M_abs_2 ?_
  refine lv_if_ge (tgt := 11) hx hb d_M_abs_3 (by decide) (fun c1 => ?_) (fun c1 => ?_)
  · have h := it_t c1 h
    refine lv_dload_n hx hb d_M_abs_11 rfl (lv_at hl 0 rfl) ?_
    exact rtD hx hb hr hlocks hQ (Option.some.inj h) hP hS d_M_abs_12 rfl rfl
  · have h := it_f c1 h
    refine lv_dload_n hx hb d_M_abs_6 rfl (lv_at hl 0 rfl) ?_
    refine lv_dneg hx hb d_M_abs_7 ?_
    refine lv_goto (tgt := 12) hx hb d_M_abs_8 (by decide) ?_
    exact rtD hx hb hr hlocks hQ (Option.some.inj h) hP hS d_M_abs_12 rfl rfl
theorem d_M_max_0 : decode prog_10_method_5_code 0 = .ok (.dload_n 2, 1) := by decide +kernel
theorem d_M_max_1 : decode prog_10_method_5_code 1 = .ok (.dload_n 0, 1) := by decide +kernel
theorem d_M_max_2 : decode prog_10_method_5_code 2 = .ok (.dcmp .l, 1) := by decide +kernel
theorem d_M_max_3 : decode prog_10_method_5_code 3 = .ok (.ifCond .le 7, 3) := by decide +kernel
theorem d_M_max_6 : decode prog_10_method_5_code 6 = .ok (.dload_n 2, 1) := by decide +kernel
theorem d_M_max_7 : decode prog_10_method_5_code 7 = .ok (.goto 4, 3) := by decide +kernel
theorem d_M_max_10 : decode prog_10_method_5_code 10 = .ok (.dload_n 0, 1) := by decide +kernel
theorem d_M_max_11 : decode prog_10_method_5_code 11 = .ok (.dreturn, 1) := by decide +kernel
abbrev w_M_max (T : Nat → ClassId)   : va_W := []
def s_M_max (x0 : UInt64) (x2 : UInt64) : Option (UInt64) :=
  if (Op.cmpValue (FP.dcmp x2 x0) .l) ≤ 0 then (some x0) else (some x2)
set_option maxHeartbeats 4000000 in
set_option maxRecDepth 100000 in
theorem c_M_max (l : Launch) (D : va_G) (T : Nat → ClassId) (x0 : UInt64) (x2 : UInt64) (rm : UInt64) (h : s_M_max x0 x2 = some rm) : CtD l y_M_max (Cond.code y_M_max prog_10_method_5_code 4 (some .double) :: BIG) 0 0 D T [.double x0, .double x2] (w_M_max T  ) (fun r => r) (fun r => (w_M_max T  )) rm := by
  refine cf_entry (y := y_M_max) (cc := prog_10_method_5_code) (nL := 4) (ret := (some .double)) (fr := 0) (lo := 0) (T := T) (av := [.double x0, .double x2]) (w := (w_M_max T  )) (Qc := cfQd D (fun r => r) (fun r => (w_M_max T  )) rm) (by decide) rfl (Nat.le_of_ble_eq_true rfl) ?_
  intro p e s m args below meth c A Q H locs ls hx hb hr hlocks hml hown hts hNW hK hA hQ hP hD hS hl
  have hown : s.vm.findClass "ConeForgeModel" = some m.cls := hown
  have hl : lv_has ls 4 [(0, .double x0), (2, .double x2)] := hl
  unfold s_M_max at h
  refine lv_dload_n hx hb d_M_max_0 rfl (lv_at hl 1 rfl) ?_
  refine lv_dload_n hx hb d_M_max_1 rfl (lv_at hl 0 rfl) ?_
  refine lv_dcmp hx hb d_M_max_2 ?_
  refine lv_if_le (tgt := 10) hx hb d_M_max_3 (by decide) (fun c1 => ?_) (fun c1 => ?_)
  · have h := it_t c1 h
    refine lv_dload_n hx hb d_M_max_10 rfl (lv_at hl 0 rfl) ?_
    exact rtD hx hb hr hlocks hQ (Option.some.inj h) hP hS d_M_max_11 rfl rfl
  · have h := it_f c1 h
    refine lv_dload_n hx hb d_M_max_6 rfl (lv_at hl 1 rfl) ?_
    refine lv_goto (tgt := 11) hx hb d_M_max_7 (by decide) ?_
    exact rtD hx hb hr hlocks hQ (Option.some.inj h) hP hS d_M_max_11 rfl rfl
theorem d_M_begin_0 : decode prog_10_method_6_code 0 = .ok (.aload_n 0, 1) := by decide +kernel
theorem d_M_begin_1 : decode prog_10_method_6_code 1 = .ok (.iload_n 1, 1) := by decide +kernel
theorem d_M_begin_2 : decode prog_10_method_6_code 2 = .ok (.iconst 1, 1) := by decide +kernel
theorem d_M_begin_3 : decode prog_10_method_6_code 3 = .ok (.iconst 5, 1) := by decide +kernel
theorem d_M_begin_4 : decode prog_10_method_6_code 4 = .ok (.invokestatic 125, 3) := by decide +kernel
theorem d_M_begin_7 : decode prog_10_method_6_code 7 = .ok (.ifCond .eq 17, 3) := by decide +kernel
theorem d_M_begin_10 : decode prog_10_method_6_code 10 = .ok (.iload_n 2, 1) := by decide +kernel
theorem d_M_begin_11 : decode prog_10_method_6_code 11 = .ok (.iconst 1, 1) := by decide +kernel
theorem d_M_begin_12 : decode prog_10_method_6_code 12 = .ok (.bipush 8, 2) := by decide +kernel
theorem d_M_begin_14 : decode prog_10_method_6_code 14 = .ok (.invokestatic 125, 3) := by decide +kernel
theorem d_M_begin_17 : decode prog_10_method_6_code 17 = .ok (.ifCond .eq 7, 3) := by decide +kernel
theorem d_M_begin_20 : decode prog_10_method_6_code 20 = .ok (.iconst 0, 1) := by decide +kernel
theorem d_M_begin_21 : decode prog_10_method_6_code 21 = .ok (.goto 4, 3) := by decide +kernel
theorem d_M_begin_24 : decode prog_10_method_6_code 24 = .ok (.iconst 1, 1) := by decide +kernel
theorem d_M_begin_25 : decode prog_10_method_6_code 25 = .ok (.putfield 122, 3) := by decide +kernel
theorem d_M_begin_28 : decode prog_10_method_6_code 28 = .ok (.aload_n 0, 1) := by decide +kernel
theorem d_M_begin_29 : decode prog_10_method_6_code 29 = .ok (.getfield 122, 3) := by decide +kernel
theorem d_M_begin_32 : decode prog_10_method_6_code 32 = .ok (.ifCond .le 5, 3) := by decide +kernel
theorem d_M_begin_35 : decode prog_10_method_6_code 35 = .ok (.iconst 0, 1) := by decide +kernel
theorem d_M_begin_36 : decode prog_10_method_6_code 36 = .ok (.ireturn, 1) := by decide +kernel
theorem d_M_begin_37 : decode prog_10_method_6_code 37 = .ok (.aload_n 0, 1) := by decide +kernel
theorem d_M_begin_38 : decode prog_10_method_6_code 38 = .ok (.iload_n 1, 1) := by decide +kernel
theorem d_M_begin_39 : decode prog_10_method_6_code 39 = .ok (.putfield 99, 3) := by decide +kernel
theorem d_M_begin_42 : decode prog_10_method_6_code 42 = .ok (.aload_n 0, 1) := by decide +kernel
theorem d_M_begin_43 : decode prog_10_method_6_code 43 = .ok (.iload_n 2, 1) := by decide +kernel
theorem d_M_begin_44 : decode prog_10_method_6_code 44 = .ok (.putfield 103, 3) := by decide +kernel
theorem d_M_begin_47 : decode prog_10_method_6_code 47 = .ok (.iconst 0, 1) := by decide +kernel
theorem d_M_begin_48 : decode prog_10_method_6_code 48 = .ok (.istore_n 3, 1) := by decide +kernel
theorem d_M_begin_49 : decode prog_10_method_6_code 49 = .ok (.iload_n 3, 1) := by decide +kernel
theorem d_M_begin_50 : decode prog_10_method_6_code 50 = .ok (.bipush 40, 2) := by decide +kernel
theorem d_M_begin_52 : decode prog_10_method_6_code 52 = .ok (.if_icmp .ge 16, 3) := by decide +kernel
theorem d_M_begin_55 : decode prog_10_method_6_code 55 = .ok (.aload_n 0, 1) := by decide +kernel
theorem d_M_begin_56 : decode prog_10_method_6_code 56 = .ok (.getfield 7, 3) := by decide +kernel
theorem d_M_begin_59 : decode prog_10_method_6_code 59 = .ok (.iload_n 3, 1) := by decide +kernel
theorem d_M_begin_60 : decode prog_10_method_6_code 60 = .ok (.dconst 0, 1) := by decide +kernel
theorem d_M_begin_61 : decode prog_10_method_6_code 61 = .ok (.dastore, 1) := by decide +kernel
theorem d_M_begin_62 : decode prog_10_method_6_code 62 = .ok (.iinc 3 1, 3) := by decide +kernel
theorem d_M_begin_65 : decode prog_10_method_6_code 65 = .ok (.goto (-16), 3) := by decide +kernel
theorem d_M_begin_68 : decode prog_10_method_6_code 68 = .ok (.iconst 0, 1) := by decide +kernel
theorem d_M_begin_69 : decode prog_10_method_6_code 69 = .ok (.istore_n 3, 1) := by decide +kernel
theorem d_M_begin_70 : decode prog_10_method_6_code 70 = .ok (.iload_n 3, 1) := by decide +kernel
theorem d_M_begin_71 : decode prog_10_method_6_code 71 = .ok (.iconst 5, 1) := by decide +kernel
theorem d_M_begin_72 : decode prog_10_method_6_code 72 = .ok (.if_icmp .ge 16, 3) := by decide +kernel
theorem d_M_begin_75 : decode prog_10_method_6_code 75 = .ok (.aload_n 0, 1) := by decide +kernel
theorem d_M_begin_76 : decode prog_10_method_6_code 76 = .ok (.getfield 13, 3) := by decide +kernel
theorem d_M_begin_79 : decode prog_10_method_6_code 79 = .ok (.iload_n 3, 1) := by decide +kernel
theorem d_M_begin_80 : decode prog_10_method_6_code 80 = .ok (.dconst 0, 1) := by decide +kernel
theorem d_M_begin_81 : decode prog_10_method_6_code 81 = .ok (.dastore, 1) := by decide +kernel
theorem d_M_begin_82 : decode prog_10_method_6_code 82 = .ok (.iinc 3 1, 3) := by decide +kernel
theorem d_M_begin_85 : decode prog_10_method_6_code 85 = .ok (.goto (-15), 3) := by decide +kernel
theorem d_M_begin_88 : decode prog_10_method_6_code 88 = .ok (.iconst 0, 1) := by decide +kernel
theorem d_M_begin_89 : decode prog_10_method_6_code 89 = .ok (.istore_n 3, 1) := by decide +kernel
theorem d_M_begin_90 : decode prog_10_method_6_code 90 = .ok (.iload_n 3, 1) := by decide +kernel
theorem d_M_begin_91 : decode prog_10_method_6_code 91 = .ok (.bipush 8, 2) := by decide +kernel
theorem d_M_begin_93 : decode prog_10_method_6_code 93 = .ok (.if_icmp .ge 16, 3) := by decide +kernel
theorem d_M_begin_96 : decode prog_10_method_6_code 96 = .ok (.aload_n 0, 1) := by decide +kernel
theorem d_M_begin_97 : decode prog_10_method_6_code 97 = .ok (.getfield 16, 3) := by decide +kernel
theorem d_M_begin_100 : decode prog_10_method_6_code 100 = .ok (.iload_n 3, 1) := by decide +kernel
theorem d_M_begin_101 : decode prog_10_method_6_code 101 = .ok (.dconst 0, 1) := by decide +kernel
theorem d_M_begin_102 : decode prog_10_method_6_code 102 = .ok (.dastore, 1) := by decide +kernel
theorem d_M_begin_103 : decode prog_10_method_6_code 103 = .ok (.iinc 3 1, 3) := by decide +kernel
theorem d_M_begin_106 : decode prog_10_method_6_code 106 = .ok (.goto (-16), 3) := by decide +kernel
theorem d_M_begin_109 : decode prog_10_method_6_code 109 = .ok (.aload_n 0, 1) := by decide +kernel
theorem d_M_begin_110 : decode prog_10_method_6_code 110 = .ok (.iconst 0, 1) := by decide +kernel
theorem d_M_begin_111 : decode prog_10_method_6_code 111 = .ok (.putfield 129, 3) := by decide +kernel
theorem d_M_begin_114 : decode prog_10_method_6_code 114 = .ok (.iload_n 1, 1) := by decide +kernel
theorem d_M_begin_115 : decode prog_10_method_6_code 115 = .ok (.iload_n 2, 1) := by decide +kernel
theorem d_M_begin_116 : decode prog_10_method_6_code 116 = .ok (.imul, 1) := by decide +kernel
theorem d_M_begin_117 : decode prog_10_method_6_code 117 = .ok (.ireturn, 1) := by decide +kernel
abbrev w_M_begin (T : Nat → ClassId) (q0 : Nat) (q0_a : Nat) (q0_b : Nat) (q0_c : Nat) (q0_rowScale : Nat) (q0_columnScale : Nat) (q0_sa : Nat) (q0_sb : Nat) (q0_sc : Nat) (q0_x : Nat) (q0_s : Nat) (q0_y : Nat) (q0_p : Nat) (q0_d : Nat) (q0_h : Nat) (q0_f : Nat) (q0_mm : Nat) (q0_low : Nat) (q0_dd : Nat) (q0_r : Nat) (q0_big : Nat) (q0_dt : Nat) (q0_dx : Nat) (q0_t : Nat) (q0_cost : Nat) (q0_rowScaleNow : Nat) (q0_columnScaleNow : Nat) (q0_basic : Nat) (q0_text : Nat) (q0_turned : Nat) (q0_na : Nat) (q0_nb : Nat) (q0_nc : Nat) (vq0_m : Int32) (vq0_n : Int32) (vq0_length : Int32) (vq0_where : Int32) (vq0_effort : Int32) (vq0_thrown : Int32) (vq0_at : Int32) (vq0_scaled : Int32) (vq0_solved : Int32) (vq0_second : Int32) (vq0_nm : Int32) (vq0_nn : Int32) (vq0_number : UInt64) (vq0_bad : Int32) (vq0_a : Nat → UInt64) (vq0_b : Nat → UInt64) (vq0_c : Nat → UInt64) : va_W := [(q0, .inr (8, [.ref q0_a, .ref q0_b, .ref q0_c, .ref q0_rowScale, .ref q0_columnScale, .ref q0_sa, .ref q0_sb, .ref q0_sc, .ref q0_x, .ref q0_s, .ref q0_y, .ref q0_p, .ref q0_d, .ref q0_h, .ref q0_f, .ref q0_mm, .ref q0_low, .ref q0_dd, .ref q0_r, .ref q0_big, .ref q0_dt, .ref q0_dx, .ref q0_t, .ref q0_cost, .ref q0_rowScaleNow, .ref q0_columnScaleNow, .ref q0_basic, .ref q0_text, .ref q0_turned, .int vq0_m, .int vq0_n, .int vq0_length, .int vq0_where, .int vq0_effort, .int vq0_thrown, .int vq0_at, .int vq0_scaled, .int vq0_solved, .int vq0_second, .ref q0_na, .ref q0_nb, .ref q0_nc, .int vq0_nm, .int vq0_nn, .double vq0_number, .int vq0_bad])), (q0_a, .inl (T 0, 40, .inr (.inr (.inr (.inl vq0_a))))), (q0_b, .inl (T 0, 5, .inr (.inr (.inr (.inl vq0_b))))), (q0_c, .inl (T 0, 8, .inr (.inr (.inr (.inl vq0_c)))))]
def s_M_begin_B90 (vq0_m : Int32) (vq0_n : Int32) (vq0_length : Int32) (vq0_where : Int32) (vq0_effort : Int32) (vq0_thrown : Int32) (vq0_at : Int32) (vq0_scaled : Int32) (vq0_solved : Int32) (vq0_second : Int32) (vq0_nm : Int32) (vq0_nn : Int32) (vq0_number : UInt64) (vq0_bad : Int32) (vq0_a : Nat → UInt64) (vq0_b : Nat → UInt64) (x1 : Int32) (x2 : Int32) (vq0_c : Nat → UInt64) (x3 : Int32) : Option (((Nat → UInt64) × Int32) ⊕ ((Nat → UInt64))) :=
  if 8 ≤ x3 then (some (.inr vq0_c)) else (gd (inb x3 8) <| some (.inl (vf_upd vq0_c x3.toNatClampNeg FP.dconst0, x3 + 1)))
def s_M_begin_L90 (vq0_m : Int32) (vq0_n : Int32) (vq0_length : Int32) (vq0_where : Int32) (vq0_effort : Int32) (vq0_thrown : Int32) (vq0_at : Int32) (vq0_scaled : Int32) (vq0_solved : Int32) (vq0_second : Int32) (vq0_nm : Int32) (vq0_nn : Int32) (vq0_number : UInt64) (vq0_bad : Int32) (vq0_a : Nat → UInt64) (vq0_b : Nat → UInt64) (vq0_c : Nat → UInt64) (x1 : Int32) (x2 : Int32) (x3 : Int32) : Option (Int32 × Int32 × Int32 × Int32 × Int32 × (Nat → UInt64) × (Nat → UInt64) × (Nat → UInt64)) :=
  (loopO (fun (st : (Nat → UInt64) × Int32) => s_M_begin_B90 vq0_m vq0_n vq0_length vq0_where vq0_effort vq0_thrown vq0_at vq0_scaled vq0_solved vq0_second vq0_nm vq0_nn vq0_number vq0_bad vq0_a vq0_b x1 x2 st.1 st.2) 2000 (vq0_c, x3)).bind fun ul90 => gd (isb 0) <| some (x1 * x2, vq0_m, vq0_n, vq0_thrown, 0, vq0_a, vq0_b, ul90)
def s_M_begin_B70 (vq0_m : Int32) (vq0_n : Int32) (vq0_length : Int32) (vq0_where : Int32) (vq0_effort : Int32) (vq0_thrown : Int32) (vq0_at : Int32) (vq0_scaled : Int32) (vq0_solved : Int32) (vq0_second : Int32) (vq0_nm : Int32) (vq0_nn : Int32) (vq0_number : UInt64) (vq0_bad : Int32) (vq0_a : Nat → UInt64) (vq0_c : Nat → UInt64) (x1 : Int32) (x2 : Int32) (vq0_b : Nat → UInt64) (x3 : Int32) : Option (((Nat → UInt64) × Int32) ⊕ ((Nat → UInt64))) :=
  if 5 ≤ x3 then (some (.inr vq0_b)) else (gd (inb x3 5) <| some (.inl (vf_upd vq0_b x3.toNatClampNeg FP.dconst0, x3 + 1)))
def s_M_begin_L70 (vq0_m : Int32) (vq0_n : Int32) (vq0_length : Int32) (vq0_where : Int32) (vq0_effort : Int32) (vq0_thrown : Int32) (vq0_at : Int32) (vq0_scaled : Int32) (vq0_solved : Int32) (vq0_second : Int32) (vq0_nm : Int32) (vq0_nn : Int32) (vq0_number : UInt64) (vq0_bad : Int32) (vq0_a : Nat → UInt64) (vq0_b : Nat → UInt64) (vq0_c : Nat → UInt64) (x1 : Int32) (x2 : Int32) (x3 : Int32) : Option (Int32 × Int32 × Int32 × Int32 × Int32 × (Nat → UInt64) × (Nat → UInt64) × (Nat → UInt64)) :=
  (loopO (fun (st : (Nat → UInt64) × Int32) => s_M_begin_B70 vq0_m vq0_n vq0_length vq0_where vq0_effort vq0_thrown vq0_at vq0_scaled vq0_solved vq0_second vq0_nm vq0_nn vq0_number vq0_bad vq0_a vq0_c x1 x2 st.1 st.2) 2000 (vq0_b, x3)).bind fun ul70 => s_M_begin_L90 vq0_m vq0_n vq0_length vq0_where vq0_effort vq0_thrown vq0_at vq0_scaled vq0_solved vq0_second vq0_nm vq0_nn vq0_number vq0_bad vq0_a ul70 vq0_c x1 x2 0
def s_M_begin_B49 (vq0_m : Int32) (vq0_n : Int32) (vq0_length : Int32) (vq0_where : Int32) (vq0_effort : Int32) (vq0_thrown : Int32) (vq0_at : Int32) (vq0_scaled : Int32) (vq0_solved : Int32) (vq0_second : Int32) (vq0_nm : Int32) (vq0_nn : Int32) (vq0_number : UInt64) (vq0_bad : Int32) (vq0_b : Nat → UInt64) (vq0_c : Nat → UInt64) (x1 : Int32) (x2 : Int32) (vq0_a : Nat → UInt64) (x3 : Int32) : Option (((Nat → UInt64) × Int32) ⊕ ((Nat → UInt64))) :=
  if 40 ≤ x3 then (some (.inr vq0_a)) else (gd (inb x3 40) <| some (.inl (vf_upd vq0_a x3.toNatClampNeg FP.dconst0, x3 + 1)))
def s_M_begin_L49 (vq0_m : Int32) (vq0_n : Int32) (vq0_length : Int32) (vq0_where : Int32) (vq0_effort : Int32) (vq0_thrown : Int32) (vq0_at : Int32) (vq0_scaled : Int32) (vq0_solved : Int32) (vq0_second : Int32) (vq0_nm : Int32) (vq0_nn : Int32) (vq0_number : UInt64) (vq0_bad : Int32) (vq0_a : Nat → UInt64) (vq0_b : Nat → UInt64) (vq0_c : Nat → UInt64) (x1 : Int32) (x2 : Int32) (x3 : Int32) : Option (Int32 × Int32 × Int32 × Int32 × Int32 × (Nat → UInt64) × (Nat → UInt64) × (Nat → UInt64)) :=
  (loopO (fun (st : (Nat → UInt64) × Int32) => s_M_begin_B49 vq0_m vq0_n vq0_length vq0_where vq0_effort vq0_thrown vq0_at vq0_scaled vq0_solved vq0_second vq0_nm vq0_nn vq0_number vq0_bad vq0_b vq0_c x1 x2 st.1 st.2) 2000 (vq0_a, x3)).bind fun ul49 => s_M_begin_L70 vq0_m vq0_n vq0_length vq0_where vq0_effort vq0_thrown vq0_at vq0_scaled vq0_solved vq0_second vq0_nm vq0_nn vq0_number vq0_bad ul49 vq0_b vq0_c x1 x2 0
def s_M_begin (vq0_m : Int32) (vq0_n : Int32) (vq0_length : Int32) (vq0_where : Int32) (vq0_effort : Int32) (vq0_thrown : Int32) (vq0_at : Int32) (vq0_scaled : Int32) (vq0_solved : Int32) (vq0_second : Int32) (vq0_nm : Int32) (vq0_nn : Int32) (vq0_number : UInt64) (vq0_bad : Int32) (vq0_a : Nat → UInt64) (vq0_b : Nat → UInt64) (vq0_c : Nat → UInt64) (x1 : Int32) (x2 : Int32) : Option (Int32 × Int32 × Int32 × Int32 × Int32 × (Nat → UInt64) × (Nat → UInt64) × (Nat → UInt64)) :=
  (s_M_in x1 1 5).bind fun u8 => if u8 = 0 then (if 1 ≤ 0 then (s_M_begin_L49 x1 x2 vq0_length vq0_where vq0_effort 1 vq0_at vq0_scaled vq0_solved vq0_second vq0_nm vq0_nn vq0_number vq0_bad vq0_a vq0_b vq0_c x1 x2 0) else (some (0, vq0_m, vq0_n, 1, vq0_solved, vq0_a, vq0_b, vq0_c))) else ((s_M_in x2 1 8).bind fun u12 => if u12 = 0 then (if 1 ≤ 0 then (s_M_begin_L49 x1 x2 vq0_length vq0_where vq0_effort 1 vq0_at vq0_scaled vq0_solved vq0_second vq0_nm vq0_nn vq0_number vq0_bad vq0_a vq0_b vq0_c x1 x2 0) else (some (0, vq0_m, vq0_n, 1, vq0_solved, vq0_a, vq0_b, vq0_c))) else (if 0 ≤ 0 then (s_M_begin_L49 x1 x2 vq0_length vq0_where vq0_effort 0 vq0_at vq0_scaled vq0_solved vq0_second vq0_nm vq0_nn vq0_number vq0_bad vq0_a vq0_b vq0_c x1 x2 0) else (some (0, vq0_m, vq0_n, 0, vq0_solved, vq0_a, vq0_b, vq0_c))))
set_option maxRecDepth 100000 in
theorem j_M_begin_4 (T : Nat → ClassId) (q0 : Nat) (q0_a : Nat) (q0_b : Nat) (q0_c : Nat) (q0_rowScale : Nat) (q0_columnScale : Nat) (q0_sa : Nat) (q0_sb : Nat) (q0_sc : Nat) (q0_x : Nat) (q0_s : Nat) (q0_y : Nat) (q0_p : Nat) (q0_d : Nat) (q0_h : Nat) (q0_f : Nat) (q0_mm : Nat) (q0_low : Nat) (q0_dd : Nat) (q0_r : Nat) (q0_big : Nat) (q0_dt : Nat) (q0_dx : Nat) (q0_t : Nat) (q0_cost : Nat) (q0_rowScaleNow : Nat) (q0_columnScaleNow : Nat) (q0_basic : Nat) (q0_text : Nat) (q0_turned : Nat) (q0_na : Nat) (q0_nb : Nat) (q0_nc : Nat) (vq0_m : Int32) (vq0_n : Int32) (vq0_length : Int32) (vq0_where : Int32) (vq0_effort : Int32) (vq0_thrown : Int32) (vq0_at : Int32) (vq0_scaled : Int32) (vq0_solved : Int32) (vq0_second : Int32) (vq0_nm : Int32) (vq0_nn : Int32) (vq0_number : UInt64) (vq0_bad : Int32) (vq0_a : Nat → UInt64) (vq0_b : Nat → UInt64) (vq0_c : Nat → UInt64) : ([].map (fun (i : Nat) => (w_M_begin T q0 q0_a q0_b q0_c q0_rowScale q0_columnScale q0_sa q0_sb q0_sc q0_x q0_s q0_y q0_p q0_d q0_h q0_f q0_mm q0_low q0_dd q0_r q0_big q0_dt q0_dx q0_t q0_cost q0_rowScaleNow q0_columnScaleNow q0_basic q0_text q0_turned q0_na q0_nb q0_nc vq0_m vq0_n vq0_length vq0_where vq0_effort vq0_thrown vq0_at vq0_scaled vq0_solved vq0_second vq0_nm vq0_nn vq0_number vq0_bad vq0_a vq0_b vq0_c)[i]?) = (w_M_in T  ).map some) ∧ ([].map (fun (i : Nat) => (w_M_begin T q0 q0_a q0_b q0_c q0_rowScale q0_columnScale q0_sa q0_sb q0_sc q0_x q0_s q0_y q0_p q0_d q0_h q0_f q0_mm q0_low q0_dd q0_r q0_big q0_dt q0_dx q0_t q0_cost q0_rowScaleNow q0_columnScaleNow q0_basic q0_text q0_turned q0_na q0_nb q0_nc vq0_m vq0_n vq0_length vq0_where vq0_effort vq0_thrown vq0_at vq0_scaled vq0_solved vq0_second vq0_nm vq0_nn vq0_number vq0_bad vq0_a vq0_b vq0_c)[i]?) = (w_M_in T  ).map some) ∧ ([0, 1, 2, 3].map (fun (i : Nat) => (w_M_begin T q0 q0_a q0_b q0_c q0_rowScale q0_columnScale q0_sa q0_sb q0_sc q0_x q0_s q0_y q0_p q0_d q0_h q0_f q0_mm q0_low q0_dd q0_r q0_big q0_dt q0_dx q0_t q0_cost q0_rowScaleNow q0_columnScaleNow q0_basic q0_text q0_turned q0_na q0_nb q0_nc vq0_m vq0_n vq0_length vq0_where vq0_effort vq0_thrown vq0_at vq0_scaled vq0_solved vq0_second vq0_nm vq0_nn vq0_number vq0_bad vq0_a vq0_b vq0_c)[i]?) = [0, 1, 2, 3].map (fun (i : Nat) => (w_M_begin T q0 q0_a q0_b q0_c q0_rowScale q0_columnScale q0_sa q0_sb q0_sc q0_x q0_s q0_y q0_p q0_d q0_h q0_f q0_mm q0_low q0_dd q0_r q0_big q0_dt q0_dx q0_t q0_cost q0_rowScaleNow q0_columnScaleNow q0_basic q0_text q0_turned q0_na q0_nb q0_nc vq0_m vq0_n vq0_length vq0_where vq0_effort vq0_thrown vq0_at vq0_scaled vq0_solved vq0_second vq0_nm vq0_nn vq0_number vq0_bad vq0_a vq0_b vq0_c)[i]?)) ∧ (w_M_in T  ).map Prod.fst = (w_M_in T  ).map Prod.fst ∧ (w_M_begin T q0 q0_a q0_b q0_c q0_rowScale q0_columnScale q0_sa q0_sb q0_sc q0_x q0_s q0_y q0_p q0_d q0_h q0_f q0_mm q0_low q0_dd q0_r q0_big q0_dt q0_dx q0_t q0_cost q0_rowScaleNow q0_columnScaleNow q0_basic q0_text q0_turned q0_na q0_nb q0_nc vq0_m vq0_n vq0_length vq0_where vq0_effort vq0_thrown vq0_at vq0_scaled vq0_solved vq0_second vq0_nm vq0_nn vq0_number vq0_bad vq0_a vq0_b vq0_c).length = 4 :=
  ⟨rfl, rfl, Eq.trans (b := ([some (q0, .inr (8, [.ref q0_a, .ref q0_b, .ref q0_c, .ref q0_rowScale, .ref q0_columnScale, .ref q0_sa, .ref q0_sb, .ref q0_sc, .ref q0_x, .ref q0_s, .ref q0_y, .ref q0_p, .ref q0_d, .ref q0_h, .ref q0_f, .ref q0_mm, .ref q0_low, .ref q0_dd, .ref q0_r, .ref q0_big, .ref q0_dt, .ref q0_dx, .ref q0_t, .ref q0_cost, .ref q0_rowScaleNow, .ref q0_columnScaleNow, .ref q0_basic, .ref q0_text, .ref q0_turned, .int vq0_m, .int vq0_n, .int vq0_length, .int vq0_where, .int vq0_effort, .int vq0_thrown, .int vq0_at, .int vq0_scaled, .int vq0_solved, .int vq0_second, .ref q0_na, .ref q0_nb, .ref q0_nc, .int vq0_nm, .int vq0_nn, .double vq0_number, .int vq0_bad])), some (q0_a, .inl (T 0, 40, .inr (.inr (.inr (.inl vq0_a))))), some (q0_b, .inl (T 0, 5, .inr (.inr (.inr (.inl vq0_b))))), some (q0_c, .inl (T 0, 8, .inr (.inr (.inr (.inl vq0_c)))))] : List (Option (Nat × va_E)))) rfl rfl, rfl, rfl⟩
set_option maxRecDepth 100000 in
theorem j_M_begin_14 (T : Nat → ClassId) (q0 : Nat) (q0_a : Nat) (q0_b : Nat) (q0_c : Nat) (q0_rowScale : Nat) (q0_columnScale : Nat) (q0_sa : Nat) (q0_sb : Nat) (q0_sc : Nat) (q0_x : Nat) (q0_s : Nat) (q0_y : Nat) (q0_p : Nat) (q0_d : Nat) (q0_h : Nat) (q0_f : Nat) (q0_mm : Nat) (q0_low : Nat) (q0_dd : Nat) (q0_r : Nat) (q0_big : Nat) (q0_dt : Nat) (q0_dx : Nat) (q0_t : Nat) (q0_cost : Nat) (q0_rowScaleNow : Nat) (q0_columnScaleNow : Nat) (q0_basic : Nat) (q0_text : Nat) (q0_turned : Nat) (q0_na : Nat) (q0_nb : Nat) (q0_nc : Nat) (vq0_m : Int32) (vq0_n : Int32) (vq0_length : Int32) (vq0_where : Int32) (vq0_effort : Int32) (vq0_thrown : Int32) (vq0_at : Int32) (vq0_scaled : Int32) (vq0_solved : Int32) (vq0_second : Int32) (vq0_nm : Int32) (vq0_nn : Int32) (vq0_number : UInt64) (vq0_bad : Int32) (vq0_a : Nat → UInt64) (vq0_b : Nat → UInt64) (vq0_c : Nat → UInt64) : ([].map (fun (i : Nat) => (w_M_begin T q0 q0_a q0_b q0_c q0_rowScale q0_columnScale q0_sa q0_sb q0_sc q0_x q0_s q0_y q0_p q0_d q0_h q0_f q0_mm q0_low q0_dd q0_r q0_big q0_dt q0_dx q0_t q0_cost q0_rowScaleNow q0_columnScaleNow q0_basic q0_text q0_turned q0_na q0_nb q0_nc vq0_m vq0_n vq0_length vq0_where vq0_effort vq0_thrown vq0_at vq0_scaled vq0_solved vq0_second vq0_nm vq0_nn vq0_number vq0_bad vq0_a vq0_b vq0_c)[i]?) = (w_M_in T  ).map some) ∧ ([].map (fun (i : Nat) => (w_M_begin T q0 q0_a q0_b q0_c q0_rowScale q0_columnScale q0_sa q0_sb q0_sc q0_x q0_s q0_y q0_p q0_d q0_h q0_f q0_mm q0_low q0_dd q0_r q0_big q0_dt q0_dx q0_t q0_cost q0_rowScaleNow q0_columnScaleNow q0_basic q0_text q0_turned q0_na q0_nb q0_nc vq0_m vq0_n vq0_length vq0_where vq0_effort vq0_thrown vq0_at vq0_scaled vq0_solved vq0_second vq0_nm vq0_nn vq0_number vq0_bad vq0_a vq0_b vq0_c)[i]?) = (w_M_in T  ).map some) ∧ ([0, 1, 2, 3].map (fun (i : Nat) => (w_M_begin T q0 q0_a q0_b q0_c q0_rowScale q0_columnScale q0_sa q0_sb q0_sc q0_x q0_s q0_y q0_p q0_d q0_h q0_f q0_mm q0_low q0_dd q0_r q0_big q0_dt q0_dx q0_t q0_cost q0_rowScaleNow q0_columnScaleNow q0_basic q0_text q0_turned q0_na q0_nb q0_nc vq0_m vq0_n vq0_length vq0_where vq0_effort vq0_thrown vq0_at vq0_scaled vq0_solved vq0_second vq0_nm vq0_nn vq0_number vq0_bad vq0_a vq0_b vq0_c)[i]?) = [0, 1, 2, 3].map (fun (i : Nat) => (w_M_begin T q0 q0_a q0_b q0_c q0_rowScale q0_columnScale q0_sa q0_sb q0_sc q0_x q0_s q0_y q0_p q0_d q0_h q0_f q0_mm q0_low q0_dd q0_r q0_big q0_dt q0_dx q0_t q0_cost q0_rowScaleNow q0_columnScaleNow q0_basic q0_text q0_turned q0_na q0_nb q0_nc vq0_m vq0_n vq0_length vq0_where vq0_effort vq0_thrown vq0_at vq0_scaled vq0_solved vq0_second vq0_nm vq0_nn vq0_number vq0_bad vq0_a vq0_b vq0_c)[i]?)) ∧ (w_M_in T  ).map Prod.fst = (w_M_in T  ).map Prod.fst ∧ (w_M_begin T q0 q0_a q0_b q0_c q0_rowScale q0_columnScale q0_sa q0_sb q0_sc q0_x q0_s q0_y q0_p q0_d q0_h q0_f q0_mm q0_low q0_dd q0_r q0_big q0_dt q0_dx q0_t q0_cost q0_rowScaleNow q0_columnScaleNow q0_basic q0_text q0_turned q0_na q0_nb q0_nc vq0_m vq0_n vq0_length vq0_where vq0_effort vq0_thrown vq0_at vq0_scaled vq0_solved vq0_second vq0_nm vq0_nn vq0_number vq0_bad vq0_a vq0_b vq0_c).length = 4 :=
  ⟨rfl, rfl, Eq.trans (b := ([some (q0, .inr (8, [.ref q0_a, .ref q0_b, .ref q0_c, .ref q0_rowScale, .ref q0_columnScale, .ref q0_sa, .ref q0_sb, .ref q0_sc, .ref q0_x, .ref q0_s, .ref q0_y, .ref q0_p, .ref q0_d, .ref q0_h, .ref q0_f, .ref q0_mm, .ref q0_low, .ref q0_dd, .ref q0_r, .ref q0_big, .ref q0_dt, .ref q0_dx, .ref q0_t, .ref q0_cost, .ref q0_rowScaleNow, .ref q0_columnScaleNow, .ref q0_basic, .ref q0_text, .ref q0_turned, .int vq0_m, .int vq0_n, .int vq0_length, .int vq0_where, .int vq0_effort, .int vq0_thrown, .int vq0_at, .int vq0_scaled, .int vq0_solved, .int vq0_second, .ref q0_na, .ref q0_nb, .ref q0_nc, .int vq0_nm, .int vq0_nn, .double vq0_number, .int vq0_bad])), some (q0_a, .inl (T 0, 40, .inr (.inr (.inr (.inl vq0_a))))), some (q0_b, .inl (T 0, 5, .inr (.inr (.inr (.inl vq0_b))))), some (q0_c, .inl (T 0, 8, .inr (.inr (.inr (.inl vq0_c)))))] : List (Option (Nat × va_E)))) rfl rfl, rfl, rfl⟩
set_option maxHeartbeats 4000000 in
set_option maxRecDepth 100000 in
theorem c_M_begin (l : Launch) (D : va_G) (T : Nat → ClassId) (q0 : Nat) (q0_a : Nat) (q0_b : Nat) (q0_c : Nat) (q0_rowScale : Nat) (q0_columnScale : Nat) (q0_sa : Nat) (q0_sb : Nat) (q0_sc : Nat) (q0_x : Nat) (q0_s : Nat) (q0_y : Nat) (q0_p : Nat) (q0_d : Nat) (q0_h : Nat) (q0_f : Nat) (q0_mm : Nat) (q0_low : Nat) (q0_dd : Nat) (q0_r : Nat) (q0_big : Nat) (q0_dt : Nat) (q0_dx : Nat) (q0_t : Nat) (q0_cost : Nat) (q0_rowScaleNow : Nat) (q0_columnScaleNow : Nat) (q0_basic : Nat) (q0_text : Nat) (q0_turned : Nat) (q0_na : Nat) (q0_nb : Nat) (q0_nc : Nat) (vq0_m : Int32) (vq0_n : Int32) (vq0_length : Int32) (vq0_where : Int32) (vq0_effort : Int32) (vq0_thrown : Int32) (vq0_at : Int32) (vq0_scaled : Int32) (vq0_solved : Int32) (vq0_second : Int32) (vq0_nm : Int32) (vq0_nn : Int32) (vq0_number : UInt64) (vq0_bad : Int32) (vq0_a : Nat → UInt64) (vq0_b : Nat → UInt64) (vq0_c : Nat → UInt64) (x1 : Int32) (x2 : Int32) (rm : Int32 × Int32 × Int32 × Int32 × Int32 × (Nat → UInt64) × (Nat → UInt64) × (Nat → UInt64)) (h : s_M_begin vq0_m vq0_n vq0_length vq0_where vq0_effort vq0_thrown vq0_at vq0_scaled vq0_solved vq0_second vq0_nm vq0_nn vq0_number vq0_bad vq0_a vq0_b vq0_c x1 x2 = some rm) : CtI l y_M_begin (Cond.code y_M_begin prog_10_method_6_code 4 (some .int) :: BIG) 1 22 D T [.ref q0, .int x1, .int x2] (w_M_begin T q0 q0_a q0_b q0_c q0_rowScale q0_columnScale q0_sa q0_sb q0_sc q0_x q0_s q0_y q0_p q0_d q0_h q0_f q0_mm q0_low q0_dd q0_r q0_big q0_dt q0_dx q0_t q0_cost q0_rowScaleNow q0_columnScaleNow q0_basic q0_text q0_turned q0_na q0_nb q0_nc vq0_m vq0_n vq0_length vq0_where vq0_effort vq0_thrown vq0_at vq0_scaled vq0_solved vq0_second vq0_nm vq0_nn vq0_number vq0_bad vq0_a vq0_b vq0_c) (fun r => r.1) (fun r => (w_M_begin T q0 q0_a q0_b q0_c q0_rowScale q0_columnScale q0_sa q0_sb q0_sc q0_x q0_s q0_y q0_p q0_d q0_h q0_f q0_mm q0_low q0_dd q0_r q0_big q0_dt q0_dx q0_t q0_cost q0_rowScaleNow q0_columnScaleNow q0_basic q0_text q0_turned q0_na q0_nb q0_nc r.2.1 r.2.2.1 vq0_length vq0_where vq0_effort r.2.2.2.1 vq0_at vq0_scaled r.2.2.2.2.1 vq0_second vq0_nm vq0_nn vq0_number vq0_bad r.2.2.2.2.2.1 r.2.2.2.2.2.2.1 r.2.2.2.2.2.2.2)) rm := by
  refine cf_entry (y := y_M_begin) (cc := prog_10_method_6_code) (nL := 4) (ret := (some .int)) (fr := 1) (lo := 22) (T := T) (av := [.ref q0, .int x1, .int x2]) (w := (w_M_begin T q0 q0_a q0_b q0_c q0_rowScale q0_columnScale q0_sa q0_sb q0_sc q0_x q0_s q0_y q0_p q0_d q0_h q0_f q0_mm q0_low q0_dd q0_r q0_big q0_dt q0_dx q0_t q0_cost q0_rowScaleNow q0_columnScaleNow q0_basic q0_text q0_turned q0_na q0_nb q0_nc vq0_m vq0_n vq0_length vq0_where vq0_effort vq0_thrown vq0_at vq0_scaled vq0_solved vq0_second vq0_nm vq0_nn vq0_number vq0_bad vq0_a vq0_b vq0_c)) (Qc := cfQi D (fun r => r.1) (fun r => (w_M_begin T q0 q0_a q0_b q0_c q0_rowScale q0_columnScale q0_sa q0_sb q0_sc q0_x q0_s q0_y q0_p q0_d q0_h q0_f q0_mm q0_low q0_dd q0_r q0_big q0_dt q0_dx q0_t q0_cost q0_rowScaleNow q0_columnScaleNow q0_basic q0_text q0_turned q0_na q0_nb q0_nc r.2.1 r.2.2.1 vq0_length vq0_where vq0_effort r.2.2.2.1 vq0_at vq0_scaled r.2.2.2.2.1 vq0_second vq0_nm vq0_nn vq0_number vq0_bad r.2.2.2.2.2.1 r.2.2.2.2.2.2.1 r.2.2.2.2.2.2.2)) rm) (by decide) rfl (Nat.le_of_ble_eq_true rfl) ?_
  intro p e s m args below meth c A Q H locs ls hx hb hr hlocks hml hown hts hNW hK hA hQ hP hD hS hl
  have hown : s.vm.findClass "ConeForgeModel" = some m.cls := hown
  have hl : lv_has ls 4 [(0, .ref q0), (1, .int x1), (2, .int x2)] := hl
  have L90 : ∀ (vq0_m : Int32) (vq0_n : Int32) (vq0_thrown : Int32) (vq0_solved : Int32) (vq0_a : Nat → UInt64) (vq0_b : Nat → UInt64) (vq0_c : Nat → UInt64) (x1 : Int32) (x2 : Int32) (x3 : Int32), ∀ (H : Heap) (locs : List Loc) (ls : Array Slot), va_P D CL (w_M_begin T q0 q0_a q0_b q0_c q0_rowScale q0_columnScale q0_sa q0_sb q0_sc q0_x q0_s q0_y q0_p q0_d q0_h q0_f q0_mm q0_low q0_dd q0_r q0_big q0_dt q0_dx q0_t q0_cost q0_rowScaleNow q0_columnScaleNow q0_basic q0_text q0_turned q0_na q0_nb q0_nc vq0_m vq0_n vq0_length vq0_where vq0_effort vq0_thrown vq0_at vq0_scaled vq0_solved vq0_second vq0_nm vq0_nn vq0_number vq0_bad vq0_a vq0_b vq0_c) H → va_D A (w_M_begin T q0 q0_a q0_b q0_c q0_rowScale q0_columnScale q0_sa q0_sb q0_sc q0_x q0_s q0_y q0_p q0_d q0_h q0_f q0_mm q0_low q0_dd q0_r q0_big q0_dt q0_dx q0_t q0_cost q0_rowScaleNow q0_columnScaleNow q0_basic q0_text q0_turned q0_na q0_nb q0_nc vq0_m vq0_n vq0_length vq0_where vq0_effort vq0_thrown vq0_at vq0_scaled vq0_solved vq0_second vq0_nm vq0_nn vq0_number vq0_bad vq0_a vq0_b vq0_c) → va_S A s.heap H locs → lv_has ls 4 [(0, .ref q0), (1, .int x1), (2, .int x2), (3, .int x3)] → s_M_begin_L90 vq0_m vq0_n vq0_length vq0_where vq0_effort vq0_thrown vq0_at vq0_scaled vq0_solved vq0_second vq0_nm vq0_nn vq0_number vq0_bad vq0_a vq0_b vq0_c x1 x2 x3 = some rm → W p l e (rmk 1 22) s m args below meth c H locs 0 0 Q (F0 m 90 ls []) := by
    intro vq0_m vq0_n vq0_thrown vq0_solved vq0_a vq0_b vq0_c x1 x2 x3 H locs ls hP hD hS hl h
    unfold s_M_begin_L90 at h
    obtain ⟨ul90, hul90, h⟩ := bi_some h
    refine loopO_W (Wh := fun (st : (Nat → UInt64) × Int32) => ∀ (H : Heap) (locs : List Loc) (ls : Array Slot), va_P D CL (w_M_begin T q0 q0_a q0_b q0_c q0_rowScale q0_columnScale q0_sa q0_sb q0_sc q0_x q0_s q0_y q0_p q0_d q0_h q0_f q0_mm q0_low q0_dd q0_r q0_big q0_dt q0_dx q0_t q0_cost q0_rowScaleNow q0_columnScaleNow q0_basic q0_text q0_turned q0_na q0_nb q0_nc vq0_m vq0_n vq0_length vq0_where vq0_effort vq0_thrown vq0_at vq0_scaled vq0_solved vq0_second vq0_nm vq0_nn vq0_number vq0_bad vq0_a vq0_b st.1) H → va_D A (w_M_begin T q0 q0_a q0_b q0_c q0_rowScale q0_columnScale q0_sa q0_sb q0_sc q0_x q0_s q0_y q0_p q0_d q0_h q0_f q0_mm q0_low q0_dd q0_r q0_big q0_dt q0_dx q0_t q0_cost q0_rowScaleNow q0_columnScaleNow q0_basic q0_text q0_turned q0_na q0_nb q0_nc vq0_m vq0_n vq0_length vq0_where vq0_effort vq0_thrown vq0_at vq0_scaled vq0_solved vq0_second vq0_nm vq0_nn vq0_number vq0_bad vq0_a vq0_b st.1) → va_S A s.heap H locs → lv_has ls 4 [(0, .ref q0), (1, .int x1), (2, .int x2), (3, .int st.2)] → W p l e (rmk 1 22) s m args below meth c H locs 0 0 Q (F0 m 90 ls [])) (Wx := fun (e1 : (Nat → UInt64)) => ∀ (H : Heap) (locs : List Loc) (ls : Array Slot), va_P D CL (w_M_begin T q0 q0_a q0_b q0_c q0_rowScale q0_columnScale q0_sa q0_sb q0_sc q0_x q0_s q0_y q0_p q0_d q0_h q0_f q0_mm q0_low q0_dd q0_r q0_big q0_dt q0_dx q0_t q0_cost q0_rowScaleNow q0_columnScaleNow q0_basic q0_text q0_turned q0_na q0_nb q0_nc vq0_m vq0_n vq0_length vq0_where vq0_effort vq0_thrown vq0_at vq0_scaled vq0_solved vq0_second vq0_nm vq0_nn vq0_number vq0_bad vq0_a vq0_b e1) H → va_D A (w_M_begin T q0 q0_a q0_b q0_c q0_rowScale q0_columnScale q0_sa q0_sb q0_sc q0_x q0_s q0_y q0_p q0_d q0_h q0_f q0_mm q0_low q0_dd q0_r q0_big q0_dt q0_dx q0_t q0_cost q0_rowScaleNow q0_columnScaleNow q0_basic q0_text q0_turned q0_na q0_nb q0_nc vq0_m vq0_n vq0_length vq0_where vq0_effort vq0_thrown vq0_at vq0_scaled vq0_solved vq0_second vq0_nm vq0_nn vq0_number vq0_bad vq0_a vq0_b e1) → va_S A s.heap H locs → lv_has ls 4 [(0, .ref q0), (1, .int x1), (2, .int x2)] → W p l e (rmk 1 22) s m args below meth c H locs 0 0 Q (F0 m 109 ls [])) ?_ 2000 _ ul90 hul90 ?_ H locs ls hP hD hS hl
    · intro st rb90 h kc90 kx90 H locs ls hP hD hS hl
      obtain ⟨vq0_c, x3⟩ := st
      have h : s_M_begin_B90 vq0_m vq0_n vq0_length vq0_where vq0_effort vq0_thrown vq0_at vq0_scaled vq0_solved vq0_second vq0_nm vq0_nn vq0_number vq0_bad vq0_a vq0_b x1 x2 vq0_c x3 = some rb90 := h
      unfold s_M_begin_B90 at h
      refine lv_iload_n hx hb d_M_begin_90 rfl (lv_at hl 3 rfl) ?_
      refine lv_bipush (v := 8) hx hb d_M_begin_91 (by decide) ?_
      refine lv_icmp_ge (tgt := 109) hx hb d_M_begin_93 (by decide) (fun c1 => ?_) (fun c1 => ?_)
      · have h := it_t c1 h
        exact kx90 _ (Option.some.inj h).symm H locs ls hP hD hS (lv_sub hl [0, 1, 2] rfl)
      · have h := it_f c1 h
        refine lv_aload_n hx hb d_M_begin_96 rfl (lv_at hl 0 rfl) ?_
        refine va_get (D := D) (ci := 8) (v := .ref q0_c) (C := "ConeForgeModel") (T := FM) (N := 46) hx hb hts iM hown hK hP 0 rfl rfl 2 (by decide) (hts _ (bgc bw686)) (fun _ h9 => h9) rfl d_M_begin_97 ?_
        refine lv_iload_n hx hb d_M_begin_100 rfl (lv_at hl 3 rfl) ?_
        refine lv_dconst0 hx hb d_M_begin_101 ?_
        obtain ⟨g2, h⟩ := gd_some h
        refine va_dast hx hb hK hP hD hS 3 0 rfl rfl (inb_in g2) d_M_begin_102 (fun H locs hP hD hS => ?_)
        have hP : va_P D CL (w_M_begin T q0 q0_a q0_b q0_c q0_rowScale q0_columnScale q0_sa q0_sb q0_sc q0_x q0_s q0_y q0_p q0_d q0_h q0_f q0_mm q0_low q0_dd q0_r q0_big q0_dt q0_dx q0_t q0_cost q0_rowScaleNow q0_columnScaleNow q0_basic q0_text q0_turned q0_na q0_nb q0_nc vq0_m vq0_n vq0_length vq0_where vq0_effort vq0_thrown vq0_at vq0_scaled vq0_solved vq0_second vq0_nm vq0_nn vq0_number vq0_bad vq0_a vq0_b (vf_upd vq0_c x3.toNatClampNeg FP.dconst0)) H := hP
        have hD : va_D A (w_M_begin T q0 q0_a q0_b q0_c q0_rowScale q0_columnScale q0_sa q0_sb q0_sc q0_x q0_s q0_y q0_p q0_d q0_h q0_f q0_mm q0_low q0_dd q0_r q0_big q0_dt q0_dx q0_t q0_cost q0_rowScaleNow q0_columnScaleNow q0_basic q0_text q0_turned q0_na q0_nb q0_nc vq0_m vq0_n vq0_length vq0_where vq0_effort vq0_thrown vq0_at vq0_scaled vq0_solved vq0_second vq0_nm vq0_nn vq0_number vq0_bad vq0_a vq0_b (vf_upd vq0_c x3.toNatClampNeg FP.dconst0)) := hD
        refine lv_iinc (v := x3 + 1) (lv' := [(3, .int (x3 + 1)), (0, .ref q0), (1, .int x1), (2, .int x2)]) hx hb d_M_begin_103 hl (k := 3) rfl rfl (by decide) rfl (fun ls hl => ?_)
        refine lv_goto (tgt := 90) hx hb d_M_begin_106 (by decide) ?_
        exact kc90 _ (Option.some.inj h).symm H locs ls hP hD hS (lv_sub hl [1, 2, 3, 0] rfl)
    · intro H locs ls hP hD hS hl
      refine lv_aload_n hx hb d_M_begin_109 rfl (lv_at hl 0 rfl) ?_
      refine lv_iconst (v := 0) hx hb d_M_begin_110 (by decide) ?_
      obtain ⟨g3, h⟩ := gd_some h
      refine va_put (D := D) (ci := 8) (v := .int 0) (ty := .boolean) (C := "ConeForgeModel") (T := FM) (N := 46) hx hb hts iM tM tM_ok nmM hown hK hP hD hS 0 rfl rfl 37 (by decide) (hts _ (bgc bw721)) (fun _ h9 => h9) rfl (by decide +kernel) (isb_n g3) (isb_f g3) (Nat.le_of_ble_eq_true rfl) d_M_begin_111 (fun H locs hP hD hS => ?_)
      have hP : va_P D CL (w_M_begin T q0 q0_a q0_b q0_c q0_rowScale q0_columnScale q0_sa q0_sb q0_sc q0_x q0_s q0_y q0_p q0_d q0_h q0_f q0_mm q0_low q0_dd q0_r q0_big q0_dt q0_dx q0_t q0_cost q0_rowScaleNow q0_columnScaleNow q0_basic q0_text q0_turned q0_na q0_nb q0_nc vq0_m vq0_n vq0_length vq0_where vq0_effort vq0_thrown vq0_at vq0_scaled 0 vq0_second vq0_nm vq0_nn vq0_number vq0_bad vq0_a vq0_b ul90) H := hP
      have hD : va_D A (w_M_begin T q0 q0_a q0_b q0_c q0_rowScale q0_columnScale q0_sa q0_sb q0_sc q0_x q0_s q0_y q0_p q0_d q0_h q0_f q0_mm q0_low q0_dd q0_r q0_big q0_dt q0_dx q0_t q0_cost q0_rowScaleNow q0_columnScaleNow q0_basic q0_text q0_turned q0_na q0_nb q0_nc vq0_m vq0_n vq0_length vq0_where vq0_effort vq0_thrown vq0_at vq0_scaled 0 vq0_second vq0_nm vq0_nn vq0_number vq0_bad vq0_a vq0_b ul90) := hD
      refine lv_iload_n hx hb d_M_begin_114 rfl (lv_at hl 1 rfl) ?_
      refine lv_iload_n hx hb d_M_begin_115 rfl (lv_at hl 2 rfl) ?_
      refine lv_imul hx hb d_M_begin_116 ?_
      exact rtI hx hb hr hlocks hQ (Option.some.inj h) hP hS d_M_begin_117 rfl rfl
  have L70 : ∀ (vq0_m : Int32) (vq0_n : Int32) (vq0_thrown : Int32) (vq0_solved : Int32) (vq0_a : Nat → UInt64) (vq0_b : Nat → UInt64) (vq0_c : Nat → UInt64) (x1 : Int32) (x2 : Int32) (x3 : Int32), ∀ (H : Heap) (locs : List Loc) (ls : Array Slot), va_P D CL (w_M_begin T q0 q0_a q0_b q0_c q0_rowScale q0_columnScale q0_sa q0_sb q0_sc q0_x q0_s q0_y q0_p q0_d q0_h q0_f q0_mm q0_low q0_dd q0_r q0_big q0_dt q0_dx q0_t q0_cost q0_rowScaleNow q0_columnScaleNow q0_basic q0_text q0_turned q0_na q0_nb q0_nc vq0_m vq0_n vq0_length vq0_where vq0_effort vq0_thrown vq0_at vq0_scaled vq0_solved vq0_second vq0_nm vq0_nn vq0_number vq0_bad vq0_a vq0_b vq0_c) H → va_D A (w_M_begin T q0 q0_a q0_b q0_c q0_rowScale q0_columnScale q0_sa q0_sb q0_sc q0_x q0_s q0_y q0_p q0_d q0_h q0_f q0_mm q0_low q0_dd q0_r q0_big q0_dt q0_dx q0_t q0_cost q0_rowScaleNow q0_columnScaleNow q0_basic q0_text q0_turned q0_na q0_nb q0_nc vq0_m vq0_n vq0_length vq0_where vq0_effort vq0_thrown vq0_at vq0_scaled vq0_solved vq0_second vq0_nm vq0_nn vq0_number vq0_bad vq0_a vq0_b vq0_c) → va_S A s.heap H locs → lv_has ls 4 [(0, .ref q0), (1, .int x1), (2, .int x2), (3, .int x3)] → s_M_begin_L70 vq0_m vq0_n vq0_length vq0_where vq0_effort vq0_thrown vq0_at vq0_scaled vq0_solved vq0_second vq0_nm vq0_nn vq0_number vq0_bad vq0_a vq0_b vq0_c x1 x2 x3 = some rm → W p l e (rmk 1 22) s m args below meth c H locs 0 0 Q (F0 m 70 ls []) := by
    intro vq0_m vq0_n vq0_thrown vq0_solved vq0_a vq0_b vq0_c x1 x2 x3 H locs ls hP hD hS hl h
    unfold s_M_begin_L70 at h
    obtain ⟨ul70, hul70, h⟩ := bi_some h
    refine loopO_W (Wh := fun (st : (Nat → UInt64) × Int32) => ∀ (H : Heap) (locs : List Loc) (ls : Array Slot), va_P D CL (w_M_begin T q0 q0_a q0_b q0_c q0_rowScale q0_columnScale q0_sa q0_sb q0_sc q0_x q0_s q0_y q0_p q0_d q0_h q0_f q0_mm q0_low q0_dd q0_r q0_big q0_dt q0_dx q0_t q0_cost q0_rowScaleNow q0_columnScaleNow q0_basic q0_text q0_turned q0_na q0_nb q0_nc vq0_m vq0_n vq0_length vq0_where vq0_effort vq0_thrown vq0_at vq0_scaled vq0_solved vq0_second vq0_nm vq0_nn vq0_number vq0_bad vq0_a st.1 vq0_c) H → va_D A (w_M_begin T q0 q0_a q0_b q0_c q0_rowScale q0_columnScale q0_sa q0_sb q0_sc q0_x q0_s q0_y q0_p q0_d q0_h q0_f q0_mm q0_low q0_dd q0_r q0_big q0_dt q0_dx q0_t q0_cost q0_rowScaleNow q0_columnScaleNow q0_basic q0_text q0_turned q0_na q0_nb q0_nc vq0_m vq0_n vq0_length vq0_where vq0_effort vq0_thrown vq0_at vq0_scaled vq0_solved vq0_second vq0_nm vq0_nn vq0_number vq0_bad vq0_a st.1 vq0_c) → va_S A s.heap H locs → lv_has ls 4 [(0, .ref q0), (1, .int x1), (2, .int x2), (3, .int st.2)] → W p l e (rmk 1 22) s m args below meth c H locs 0 0 Q (F0 m 70 ls [])) (Wx := fun (e1 : (Nat → UInt64)) => ∀ (H : Heap) (locs : List Loc) (ls : Array Slot), va_P D CL (w_M_begin T q0 q0_a q0_b q0_c q0_rowScale q0_columnScale q0_sa q0_sb q0_sc q0_x q0_s q0_y q0_p q0_d q0_h q0_f q0_mm q0_low q0_dd q0_r q0_big q0_dt q0_dx q0_t q0_cost q0_rowScaleNow q0_columnScaleNow q0_basic q0_text q0_turned q0_na q0_nb q0_nc vq0_m vq0_n vq0_length vq0_where vq0_effort vq0_thrown vq0_at vq0_scaled vq0_solved vq0_second vq0_nm vq0_nn vq0_number vq0_bad vq0_a e1 vq0_c) H → va_D A (w_M_begin T q0 q0_a q0_b q0_c q0_rowScale q0_columnScale q0_sa q0_sb q0_sc q0_x q0_s q0_y q0_p q0_d q0_h q0_f q0_mm q0_low q0_dd q0_r q0_big q0_dt q0_dx q0_t q0_cost q0_rowScaleNow q0_columnScaleNow q0_basic q0_text q0_turned q0_na q0_nb q0_nc vq0_m vq0_n vq0_length vq0_where vq0_effort vq0_thrown vq0_at vq0_scaled vq0_solved vq0_second vq0_nm vq0_nn vq0_number vq0_bad vq0_a e1 vq0_c) → va_S A s.heap H locs → lv_has ls 4 [(0, .ref q0), (1, .int x1), (2, .int x2)] → W p l e (rmk 1 22) s m args below meth c H locs 0 0 Q (F0 m 88 ls [])) ?_ 2000 _ ul70 hul70 ?_ H locs ls hP hD hS hl
    · intro st rb70 h kc70 kx70 H locs ls hP hD hS hl
      obtain ⟨vq0_b, x3⟩ := st
      have h : s_M_begin_B70 vq0_m vq0_n vq0_length vq0_where vq0_effort vq0_thrown vq0_at vq0_scaled vq0_solved vq0_second vq0_nm vq0_nn vq0_number vq0_bad vq0_a vq0_c x1 x2 vq0_b x3 = some rb70 := h
      unfold s_M_begin_B70 at h
      refine lv_iload_n hx hb d_M_begin_70 rfl (lv_at hl 3 rfl) ?_
      refine lv_iconst (v := 5) hx hb d_M_begin_71 (by decide) ?_
      refine lv_icmp_ge (tgt := 88) hx hb d_M_begin_72 (by decide) (fun c4 => ?_) (fun c4 => ?_)
      · have h := it_t c4 h
        exact kx70 _ (Option.some.inj h).symm H locs ls hP hD hS (lv_sub hl [0, 1, 2] rfl)
      · have h := it_f c4 h
        refine lv_aload_n hx hb d_M_begin_75 rfl (lv_at hl 0 rfl) ?_
        refine va_get (D := D) (ci := 8) (v := .ref q0_b) (C := "ConeForgeModel") (T := FM) (N := 46) hx hb hts iM hown hK hP 0 rfl rfl 1 (by decide) (hts _ (bgc bw685)) (fun _ h9 => h9) rfl d_M_begin_76 ?_
        refine lv_iload_n hx hb d_M_begin_79 rfl (lv_at hl 3 rfl) ?_
        refine lv_dconst0 hx hb d_M_begin_80 ?_
        obtain ⟨g5, h⟩ := gd_some h
        refine va_dast hx hb hK hP hD hS 2 0 rfl rfl (inb_in g5) d_M_begin_81 (fun H locs hP hD hS => ?_)
        have hP : va_P D CL (w_M_begin T q0 q0_a q0_b q0_c q0_rowScale q0_columnScale q0_sa q0_sb q0_sc q0_x q0_s q0_y q0_p q0_d q0_h q0_f q0_mm q0_low q0_dd q0_r q0_big q0_dt q0_dx q0_t q0_cost q0_rowScaleNow q0_columnScaleNow q0_basic q0_text q0_turned q0_na q0_nb q0_nc vq0_m vq0_n vq0_length vq0_where vq0_effort vq0_thrown vq0_at vq0_scaled vq0_solved vq0_second vq0_nm vq0_nn vq0_number vq0_bad vq0_a (vf_upd vq0_b x3.toNatClampNeg FP.dconst0) vq0_c) H := hP
        have hD : va_D A (w_M_begin T q0 q0_a q0_b q0_c q0_rowScale q0_columnScale q0_sa q0_sb q0_sc q0_x q0_s q0_y q0_p q0_d q0_h q0_f q0_mm q0_low q0_dd q0_r q0_big q0_dt q0_dx q0_t q0_cost q0_rowScaleNow q0_columnScaleNow q0_basic q0_text q0_turned q0_na q0_nb q0_nc vq0_m vq0_n vq0_length vq0_where vq0_effort vq0_thrown vq0_at vq0_scaled vq0_solved vq0_second vq0_nm vq0_nn vq0_number vq0_bad vq0_a (vf_upd vq0_b x3.toNatClampNeg FP.dconst0) vq0_c) := hD
        refine lv_iinc (v := x3 + 1) (lv' := [(3, .int (x3 + 1)), (0, .ref q0), (1, .int x1), (2, .int x2)]) hx hb d_M_begin_82 hl (k := 3) rfl rfl (by decide) rfl (fun ls hl => ?_)
        refine lv_goto (tgt := 70) hx hb d_M_begin_85 (by decide) ?_
        exact kc70 _ (Option.some.inj h).symm H locs ls hP hD hS (lv_sub hl [1, 2, 3, 0] rfl)
    · intro H locs ls hP hD hS hl
      refine lv_iconst (v := 0) hx hb d_M_begin_88 (by decide) ?_
      refine lv_istore_n (lv' := [(3, .int 0), (0, .ref q0), (1, .int x1), (2, .int x2)]) hx hb d_M_begin_89 rfl hl (by decide) rfl (fun ls hl => ?_)
      exact L90 vq0_m vq0_n vq0_thrown vq0_solved vq0_a ul70 vq0_c x1 x2 0 H locs ls hP hD hS (lv_sub hl [1, 2, 3, 0] rfl) h
  have L49 : ∀ (vq0_m : Int32) (vq0_n : Int32) (vq0_thrown : Int32) (vq0_solved : Int32) (vq0_a : Nat → UInt64) (vq0_b : Nat → UInt64) (vq0_c : Nat → UInt64) (x1 : Int32) (x2 : Int32) (x3 : Int32), ∀ (H : Heap) (locs : List Loc) (ls : Array Slot), va_P D CL (w_M_begin T q0 q0_a q0_b q0_c q0_rowScale q0_columnScale q0_sa q0_sb q0_sc q0_x q0_s q0_y q0_p q0_d q0_h q0_f q0_mm q0_low q0_dd q0_r q0_big q0_dt q0_dx q0_t q0_cost q0_rowScaleNow q0_columnScaleNow q0_basic q0_text q0_turned q0_na q0_nb q0_nc vq0_m vq0_n vq0_length vq0_where vq0_effort vq0_thrown vq0_at vq0_scaled vq0_solved vq0_second vq0_nm vq0_nn vq0_number vq0_bad vq0_a vq0_b vq0_c) H → va_D A (w_M_begin T q0 q0_a q0_b q0_c q0_rowScale q0_columnScale q0_sa q0_sb q0_sc q0_x q0_s q0_y q0_p q0_d q0_h q0_f q0_mm q0_low q0_dd q0_r q0_big q0_dt q0_dx q0_t q0_cost q0_rowScaleNow q0_columnScaleNow q0_basic q0_text q0_turned q0_na q0_nb q0_nc vq0_m vq0_n vq0_length vq0_where vq0_effort vq0_thrown vq0_at vq0_scaled vq0_solved vq0_second vq0_nm vq0_nn vq0_number vq0_bad vq0_a vq0_b vq0_c) → va_S A s.heap H locs → lv_has ls 4 [(0, .ref q0), (1, .int x1), (2, .int x2), (3, .int x3)] → s_M_begin_L49 vq0_m vq0_n vq0_length vq0_where vq0_effort vq0_thrown vq0_at vq0_scaled vq0_solved vq0_second vq0_nm vq0_nn vq0_number vq0_bad vq0_a vq0_b vq0_c x1 x2 x3 = some rm → W p l e (rmk 1 22) s m args below meth c H locs 0 0 Q (F0 m 49 ls []) := by
    intro vq0_m vq0_n vq0_thrown vq0_solved vq0_a vq0_b vq0_c x1 x2 x3 H locs ls hP hD hS hl h
    unfold s_M_begin_L49 at h
    obtain ⟨ul49, hul49, h⟩ := bi_some h
    refine loopO_W (Wh := fun (st : (Nat → UInt64) × Int32) => ∀ (H : Heap) (locs : List Loc) (ls : Array Slot), va_P D CL (w_M_begin T q0 q0_a q0_b q0_c q0_rowScale q0_columnScale q0_sa q0_sb q0_sc q0_x q0_s q0_y q0_p q0_d q0_h q0_f q0_mm q0_low q0_dd q0_r q0_big q0_dt q0_dx q0_t q0_cost q0_rowScaleNow q0_columnScaleNow q0_basic q0_text q0_turned q0_na q0_nb q0_nc vq0_m vq0_n vq0_length vq0_where vq0_effort vq0_thrown vq0_at vq0_scaled vq0_solved vq0_second vq0_nm vq0_nn vq0_number vq0_bad st.1 vq0_b vq0_c) H → va_D A (w_M_begin T q0 q0_a q0_b q0_c q0_rowScale q0_columnScale q0_sa q0_sb q0_sc q0_x q0_s q0_y q0_p q0_d q0_h q0_f q0_mm q0_low q0_dd q0_r q0_big q0_dt q0_dx q0_t q0_cost q0_rowScaleNow q0_columnScaleNow q0_basic q0_text q0_turned q0_na q0_nb q0_nc vq0_m vq0_n vq0_length vq0_where vq0_effort vq0_thrown vq0_at vq0_scaled vq0_solved vq0_second vq0_nm vq0_nn vq0_number vq0_bad st.1 vq0_b vq0_c) → va_S A s.heap H locs → lv_has ls 4 [(0, .ref q0), (1, .int x1), (2, .int x2), (3, .int st.2)] → W p l e (rmk 1 22) s m args below meth c H locs 0 0 Q (F0 m 49 ls [])) (Wx := fun (e1 : (Nat → UInt64)) => ∀ (H : Heap) (locs : List Loc) (ls : Array Slot), va_P D CL (w_M_begin T q0 q0_a q0_b q0_c q0_rowScale q0_columnScale q0_sa q0_sb q0_sc q0_x q0_s q0_y q0_p q0_d q0_h q0_f q0_mm q0_low q0_dd q0_r q0_big q0_dt q0_dx q0_t q0_cost q0_rowScaleNow q0_columnScaleNow q0_basic q0_text q0_turned q0_na q0_nb q0_nc vq0_m vq0_n vq0_length vq0_where vq0_effort vq0_thrown vq0_at vq0_scaled vq0_solved vq0_second vq0_nm vq0_nn vq0_number vq0_bad e1 vq0_b vq0_c) H → va_D A (w_M_begin T q0 q0_a q0_b q0_c q0_rowScale q0_columnScale q0_sa q0_sb q0_sc q0_x q0_s q0_y q0_p q0_d q0_h q0_f q0_mm q0_low q0_dd q0_r q0_big q0_dt q0_dx q0_t q0_cost q0_rowScaleNow q0_columnScaleNow q0_basic q0_text q0_turned q0_na q0_nb q0_nc vq0_m vq0_n vq0_length vq0_where vq0_effort vq0_thrown vq0_at vq0_scaled vq0_solved vq0_second vq0_nm vq0_nn vq0_number vq0_bad e1 vq0_b vq0_c) → va_S A s.heap H locs → lv_has ls 4 [(0, .ref q0), (1, .int x1), (2, .int x2)] → W p l e (rmk 1 22) s m args below meth c H locs 0 0 Q (F0 m 68 ls [])) ?_ 2000 _ ul49 hul49 ?_ H locs ls hP hD hS hl
    · intro st rb49 h kc49 kx49 H locs ls hP hD hS hl
      obtain ⟨vq0_a, x3⟩ := st
      have h : s_M_begin_B49 vq0_m vq0_n vq0_length vq0_where vq0_effort vq0_thrown vq0_at vq0_scaled vq0_solved vq0_second vq0_nm vq0_nn vq0_number vq0_bad vq0_b vq0_c x1 x2 vq0_a x3 = some rb49 := h
      unfold s_M_begin_B49 at h
      refine lv_iload_n hx hb d_M_begin_49 rfl (lv_at hl 3 rfl) ?_
      refine lv_bipush (v := 40) hx hb d_M_begin_50 (by decide) ?_
      refine lv_icmp_ge (tgt := 68) hx hb d_M_begin_52 (by decide) (fun c6 => ?_) (fun c6 => ?_)
      · have h := it_t c6 h
        exact kx49 _ (Option.some.inj h).symm H locs ls hP hD hS (lv_sub hl [0, 1, 2] rfl)
      · have h := it_f c6 h
        refine lv_aload_n hx hb d_M_begin_55 rfl (lv_at hl 0 rfl) ?_
        refine va_get (D := D) (ci := 8) (v := .ref q0_a) (C := "ConeForgeModel") (T := FM) (N := 46) hx hb hts iM hown hK hP 0 rfl rfl 0 (by decide) (hts _ (bgc bw684)) (fun _ h9 => h9) rfl d_M_begin_56 ?_
        refine lv_iload_n hx hb d_M_begin_59 rfl (lv_at hl 3 rfl) ?_
        refine lv_dconst0 hx hb d_M_begin_60 ?_
        obtain ⟨g7, h⟩ := gd_some h
        refine va_dast hx hb hK hP hD hS 1 0 rfl rfl (inb_in g7) d_M_begin_61 (fun H locs hP hD hS => ?_)
        have hP : va_P D CL (w_M_begin T q0 q0_a q0_b q0_c q0_rowScale q0_columnScale q0_sa q0_sb q0_sc q0_x q0_s q0_y q0_p q0_d q0_h q0_f q0_mm q0_low q0_dd q0_r q0_big q0_dt q0_dx q0_t q0_cost q0_rowScaleNow q0_columnScaleNow q0_basic q0_text q0_turned q0_na q0_nb q0_nc vq0_m vq0_n vq0_length vq0_where vq0_effort vq0_thrown vq0_at vq0_scaled vq0_solved vq0_second vq0_nm vq0_nn vq0_number vq0_bad (vf_upd vq0_a x3.toNatClampNeg FP.dconst0) vq0_b vq0_c) H := hP
        have hD : va_D A (w_M_begin T q0 q0_a q0_b q0_c q0_rowScale q0_columnScale q0_sa q0_sb q0_sc q0_x q0_s q0_y q0_p q0_d q0_h q0_f q0_mm q0_low q0_dd q0_r q0_big q0_dt q0_dx q0_t q0_cost q0_rowScaleNow q0_columnScaleNow q0_basic q0_text q0_turned q0_na q0_nb q0_nc vq0_m vq0_n vq0_length vq0_where vq0_effort vq0_thrown vq0_at vq0_scaled vq0_solved vq0_second vq0_nm vq0_nn vq0_number vq0_bad (vf_upd vq0_a x3.toNatClampNeg FP.dconst0) vq0_b vq0_c) := hD
        refine lv_iinc (v := x3 + 1) (lv' := [(3, .int (x3 + 1)), (0, .ref q0), (1, .int x1), (2, .int x2)]) hx hb d_M_begin_62 hl (k := 3) rfl rfl (by decide) rfl (fun ls hl => ?_)
        refine lv_goto (tgt := 49) hx hb d_M_begin_65 (by decide) ?_
        exact kc49 _ (Option.some.inj h).symm H locs ls hP hD hS (lv_sub hl [1, 2, 3, 0] rfl)
    · intro H locs ls hP hD hS hl
      refine lv_iconst (v := 0) hx hb d_M_begin_68 (by decide) ?_
      refine lv_istore_n (lv' := [(3, .int 0), (0, .ref q0), (1, .int x1), (2, .int x2)]) hx hb d_M_begin_69 rfl hl (by decide) rfl (fun ls hl => ?_)
      exact L70 vq0_m vq0_n vq0_thrown vq0_solved ul49 vq0_b vq0_c x1 x2 0 H locs ls hP hD hS (lv_sub hl [1, 2, 3, 0] rfl) h
  unfold s_M_begin at h
  refine lv_aload_n hx hb d_M_begin_0 rfl (lv_at hl 0 rfl) ?_
  refine lv_iload_n hx hb d_M_begin_1 rfl (lv_at hl 1 rfl) ?_
  refine lv_iconst (v := 1) hx hb d_M_begin_2 (by decide) ?_
  refine lv_iconst (v := 5) hx hb d_M_begin_3 (by decide) ?_
  obtain ⟨u8, hu8, h⟩ := bi_some h
  have jj9 := j_M_begin_4 T q0 q0_a q0_b q0_c q0_rowScale q0_columnScale q0_sa q0_sb q0_sc q0_x q0_s q0_y q0_p q0_d q0_h q0_f q0_mm q0_low q0_dd q0_r q0_big q0_dt q0_dx q0_t q0_cost q0_rowScaleNow q0_columnScaleNow q0_basic q0_text q0_turned q0_na q0_nb q0_nc vq0_m vq0_n vq0_length vq0_where vq0_effort vq0_thrown vq0_at vq0_scaled vq0_solved vq0_second vq0_nm vq0_nn vq0_number vq0_bad vq0_a vq0_b vq0_c
  refine kI2 (v := u8) (wc := (w_M_in T  )) (wc' := (w_M_in T  )) (w_M_begin T q0 q0_a q0_b q0_c q0_rowScale q0_columnScale q0_sa q0_sb q0_sc q0_x q0_s q0_y q0_p q0_d q0_h q0_f q0_mm q0_low q0_dd q0_r q0_big q0_dt q0_dx q0_t q0_cost q0_rowScaleNow q0_columnScaleNow q0_basic q0_text q0_turned q0_na q0_nb q0_nc vq0_m vq0_n vq0_length vq0_where vq0_effort vq0_thrown vq0_at vq0_scaled vq0_solved vq0_second vq0_nm vq0_nn vq0_number vq0_bad vq0_a vq0_b vq0_c) (runOS (As := [.int x1, .int 1, .int 5]) (rest := [.ref q0]) ((c_M_in l D T   x1 1 5 u8 hu8) H.size) ⟨hx, hb, hml, hown, hts⟩ (cwOS bw785 bw786 bw105 bw787 dd_M_in hts ⟨Nat.le_of_ble_eq_true rfl, Nat.le_of_ble_eq_true rfl⟩)  hNW hK hP hD [] jj9.1 (by decide) rfl hl.1 rfl (lv_room (Nat.le_of_ble_eq_true rfl)) d_M_begin_4 ⟨Nat.le_of_ble_eq_true rfl, Nat.le_of_ble_eq_true rfl⟩) hP hD hS hA [] [0, 1, 2, 3] jj9.1 jj9.2.1 jj9.2.2.1 (N := 4) jj9.2.2.2.2 (by decide) jj9.2.2.2.1 (fun H locs hP hD hS => ?_)
  refine lv_if_eq (tgt := 24) hx hb d_M_begin_7 (by decide) (fun c10 => ?_) (fun c10 => ?_)
  · have h := it_t c10 h
    refine lv_iconst (v := 1) hx hb d_M_begin_24 (by decide) ?_
    refine va_put (D := D) (ci := 8) (v := .int 1) (ty := .int) (C := "ConeForgeModel") (T := FM) (N := 46) hx hb hts iM tM tM_ok nmM hown hK hP hD hS 0 rfl rfl 34 (by decide) (hts _ (bgc bw718)) (fun _ h9 => h9) rfl (by decide +kernel) rfl rfl (Nat.le_of_ble_eq_true rfl) d_M_begin_25 (fun H locs hP hD hS => ?_)
    have hP : va_P D CL (w_M_begin T q0 q0_a q0_b q0_c q0_rowScale q0_columnScale q0_sa q0_sb q0_sc q0_x q0_s q0_y q0_p q0_d q0_h q0_f q0_mm q0_low q0_dd q0_r q0_big q0_dt q0_dx q0_t q0_cost q0_rowScaleNow q0_columnScaleNow q0_basic q0_text q0_turned q0_na q0_nb q0_nc vq0_m vq0_n vq0_length vq0_where vq0_effort 1 vq0_at vq0_scaled vq0_solved vq0_second vq0_nm vq0_nn vq0_number vq0_bad vq0_a vq0_b vq0_c) H := hP
    have hD : va_D A (w_M_begin T q0 q0_a q0_b q0_c q0_rowScale q0_columnScale q0_sa q0_sb q0_sc q0_x q0_s q0_y q0_p q0_d q0_h q0_f q0_mm q0_low q0_dd q0_r q0_big q0_dt q0_dx q0_t q0_cost q0_rowScaleNow q0_columnScaleNow q0_basic q0_text q0_turned q0_na q0_nb q0_nc vq0_m vq0_n vq0_length vq0_where vq0_effort 1 vq0_at vq0_scaled vq0_solved vq0_second vq0_nm vq0_nn vq0_number vq0_bad vq0_a vq0_b vq0_c) := hD
    refine lv_aload_n hx hb d_M_begin_28 rfl (lv_at hl 0 rfl) ?_
    refine va_get (D := D) (ci := 8) (v := .int 1) (C := "ConeForgeModel") (T := FM) (N := 46) hx hb hts iM hown hK hP 0 rfl rfl 34 (by decide) (hts _ (bgc bw718)) (fun _ h9 => h9) rfl d_M_begin_29 ?_
    refine lv_if_le (tgt := 37) hx hb d_M_begin_32 (by decide) (fun c11 => ?_) (fun c11 => ?_)
    · have h := it_t c11 h
      refine lv_aload_n hx hb d_M_begin_37 rfl (lv_at hl 0 rfl) ?_
      refine lv_iload_n hx hb d_M_begin_38 rfl (lv_at hl 1 rfl) ?_
      refine va_put (D := D) (ci := 8) (v := .int x1) (ty := .int) (C := "ConeForgeModel") (T := FM) (N := 46) hx hb hts iM tM tM_ok nmM hown hK hP hD hS 0 rfl rfl 29 (by decide) (hts _ (bgc bw713)) (fun _ h9 => h9) rfl (by decide +kernel) rfl rfl (Nat.le_of_ble_eq_true rfl) d_M_begin_39 (fun H locs hP hD hS => ?_)
      have hP : va_P D CL (w_M_begin T q0 q0_a q0_b q0_c q0_rowScale q0_columnScale q0_sa q0_sb q0_sc q0_x q0_s q0_y q0_p q0_d q0_h q0_f q0_mm q0_low q0_dd q0_r q0_big q0_dt q0_dx q0_t q0_cost q0_rowScaleNow q0_columnScaleNow q0_basic q0_text q0_turned q0_na q0_nb q0_nc x1 vq0_n vq0_length vq0_where vq0_effort 1 vq0_at vq0_scaled vq0_solved vq0_second vq0_nm vq0_nn vq0_number vq0_bad vq0_a vq0_b vq0_c) H := hP
      have hD : va_D A (w_M_begin T q0 q0_a q0_b q0_c q0_rowScale q0_columnScale q0_sa q0_sb q0_sc q0_x q0_s q0_y q0_p q0_d q0_h q0_f q0_mm q0_low q0_dd q0_r q0_big q0_dt q0_dx q0_t q0_cost q0_rowScaleNow q0_columnScaleNow q0_basic q0_text q0_turned q0_na q0_nb q0_nc x1 vq0_n vq0_length vq0_where vq0_effort 1 vq0_at vq0_scaled vq0_solved vq0_second vq0_nm vq0_nn vq0_number vq0_bad vq0_a vq0_b vq0_c) := hD
      refine lv_aload_n hx hb d_M_begin_42 rfl (lv_at hl 0 rfl) ?_
      refine lv_iload_n hx hb d_M_begin_43 rfl (lv_at hl 2 rfl) ?_
      refine va_put (D := D) (ci := 8) (v := .int x2) (ty := .int) (C := "ConeForgeModel") (T := FM) (N := 46) hx hb hts iM tM tM_ok nmM hown hK hP hD hS 0 rfl rfl 30 (by decide) (hts _ (bgc bw714)) (fun _ h9 => h9) rfl (by decide +kernel) rfl rfl (Nat.le_of_ble_eq_true rfl) d_M_begin_44 (fun H locs hP hD hS => ?_)
      have hP : va_P D CL (w_M_begin T q0 q0_a q0_b q0_c q0_rowScale q0_columnScale q0_sa q0_sb q0_sc q0_x q0_s q0_y q0_p q0_d q0_h q0_f q0_mm q0_low q0_dd q0_r q0_big q0_dt q0_dx q0_t q0_cost q0_rowScaleNow q0_columnScaleNow q0_basic q0_text q0_turned q0_na q0_nb q0_nc x1 x2 vq0_length vq0_where vq0_effort 1 vq0_at vq0_scaled vq0_solved vq0_second vq0_nm vq0_nn vq0_number vq0_bad vq0_a vq0_b vq0_c) H := hP
      have hD : va_D A (w_M_begin T q0 q0_a q0_b q0_c q0_rowScale q0_columnScale q0_sa q0_sb q0_sc q0_x q0_s q0_y q0_p q0_d q0_h q0_f q0_mm q0_low q0_dd q0_r q0_big q0_dt q0_dx q0_t q0_cost q0_rowScaleNow q0_columnScaleNow q0_basic q0_text q0_turned q0_na q0_nb q0_nc x1 x2 vq0_length vq0_where vq0_effort 1 vq0_at vq0_scaled vq0_solved vq0_second vq0_nm vq0_nn vq0_number vq0_bad vq0_a vq0_b vq0_c) := hD
      refine lv_iconst (v := 0) hx hb d_M_begin_47 (by decide) ?_
      refine lv_istore_n (lv' := [(3, .int 0), (0, .ref q0), (1, .int x1), (2, .int x2)]) hx hb d_M_begin_48 rfl hl (by decide) rfl (fun ls hl => ?_)
      exact L49 x1 x2 1 vq0_solved vq0_a vq0_b vq0_c x1 x2 0 H locs ls hP hD hS (lv_sub hl [1, 2, 3, 0] rfl) h
    · have h := it_f c11 h
      refine lv_iconst (v := 0) hx hb d_M_begin_35 (by decide) ?_
      exact rtI hx hb hr hlocks hQ (Option.some.inj h) hP hS d_M_begin_36 rfl rfl
  · have h := it_f c10 h
    refine lv_iload_n hx hb d_M_begin_10 rfl (lv_at hl 2 rfl) ?_
    refine lv_iconst (v := 1) hx hb d_M_begin_11 (by decide) ?_
    refine lv_bipush (v := 8) hx hb d_M_begin_12 (by decide) ?_
    obtain ⟨u12, hu12, h⟩ := bi_some h
    have jj13 := j_M_begin_14 T q0 q0_a q0_b q0_c q0_rowScale q0_columnScale q0_sa q0_sb q0_sc q0_x q0_s q0_y q0_p q0_d q0_h q0_f q0_mm q0_low q0_dd q0_r q0_big q0_dt q0_dx q0_t q0_cost q0_rowScaleNow q0_columnScaleNow q0_basic q0_text q0_turned q0_na q0_nb q0_nc vq0_m vq0_n vq0_length vq0_where vq0_effort vq0_thrown vq0_at vq0_scaled vq0_solved vq0_second vq0_nm vq0_nn vq0_number vq0_bad vq0_a vq0_b vq0_c
    refine kI2 (v := u12) (wc := (w_M_in T  )) (wc' := (w_M_in T  )) (w_M_begin T q0 q0_a q0_b q0_c q0_rowScale q0_columnScale q0_sa q0_sb q0_sc q0_x q0_s q0_y q0_p q0_d q0_h q0_f q0_mm q0_low q0_dd q0_r q0_big q0_dt q0_dx q0_t q0_cost q0_rowScaleNow q0_columnScaleNow q0_basic q0_text q0_turned q0_na q0_nb q0_nc vq0_m vq0_n vq0_length vq0_where vq0_effort vq0_thrown vq0_at vq0_scaled vq0_solved vq0_second vq0_nm vq0_nn vq0_number vq0_bad vq0_a vq0_b vq0_c) (runOS (As := [.int x2, .int 1, .int 8]) (rest := [.ref q0]) ((c_M_in l D T   x2 1 8 u12 hu12) H.size) ⟨hx, hb, hml, hown, hts⟩ (cwOS bw785 bw786 bw105 bw787 dd_M_in hts ⟨Nat.le_of_ble_eq_true rfl, Nat.le_of_ble_eq_true rfl⟩)  hNW hK hP hD [] jj13.1 (by decide) rfl hl.1 rfl (lv_room (Nat.le_of_ble_eq_true rfl)) d_M_begin_14 ⟨Nat.le_of_ble_eq_true rfl, Nat.le_of_ble_eq_true rfl⟩) hP hD hS hA [] [0, 1, 2, 3] jj13.1 jj13.2.1 jj13.2.2.1 (N := 4) jj13.2.2.2.2 (by decide) jj13.2.2.2.1 (fun H locs hP hD hS => ?_)
    refine lv_if_eq (tgt := 24) hx hb d_M_begin_17 (by decide) (fun c14 => ?_) (fun c14 => ?_)
    · have h := it_t c14 h
      refine lv_iconst (v := 1) hx hb d_M_begin_24 (by decide) ?_
      refine va_put (D := D) (ci := 8) (v := .int 1) (ty := .int) (C := "ConeForgeModel") (T := FM) (N := 46) hx hb hts iM tM tM_ok nmM hown hK hP hD hS 0 rfl rfl 34 (by decide) (hts _ (bgc bw718)) (fun _ h9 => h9) rfl (by decide +kernel) rfl rfl (Nat.le_of_ble_eq_true rfl) d_M_begin_25 (fun H locs hP hD hS => ?_)
      have hP : va_P D CL (w_M_begin T q0 q0_a q0_b q0_c q0_rowScale q0_columnScale q0_sa q0_sb q0_sc q0_x q0_s q0_y q0_p q0_d q0_h q0_f q0_mm q0_low q0_dd q0_r q0_big q0_dt q0_dx q0_t q0_cost q0_rowScaleNow q0_columnScaleNow q0_basic q0_text q0_turned q0_na q0_nb q0_nc vq0_m vq0_n vq0_length vq0_where vq0_effort 1 vq0_at vq0_scaled vq0_solved vq0_second vq0_nm vq0_nn vq0_number vq0_bad vq0_a vq0_b vq0_c) H := hP
      have hD : va_D A (w_M_begin T q0 q0_a q0_b q0_c q0_rowScale q0_columnScale q0_sa q0_sb q0_sc q0_x q0_s q0_y q0_p q0_d q0_h q0_f q0_mm q0_low q0_dd q0_r q0_big q0_dt q0_dx q0_t q0_cost q0_rowScaleNow q0_columnScaleNow q0_basic q0_text q0_turned q0_na q0_nb q0_nc vq0_m vq0_n vq0_length vq0_where vq0_effort 1 vq0_at vq0_scaled vq0_solved vq0_second vq0_nm vq0_nn vq0_number vq0_bad vq0_a vq0_b vq0_c) := hD
      refine lv_aload_n hx hb d_M_begin_28 rfl (lv_at hl 0 rfl) ?_
      refine va_get (D := D) (ci := 8) (v := .int 1) (C := "ConeForgeModel") (T := FM) (N := 46) hx hb hts iM hown hK hP 0 rfl rfl 34 (by decide) (hts _ (bgc bw718)) (fun _ h9 => h9) rfl d_M_begin_29 ?_
      refine lv_if_le (tgt := 37) hx hb d_M_begin_32 (by decide) (fun c15 => ?_) (fun c15 => ?_)
      · have h := it_t c15 h
        refine lv_aload_n hx hb d_M_begin_37 rfl (lv_at hl 0 rfl) ?_
        refine lv_iload_n hx hb d_M_begin_38 rfl (lv_at hl 1 rfl) ?_
        refine va_put (D := D) (ci := 8) (v := .int x1) (ty := .int) (C := "ConeForgeModel") (T := FM) (N := 46) hx hb hts iM tM tM_ok nmM hown hK hP hD hS 0 rfl rfl 29 (by decide) (hts _ (bgc bw713)) (fun _ h9 => h9) rfl (by decide +kernel) rfl rfl (Nat.le_of_ble_eq_true rfl) d_M_begin_39 (fun H locs hP hD hS => ?_)
        have hP : va_P D CL (w_M_begin T q0 q0_a q0_b q0_c q0_rowScale q0_columnScale q0_sa q0_sb q0_sc q0_x q0_s q0_y q0_p q0_d q0_h q0_f q0_mm q0_low q0_dd q0_r q0_big q0_dt q0_dx q0_t q0_cost q0_rowScaleNow q0_columnScaleNow q0_basic q0_text q0_turned q0_na q0_nb q0_nc x1 vq0_n vq0_length vq0_where vq0_effort 1 vq0_at vq0_scaled vq0_solved vq0_second vq0_nm vq0_nn vq0_number vq0_bad vq0_a vq0_b vq0_c) H := hP
        have hD : va_D A (w_M_begin T q0 q0_a q0_b q0_c q0_rowScale q0_columnScale q0_sa q0_sb q0_sc q0_x q0_s q0_y q0_p q0_d q0_h q0_f q0_mm q0_low q0_dd q0_r q0_big q0_dt q0_dx q0_t q0_cost q0_rowScaleNow q0_columnScaleNow q0_basic q0_text q0_turned q0_na q0_nb q0_nc x1 vq0_n vq0_length vq0_where vq0_effort 1 vq0_at vq0_scaled vq0_solved vq0_second vq0_nm vq0_nn vq0_number vq0_bad vq0_a vq0_b vq0_c) := hD
        refine lv_aload_n hx hb d_M_begin_42 rfl (lv_at hl 0 rfl) ?_
        refine lv_iload_n hx hb d_M_begin_43 rfl (lv_at hl 2 rfl) ?_
        refine va_put (D := D) (ci := 8) (v := .int x2) (ty := .int) (C := "ConeForgeModel") (T := FM) (N := 46) hx hb hts iM tM tM_ok nmM hown hK hP hD hS 0 rfl rfl 30 (by decide) (hts _ (bgc bw714)) (fun _ h9 => h9) rfl (by decide +kernel) rfl rfl (Nat.le_of_ble_eq_true rfl) d_M_begin_44 (fun H locs hP hD hS => ?_)
        have hP : va_P D CL (w_M_begin T q0 q0_a q0_b q0_c q0_rowScale q0_columnScale q0_sa q0_sb q0_sc q0_x q0_s q0_y q0_p q0_d q0_h q0_f q0_mm q0_low q0_dd q0_r q0_big q0_dt q0_dx q0_t q0_cost q0_rowScaleNow q0_columnScaleNow q0_basic q0_text q0_turned q0_na q0_nb q0_nc x1 x2 vq0_length vq0_where vq0_effort 1 vq0_at vq0_scaled vq0_solved vq0_second vq0_nm vq0_nn vq0_number vq0_bad vq0_a vq0_b vq0_c) H := hP
        have hD : va_D A (w_M_begin T q0 q0_a q0_b q0_c q0_rowScale q0_columnScale q0_sa q0_sb q0_sc q0_x q0_s q0_y q0_p q0_d q0_h q0_f q0_mm q0_low q0_dd q0_r q0_big q0_dt q0_dx q0_t q0_cost q0_rowScaleNow q0_columnScaleNow q0_basic q0_text q0_turned q0_na q0_nb q0_nc x1 x2 vq0_length vq0_where vq0_effort 1 vq0_at vq0_scaled vq0_solved vq0_second vq0_nm vq0_nn vq0_number vq0_bad vq0_a vq0_b vq0_c) := hD
        refine lv_iconst (v := 0) hx hb d_M_begin_47 (by decide) ?_
        refine lv_istore_n (lv' := [(3, .int 0), (0, .ref q0), (1, .int x1), (2, .int x2)]) hx hb d_M_begin_48 rfl hl (by decide) rfl (fun ls hl => ?_)
        exact L49 x1 x2 1 vq0_solved vq0_a vq0_b vq0_c x1 x2 0 H locs ls hP hD hS (lv_sub hl [1, 2, 3, 0] rfl) h
      · have h := it_f c15 h
        refine lv_iconst (v := 0) hx hb d_M_begin_35 (by decide) ?_
        exact rtI hx hb hr hlocks hQ (Option.some.inj h) hP hS d_M_begin_36 rfl rfl
    · have h := it_f c14 h
      refine lv_iconst (v := 0) hx hb d_M_begin_20 (by decide) ?_
      refine lv_goto (tgt := 25) hx hb d_M_begin_21 (by decide) ?_
      refine va_put (D := D) (ci := 8) (v := .int 0) (ty := .int) (C := "ConeForgeModel") (T := FM) (N := 46) hx hb hts iM tM tM_ok nmM hown hK hP hD hS 0 rfl rfl 34 (by decide) (hts _ (bgc bw718)) (fun _ h9 => h9) rfl (by decide +kernel) rfl rfl (Nat.le_of_ble_eq_true rfl) d_M_begin_25 (fun H locs hP hD hS => ?_)
      have hP : va_P D CL (w_M_begin T q0 q0_a q0_b q0_c q0_rowScale q0_columnScale q0_sa q0_sb q0_sc q0_x q0_s q0_y q0_p q0_d q0_h q0_f q0_mm q0_low q0_dd q0_r q0_big q0_dt q0_dx q0_t q0_cost q0_rowScaleNow q0_columnScaleNow q0_basic q0_text q0_turned q0_na q0_nb q0_nc vq0_m vq0_n vq0_length vq0_where vq0_effort 0 vq0_at vq0_scaled vq0_solved vq0_second vq0_nm vq0_nn vq0_number vq0_bad vq0_a vq0_b vq0_c) H := hP
      have hD : va_D A (w_M_begin T q0 q0_a q0_b q0_c q0_rowScale q0_columnScale q0_sa q0_sb q0_sc q0_x q0_s q0_y q0_p q0_d q0_h q0_f q0_mm q0_low q0_dd q0_r q0_big q0_dt q0_dx q0_t q0_cost q0_rowScaleNow q0_columnScaleNow q0_basic q0_text q0_turned q0_na q0_nb q0_nc vq0_m vq0_n vq0_length vq0_where vq0_effort 0 vq0_at vq0_scaled vq0_solved vq0_second vq0_nm vq0_nn vq0_number vq0_bad vq0_a vq0_b vq0_c) := hD
      refine lv_aload_n hx hb d_M_begin_28 rfl (lv_at hl 0 rfl) ?_
      refine va_get (D := D) (ci := 8) (v := .int 0) (C := "ConeForgeModel") (T := FM) (N := 46) hx hb hts iM hown hK hP 0 rfl rfl 34 (by decide) (hts _ (bgc bw718)) (fun _ h9 => h9) rfl d_M_begin_29 ?_
      refine lv_if_le (tgt := 37) hx hb d_M_begin_32 (by decide) (fun c16 => ?_) (fun c16 => ?_)
      · have h := it_t c16 h
        refine lv_aload_n hx hb d_M_begin_37 rfl (lv_at hl 0 rfl) ?_
        refine lv_iload_n hx hb d_M_begin_38 rfl (lv_at hl 1 rfl) ?_
        refine va_put (D := D) (ci := 8) (v := .int x1) (ty := .int) (C := "ConeForgeModel") (T := FM) (N := 46) hx hb hts iM tM tM_ok nmM hown hK hP hD hS 0 rfl rfl 29 (by decide) (hts _ (bgc bw713)) (fun _ h9 => h9) rfl (by decide +kernel) rfl rfl (Nat.le_of_ble_eq_true rfl) d_M_begin_39 (fun H locs hP hD hS => ?_)
        have hP : va_P D CL (w_M_begin T q0 q0_a q0_b q0_c q0_rowScale q0_columnScale q0_sa q0_sb q0_sc q0_x q0_s q0_y q0_p q0_d q0_h q0_f q0_mm q0_low q0_dd q0_r q0_big q0_dt q0_dx q0_t q0_cost q0_rowScaleNow q0_columnScaleNow q0_basic q0_text q0_turned q0_na q0_nb q0_nc x1 vq0_n vq0_length vq0_where vq0_effort 0 vq0_at vq0_scaled vq0_solved vq0_second vq0_nm vq0_nn vq0_number vq0_bad vq0_a vq0_b vq0_c) H := hP
        have hD : va_D A (w_M_begin T q0 q0_a q0_b q0_c q0_rowScale q0_columnScale q0_sa q0_sb q0_sc q0_x q0_s q0_y q0_p q0_d q0_h q0_f q0_mm q0_low q0_dd q0_r q0_big q0_dt q0_dx q0_t q0_cost q0_rowScaleNow q0_columnScaleNow q0_basic q0_text q0_turned q0_na q0_nb q0_nc x1 vq0_n vq0_length vq0_where vq0_effort 0 vq0_at vq0_scaled vq0_solved vq0_second vq0_nm vq0_nn vq0_number vq0_bad vq0_a vq0_b vq0_c) := hD
        refine lv_aload_n hx hb d_M_begin_42 rfl (lv_at hl 0 rfl) ?_
        refine lv_iload_n hx hb d_M_begin_43 rfl (lv_at hl 2 rfl) ?_
        refine va_put (D := D) (ci := 8) (v := .int x2) (ty := .int) (C := "ConeForgeModel") (T := FM) (N := 46) hx hb hts iM tM tM_ok nmM hown hK hP hD hS 0 rfl rfl 30 (by decide) (hts _ (bgc bw714)) (fun _ h9 => h9) rfl (by decide +kernel) rfl rfl (Nat.le_of_ble_eq_true rfl) d_M_begin_44 (fun H locs hP hD hS => ?_)
        have hP : va_P D CL (w_M_begin T q0 q0_a q0_b q0_c q0_rowScale q0_columnScale q0_sa q0_sb q0_sc q0_x q0_s q0_y q0_p q0_d q0_h q0_f q0_mm q0_low q0_dd q0_r q0_big q0_dt q0_dx q0_t q0_cost q0_rowScaleNow q0_columnScaleNow q0_basic q0_text q0_turned q0_na q0_nb q0_nc x1 x2 vq0_length vq0_where vq0_effort 0 vq0_at vq0_scaled vq0_solved vq0_second vq0_nm vq0_nn vq0_number vq0_bad vq0_a vq0_b vq0_c) H := hP
        have hD : va_D A (w_M_begin T q0 q0_a q0_b q0_c q0_rowScale q0_columnScale q0_sa q0_sb q0_sc q0_x q0_s q0_y q0_p q0_d q0_h q0_f q0_mm q0_low q0_dd q0_r q0_big q0_dt q0_dx q0_t q0_cost q0_rowScaleNow q0_columnScaleNow q0_basic q0_text q0_turned q0_na q0_nb q0_nc x1 x2 vq0_length vq0_where vq0_effort 0 vq0_at vq0_scaled vq0_solved vq0_second vq0_nm vq0_nn vq0_number vq0_bad vq0_a vq0_b vq0_c) := hD
        refine lv_iconst (v := 0) hx hb d_M_begin_47 (by decide) ?_
        refine lv_istore_n (lv' := [(3, .int 0), (0, .ref q0), (1, .int x1), (2, .int x2)]) hx hb d_M_begin_48 rfl hl (by decide) rfl (fun ls hl => ?_)
        exact L49 x1 x2 0 vq0_solved vq0_a vq0_b vq0_c x1 x2 0 H locs ls hP hD hS (lv_sub hl [1, 2, 3, 0] rfl) h
      · have h := it_f c16 h
        refine lv_iconst (v := 0) hx hb d_M_begin_35 (by decide) ?_
        exact rtI hx hb hr hlocks hQ (Option.some.inj h) hP hS d_M_begin_36 rfl rfl
