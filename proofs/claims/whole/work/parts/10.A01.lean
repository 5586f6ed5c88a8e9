theorem d_Ar_fill_0 : decode prog_20_method_113_code 0 = .ok (.iconst 0, 1) := by decide +kernel
theorem d_Ar_fill_1 : decode prog_20_method_113_code 1 = .ok (.istore_n 3, 1) := by decide +kernel
theorem d_Ar_fill_2 : decode prog_20_method_113_code 2 = .ok (.aload_n 0, 1) := by decide +kernel
theorem d_Ar_fill_3 : decode prog_20_method_113_code 3 = .ok (.arraylength, 1) := by decide +kernel
theorem d_Ar_fill_4 : decode prog_20_method_113_code 4 = .ok (.istore 4, 2) := by decide +kernel
theorem d_Ar_fill_6 : decode prog_20_method_113_code 6 = .ok (.iload_n 3, 1) := by decide +kernel
theorem d_Ar_fill_7 : decode prog_20_method_113_code 7 = .ok (.iload 4, 2) := by decide +kernel
theorem d_Ar_fill_9 : decode prog_20_method_113_code 9 = .ok (.if_icmp .ge 13, 3) := by decide +kernel
theorem d_Ar_fill_12 : decode prog_20_method_113_code 12 = .ok (.aload_n 0, 1) := by decide +kernel
theorem d_Ar_fill_13 : decode prog_20_method_113_code 13 = .ok (.iload_n 3, 1) := by decide +kernel
theorem d_Ar_fill_14 : decode prog_20_method_113_code 14 = .ok (.dload_n 1, 1) := by decide +kernel
theorem d_Ar_fill_15 : decode prog_20_method_113_code 15 = .ok (.dastore, 1) := by decide +kernel
theorem d_Ar_fill_16 : decode prog_20_method_113_code 16 = .ok (.iinc 3 1, 3) := by decide +kernel
theorem d_Ar_fill_19 : decode prog_20_method_113_code 19 = .ok (.goto (-13), 3) := by decide +kernel
theorem d_Ar_fill_22 : decode prog_20_method_113_code 22 = .ok (.return_, 1) := by decide +kernel
abbrev w_Ar_fill (T : Nat → ClassId) (q0 : Nat) (n0 : Nat) (vq0 : Nat → UInt64) : va_W := [(q0, .inl (T 0, n0, .inr (.inr (.inr (.inl vq0)))))]
def s_Ar_fill_B6 (n0 : Nat) (x1 : UInt64) (x4 : Int32) (vq0 : Nat → UInt64) (x3 : Int32) : Option (((Nat → UInt64) × Int32) ⊕ ((Nat → UInt64))) :=
  if x4 ≤ x3 then (some (.inr vq0)) else (gd (inb x3 n0) <| some (.inl (vf_upd vq0 x3.toNatClampNeg x1, x3 + 1)))
def s_Ar_fill_L6 (n0 : Nat) (vq0 : Nat → UInt64) (x1 : UInt64) (x3 : Int32) (x4 : Int32) : Option ((Nat → UInt64)) :=
  (loopO (fun (st : (Nat → UInt64) × Int32) => s_Ar_fill_B6 n0 x1 x4 st.1 st.2) 2000 (vq0, x3)).bind fun ul6 => some ul6
def s_Ar_fill (n0 : Nat) (vq0 : Nat → UInt64) (x1 : UInt64) : Option ((Nat → UInt64)) :=
  s_Ar_fill_L6 n0 vq0 x1 0 (Int32.ofNat n0)
set_option maxHeartbeats 40000000 in
set_option maxRecDepth 100000 in
theorem c_Ar_fill (l : Launch) (D : va_G) (T : Nat → ClassId) (q0 : Nat) (n0 : Nat) (vq0 : Nat → UInt64) (x1 : UInt64) (rm : (Nat → UInt64)) (h : s_Ar_fill n0 vq0 x1 = some rm) : CtV l y_Ar_fill (Cond.code y_Ar_fill prog_20_method_113_code 5 none :: BIG) 0 0 D T [.ref q0, .double x1] (w_Ar_fill T q0 n0 vq0) (fun r => (w_Ar_fill T q0 n0 r)) rm := by
  refine cf_entry (y := y_Ar_fill) (cc := prog_20_method_113_code) (nL := 5) (ret := none) (fr := 0) (lo := 0) (T := T) (av := [.ref q0, .double x1]) (w := (w_Ar_fill T q0 n0 vq0)) (Qc := cfQv D (fun r => (w_Ar_fill T q0 n0 r)) rm) (by decide) rfl (Nat.le_of_ble_eq_true rfl) ?_
  intro p e s m args below meth c A Q H locs ls hx hb hr hlocks hml hown hts hNW hK hA hQ hP hD hS hl
  have hown : s.vm.findClass "java/util/Arrays" = some m.cls := hown
  have hl : lv_has ls 5 [(0, .ref q0), (1, .double x1)] := hl
  have L6 : ∀ (vq0 : Nat → UInt64) (x1 : UInt64) (x3 : Int32) (x4 : Int32), ∀ (H : Heap) (locs : List Loc) (ls : Array Slot), va_P D CL (w_Ar_fill T q0 n0 vq0) H → va_D A (w_Ar_fill T q0 n0 vq0) → va_S A s.heap H locs → lv_has ls 5 [(0, .ref q0), (1, .double x1), (3, .int x3), (4, .int x4)] → s_Ar_fill_L6 n0 vq0 x1 x3 x4 = some rm → W p l e (rmk 0 0) s m args below meth c H locs 0 0 Q (F0 m 6 ls []) := by
    intro vq0 x1 x3 x4 H locs ls hP hD hS hl h
    unfold s_Ar_fill_L6 at h
    obtain ⟨ul6, hul6, h⟩ := bi_some h
    refine loopO_W (Wh := fun (st : (Nat → UInt64) × Int32) => ∀ (H : Heap) (locs : List Loc) (ls : Array Slot), va_P D CL (w_Ar_fill T q0 n0 st.1) H → va_D A (w_Ar_fill T q0 n0 st.1) → va_S A s.heap H locs → lv_has ls 5 [(0, .ref q0), (1, .double x1), (3, .int st.2), (4, .int x4)] → W p l e (rmk 0 0) s m args below meth c H locs 0 0 Q (F0 m 6 ls [])) (Wx := fun (e1 : (Nat → UInt64)) => ∀ (H : Heap) (locs : List Loc) (ls : Array Slot), va_P D CL (w_Ar_fill T q0 n0 e1) H → va_D A (w_Ar_fill T q0 n0 e1) → va_S A s.heap H locs → lv_has ls 5 [] → W p l e (rmk 0 0) s m args below meth c H locs 0 0 Q (F0 m 22 ls [])) ?_ 2000 _ ul6 hul6 ?_ H locs ls hP hD hS hl
    · intro st rb6 h kc6 kx6 H locs ls hP hD hS hl
      obtain ⟨vq0, x3⟩ := st
      have h : s_Ar_fill_B6 n0 x1 x4 vq0 x3 = some rb6 := h
      unfold s_Ar_fill_B6 at h
      refine lv_iload_n hx hb d_Ar_fill_6 rfl (lv_at hl 2 rfl) ?_
      refine lv_iload hx hb d_Ar_fill_7 (lv_at hl 3 rfl) ?_
      refine lv_icmp_ge (tgt := 22) hx hb d_Ar_fill_9 (by decide) (fun c1 => ?_) (fun c1 => ?_)
      · have h := it_t c1 h
        exact kx6 _ (Option.some.inj h).symm H locs ls hP hD hS (lv_sub hl [] rfl)
      · have h := it_f c1 h
        refine lv_aload_n hx hb d_Ar_fill_12 rfl (lv_at hl 0 rfl) ?_
        refine lv_iload_n hx hb d_Ar_fill_13 rfl (lv_at hl 2 rfl) ?_
        refine lv_dload_n hx hb d_Ar_fill_14 rfl (lv_at hl 1 rfl) ?_
        obtain ⟨g2, h⟩ := gd_some h
        refine va_dast hx hb hK hP hD hS 0 0 rfl rfl (inb_in g2) d_Ar_fill_15 (fun H locs hP hD hS => ?_)
        have hP : va_P D CL (w_Ar_fill T q0 n0 (vf_upd vq0 x3.toNatClampNeg x1)) H := hP
        have hD : va_D A (w_Ar_fill T q0 n0 (vf_upd vq0 x3.toNatClampNeg x1)) := hD
        refine lv_iinc (v := x3 + 1) (lv' := [(3, .int (x3 + 1)), (0, .ref q0), (1, .double x1), (4, .int x4)]) hx hb d_Ar_fill_16 hl (k := 2) rfl rfl (by decide) rfl (fun ls hl => ?_)
        refine lv_goto (tgt := 6) hx hb d_Ar_fill_19 (by decide) ?_
        exact kc6 _ (Option.some.inj h).symm H locs ls hP hD hS (lv_sub hl [1, 2, 0, 3] rfl)
    · intro H locs ls hP hD hS hl
      exact rtV hx hb hr hlocks hQ (Option.some.inj h) hP hS d_Ar_fill_22 rfl
  unfold s_Ar_fill at h
  refine lv_iconst (v := 0) hx hb d_Ar_fill_0 (by decide) ?_
  refine lv_istore_n (lv' := [(3, .int 0), (0, .ref q0), (1, .double x1)]) hx hb d_Ar_fill_1 rfl hl (by decide) rfl (fun ls hl => ?_)
  refine lv_aload_n hx hb d_Ar_fill_2 rfl (lv_at hl 1 rfl) ?_
  refine va_alen (v := Int32.ofNat n0) hx hb hK hP 0 0 rfl rfl rfl d_Ar_fill_3 ?_
  refine lv_istore (lv' := [(4, .int (Int32.ofNat n0)), (3, .int 0), (0, .ref q0), (1, .double x1)]) hx hb d_Ar_fill_4 hl (by decide) rfl (fun ls hl => ?_)
  exact L6 vq0 x1 0 (Int32.ofNat n0) H locs ls hP hD hS (lv_sub hl [2, 3, 1, 0] rfl) h
theorem d_C_absolute_0 : decode prog_1_method_26_code 0 = .ok (.dload_n 0, 1) := by decide +kernel
theorem d_C_absolute_1 : decode prog_1_method_26_code 1 = .ok (.dconst 0, 1) := by decide +kernel
theorem d_C_absolute_2 : decode prog_1_method_26_code 2 = .ok (.dcmp .g, 1) := by decide +kernel
theorem d_C_absolute_3 : decode prog_1_method_26_code 3 = .ok (.ifCond .ge 8, 3) := by decide +kernel
theorem d_C_absolute_6 : decode prog_1_method_26_code 6 = .ok (.dload_n 0, 1) := by decide +kernel
theorem d_C_absolute_7 : decode prog_1_method_26_code 7 = .ok (.dneg, 1) := by decide +kernel
theorem d_C_absolute_8 : decode prog_1_method_26_code 8 = .ok (.goto 4, 3) := by decide +kernel
theorem d_C_absolute_11 : decode prog_1_method_26_code 11 = .ok (.dload_n 0, 1) := by decide +kernel
theorem d_C_absolute_12 : decode prog_1_method_26_code 12 = .ok (.dreturn, 1) := by decide +kernel
abbrev w_C_absolute (T : Nat → ClassId)   : va_W := []
def s_C_absolute (x0 : UInt64) : Option (UInt64) :=
  if 0 ≤ (Op.cmpValue (FP.dcmp x0 FP.dconst0) .g) then (some x0) else (some (FP.dneg x0))
set_option maxHeartbeats 40000000 in
set_option maxRecDepth 100000 in
theorem c_C_absolute (l : Launch) (D : va_G) (T : Nat → ClassId) (x0 : UInt64) (rm : UInt64) (h : s_C_absolute x0 = some rm) : CtD l y_C_absolute (Cond.code y_C_absolute prog_1_method_26_code 2 (some .double) :: BIG) 0 0 D T [.double x0] (w_C_absolute T  ) (fun r => r) (fun r => (w_C_absolute T  )) rm := by
  refine cf_entry (y := y_C_absolute) (cc := prog_1_method_26_code) (nL := 2) (ret := (some .double)) (fr := 0) (lo := 0) (T := T) (av := [.double x0]) (w := (w_C_absolute T  )) (Qc := cfQd D (fun r => r) (fun r => (w_C_absolute T  )) rm) (by decide) rfl (Nat.le_of_ble_eq_true rfl) ?_
  intro p e s m args below meth c A Q H locs ls hx hb hr hlocks hml hown hts hNW hK hA hQ hP hD hS hl
  have hown : s.vm.findClass "ConeForge" = some m.cls := hown
  have hl : lv_has ls 2 [(0, .double x0)] := hl
  unfold s_C_absolute at h
  refine lv_dload_n hx hb d_C_absolute_0 rfl (lv_at hl 0 rfl) ?_
  refine lv_dconst0 hx hb d_C_absolute_1 ?_
  refine lv_dcmp hx hb d_C_absolute_2 ?_
  refine lv_if_ge (tgt := 11) hx hb d_C_absolute_3 (by decide) (fun c1 => ?_) (fun c1 => ?_)
  · have h := it_t c1 h
    refine lv_dload_n hx hb d_C_absolute_11 rfl (lv_at hl 0 rfl) ?_
    exact rtD hx hb hr hlocks hQ (Option.some.inj h) hP hS d_C_absolute_12 rfl rfl
  · have h := it_f c1 h
    refine lv_dload_n hx hb d_C_absolute_6 rfl (lv_at hl 0 rfl) ?_
    refine lv_dneg hx hb d_C_absolute_7 ?_
    refine lv_goto (tgt := 12) hx hb d_C_absolute_8 (by decide) ?_
    exact rtD hx hb hr hlocks hQ (Option.some.inj h) hP hS d_C_absolute_12 rfl rfl
theorem d_C_isAllowed_0 : decode prog_1_method_24_code 0 = .ok (.dload_n 0, 1) := by decide +kernel
theorem d_C_isAllowed_1 : decode prog_1_method_24_code 1 = .ok (.ldc2_w 270, 3) := by decide +kernel
theorem d_C_isAllowed_4 : decode prog_1_method_24_code 4 = .ok (.dcmp .l, 1) := by decide +kernel
theorem d_C_isAllowed_5 : decode prog_1_method_24_code 5 = .ok (.ifCond .lt 32, 3) := by decide +kernel
theorem d_C_isAllowed_8 : decode prog_1_method_24_code 8 = .ok (.dload_n 0, 1) := by decide +kernel
theorem d_C_isAllowed_9 : decode prog_1_method_24_code 9 = .ok (.ldc2_w 272, 3) := by decide +kernel
theorem d_C_isAllowed_12 : decode prog_1_method_24_code 12 = .ok (.dcmp .g, 1) := by decide +kernel
theorem d_C_isAllowed_13 : decode prog_1_method_24_code 13 = .ok (.ifCond .gt 24, 3) := by decide +kernel
theorem d_C_isAllowed_16 : decode prog_1_method_24_code 16 = .ok (.dload_n 0, 1) := by decide +kernel
theorem d_C_isAllowed_17 : decode prog_1_method_24_code 17 = .ok (.dconst 0, 1) := by decide +kernel
theorem d_C_isAllowed_18 : decode prog_1_method_24_code 18 = .ok (.dcmp .l, 1) := by decide +kernel
theorem d_C_isAllowed_19 : decode prog_1_method_24_code 19 = .ok (.ifCond .eq 14, 3) := by decide +kernel
theorem d_C_isAllowed_22 : decode prog_1_method_24_code 22 = .ok (.dload_n 0, 1) := by decide +kernel
theorem d_C_isAllowed_23 : decode prog_1_method_24_code 23 = .ok (.invokestatic 253, 3) := by decide +kernel
theorem d_C_isAllowed_26 : decode prog_1_method_24_code 26 = .ok (.ldc2_w 274, 3) := by decide +kernel
theorem d_C_isAllowed_29 : decode prog_1_method_24_code 29 = .ok (.dcmp .l, 1) := by decide +kernel
theorem d_C_isAllowed_30 : decode prog_1_method_24_code 30 = .ok (.ifCond .lt 7, 3) := by decide +kernel
theorem d_C_isAllowed_33 : decode prog_1_method_24_code 33 = .ok (.iconst 1, 1) := by decide +kernel
theorem d_C_isAllowed_34 : decode prog_1_method_24_code 34 = .ok (.goto 4, 3) := by decide +kernel
theorem d_C_isAllowed_37 : decode prog_1_method_24_code 37 = .ok (.iconst 0, 1) := by decide +kernel
theorem d_C_isAllowed_38 : decode prog_1_method_24_code 38 = .ok (.ireturn, 1) := by decide +kernel
abbrev w_C_isAllowed (T : Nat → ClassId)   : va_W := []
def s_C_isAllowed_J37  : Option (Int32) :=
  gd (isb 0) <| some 0
def s_C_isAllowed_J33  : Option (Int32) :=
  gd (isb 1) <| some 1
def s_C_isAllowed (x0 : UInt64) : Option (Int32) :=
  if (Op.cmpValue (FP.dcmp x0 13875379345695965184) .l) < 0 then (s_C_isAllowed_J37 ) else (if 0 < (Op.cmpValue (FP.dcmp x0 4652007308841189376) .g) then (s_C_isAllowed_J37 ) else (if (Op.cmpValue (FP.dcmp x0 FP.dconst0) .l) = 0 then (s_C_isAllowed_J33 ) else ((s_C_absolute x0).bind fun u6 => if (Op.cmpValue (FP.dcmp u6 4517329193108106637) .l) < 0 then (s_C_isAllowed_J37 ) else (s_C_isAllowed_J33 ))))
set_option maxRecDepth 100000 in
theorem j_C_isAllowed_23 (T : Nat → ClassId)  : ([].map (fun (i : Nat) => (w_C_isAllowed T  )[i]?) = (w_C_absolute T  ).map some) ∧ ([].map (fun (i : Nat) => (w_C_isAllowed T  )[i]?) = (w_C_absolute T  ).map some) ∧ ([].map (fun (i : Nat) => (w_C_isAllowed T  )[i]?) = [].map (fun (i : Nat) => (w_C_isAllowed T  )[i]?)) ∧ (w_C_absolute T  ).map Prod.fst = (w_C_absolute T  ).map Prod.fst ∧ (w_C_isAllowed T  ).length = 0 :=
  ⟨rfl, rfl, Eq.trans (b := ([] : List (Option (Nat × va_E)))) rfl rfl, rfl, rfl⟩
set_option maxHeartbeats 40000000 in
set_option maxRecDepth 100000 in
theorem c_C_isAllowed (l : Launch) (D : va_G) (T : Nat → ClassId) (x0 : UInt64) (rm : Int32) (h : s_C_isAllowed x0 = some rm) : CtI l y_C_isAllowed (Cond.code y_C_isAllowed prog_1_method_24_code 2 (some .boolean) :: BIG) 1 21 D T [.double x0] (w_C_isAllowed T  ) (fun r => r) (fun r => (w_C_isAllowed T  )) rm := by
  refine cf_entry (y := y_C_isAllowed) (cc := prog_1_method_24_code) (nL := 2) (ret := (some .boolean)) (fr := 1) (lo := 21) (T := T) (av := [.double x0]) (w := (w_C_isAllowed T  )) (Qc := cfQi D (fun r => r) (fun r => (w_C_isAllowed T  )) rm) (by decide) rfl (Nat.le_of_ble_eq_true rfl) ?_
  intro p e s m args below meth c A Q H locs ls hx hb hr hlocks hml hown hts hNW hK hA hQ hP hD hS hl
  have hown : s.vm.findClass "ConeForge" = some m.cls := hown
  have hl : lv_has ls 2 [(0, .double x0)] := hl
  have J37 : ∀ (H : Heap) (locs : List Loc) (ls : Array Slot), va_P D CL (w_C_isAllowed T  ) H → va_D A (w_C_isAllowed T  ) → va_S A s.heap H locs → lv_has ls 2 [] → s_C_isAllowed_J37  = some rm → W p l e (rmk 1 21) s m args below meth c H locs 0 0 Q (F0 m 37 ls []) := by
    intro  H locs ls hP hD hS hl h
    unfold s_C_isAllowed_J37 at h
    refine lv_iconst (v := 0) hx hb d_C_isAllowed_37 (by decide) ?_
    obtain ⟨g1, h⟩ := gd_some h
    exact rtZ hx hb hr hlocks g1 hQ (Option.some.inj h) hP hS d_C_isAllowed_38 rfl rfl
  have J33 : ∀ (H : Heap) (locs : List Loc) (ls : Array Slot), va_P D CL (w_C_isAllowed T  ) H → va_D A (w_C_isAllowed T  ) → va_S A s.heap H locs → lv_has ls 2 [] → s_C_isAllowed_J33  = some rm → W p l e (rmk 1 21) s m args below meth c H locs 0 0 Q (F0 m 33 ls []) := by
    intro  H locs ls hP hD hS hl h
    unfold s_C_isAllowed_J33 at h
    refine lv_iconst (v := 1) hx hb d_C_isAllowed_33 (by decide) ?_
    refine lv_goto (tgt := 38) hx hb d_C_isAllowed_34 (by decide) ?_
    obtain ⟨g2, h⟩ := gd_some h
    exact rtZ hx hb hr hlocks g2 hQ (Option.some.inj h) hP hS d_C_isAllowed_38 rfl rfl
  unfold s_C_isAllowed at h
  refine lv_dload_n hx hb d_C_isAllowed_0 rfl (lv_at hl 0 rfl) ?_
  refine lv_ldc2d (v := 13875379345695965184) hx hb hown (hts _ (bgc bw448)) d_C_isAllowed_1 ?_
  refine lv_dcmp hx hb d_C_isAllowed_4 ?_
  refine lv_if_lt (tgt := 37) hx hb d_C_isAllowed_5 (by decide) (fun c3 => ?_) (fun c3 => ?_)
  · have h := it_t c3 h
    exact J37  H locs ls hP hD hS (lv_sub hl [] rfl) h
  · have h := it_f c3 h
    refine lv_dload_n hx hb d_C_isAllowed_8 rfl (lv_at hl 0 rfl) ?_
    refine lv_ldc2d (v := 4652007308841189376) hx hb hown (hts _ (bgc bw449)) d_C_isAllowed_9 ?_
    refine lv_dcmp hx hb d_C_isAllowed_12 ?_
    refine lv_if_gt (tgt := 37) hx hb d_C_isAllowed_13 (by decide) (fun c4 => ?_) (fun c4 => ?_)
    · have h := it_t c4 h
      exact J37  H locs ls hP hD hS (lv_sub hl [] rfl) h
    · have h := it_f c4 h
      refine lv_dload_n hx hb d_C_isAllowed_16 rfl (lv_at hl 0 rfl) ?_
      refine lv_dconst0 hx hb d_C_isAllowed_17 ?_
      refine lv_dcmp hx hb d_C_isAllowed_18 ?_
      refine lv_if_eq (tgt := 33) hx hb d_C_isAllowed_19 (by decide) (fun c5 => ?_) (fun c5 => ?_)
      · have h := it_t c5 h
        exact J33  H locs ls hP hD hS (lv_sub hl [] rfl) h
      · have h := it_f c5 h
        refine lv_dload_n hx hb d_C_isAllowed_22 rfl (lv_at hl 0 rfl) ?_
        obtain ⟨u6, hu6, h⟩ := bi_some h
        have jj7 := j_C_isAllowed_23 T 
        refine kD2 (v := u6) (wc := (w_C_absolute T  )) (wc' := (w_C_absolute T  )) (w_C_isAllowed T  ) (runOS (As := [.double x0]) (rest := []) ((c_C_absolute l D T   x0 u6 hu6) H.size) ⟨hx, hb, hml, hown, hts⟩ (cwOS bw303 bw304 bw97 bw305 dd_C_absolute hts ⟨Nat.le_of_ble_eq_true rfl, Nat.le_of_ble_eq_true rfl⟩)  hNW hK hP hD [] jj7.1 (by decide) rfl hl.1 rfl (lv_room (Nat.le_of_ble_eq_true rfl)) d_C_isAllowed_23 ⟨Nat.le_of_ble_eq_true rfl, Nat.le_of_ble_eq_true rfl⟩) hP hD hS hA [] [] jj7.1 jj7.2.1 jj7.2.2.1 (N := 0) jj7.2.2.2.2 (by decide) jj7.2.2.2.1 (fun H locs hP hD hS => ?_)
        refine lv_ldc2d (v := 4517329193108106637) hx hb hown (hts _ (bgc bw450)) d_C_isAllowed_26 ?_
        refine lv_dcmp hx hb d_C_isAllowed_29 ?_
        refine lv_if_lt (tgt := 37) hx hb d_C_isAllowed_30 (by decide) (fun c8 => ?_) (fun c8 => ?_)
        · have h := it_t c8 h
          exact J37  H locs ls hP hD hS (lv_sub hl [] rfl) h
        · have h := it_f c8 h
          exact J33  H locs ls hP hD hS (lv_sub hl [] rfl) h
theorem d_C_exchange_0 : decode prog_1_method_25_code 0 = .ok (.aload_n 0, 1) := by decide +kernel
theorem d_C_exchange_1 : decode prog_1_method_25_code 1 = .ok (.iload_n 1, 1) := by decide +kernel
theorem d_C_exchange_2 : decode prog_1_method_25_code 2 = .ok (.daload, 1) := by decide +kernel
theorem d_C_exchange_3 : decode prog_1_method_25_code 3 = .ok (.dstore 4, 2) := by decide +kernel
theorem d_C_exchange_5 : decode prog_1_method_25_code 5 = .ok (.aload_n 0, 1) := by decide +kernel
theorem d_C_exchange_6 : decode prog_1_method_25_code 6 = .ok (.iload_n 1, 1) := by decide +kernel
theorem d_C_exchange_7 : decode prog_1_method_25_code 7 = .ok (.dload_n 2, 1) := by decide +kernel
theorem d_C_exchange_8 : decode prog_1_method_25_code 8 = .ok (.dastore, 1) := by decide +kernel
theorem d_C_exchange_9 : decode prog_1_method_25_code 9 = .ok (.dload 4, 2) := by decide +kernel
theorem d_C_exchange_11 : decode prog_1_method_25_code 11 = .ok (.dreturn, 1) := by decide +kernel
abbrev w_C_exchange (T : Nat → ClassId) (q0 : Nat) (n0 : Nat) (vq0 : Nat → UInt64) : va_W := [(q0, .inl (T 0, n0, .inr (.inr (.inr (.inl vq0)))))]
def s_C_exchange (n0 : Nat) (vq0 : Nat → UInt64) (x1 : Int32) (x2 : UInt64) : Option (UInt64 × (Nat → UInt64)) :=
  gd (inb x1 n0) <| gd (inb x1 n0) <| some (vq0 x1.toNatClampNeg, vf_upd vq0 x1.toNatClampNeg x2)
set_option maxHeartbeats 40000000 in
set_option maxRecDepth 100000 in
theorem c_C_exchange (l : Launch) (D : va_G) (T : Nat → ClassId) (q0 : Nat) (n0 : Nat) (vq0 : Nat → UInt64) (x1 : Int32) (x2 : UInt64) (rm : UInt64 × (Nat → UInt64)) (h : s_C_exchange n0 vq0 x1 x2 = some rm) : CtD l y_C_exchange (Cond.code y_C_exchange prog_1_method_25_code 6 (some .double) :: BIG) 0 0 D T [.ref q0, .int x1, .double x2] (w_C_exchange T q0 n0 vq0) (fun r => r.1) (fun r => (w_C_exchange T q0 n0 r.2)) rm := by
  refine cf_entry (y := y_C_exchange) (cc := prog_1_method_25_code) (nL := 6) (ret := (some .double)) (fr := 0) (lo := 0) (T := T) (av := [.ref q0, .int x1, .double x2]) (w := (w_C_exchange T q0 n0 vq0)) (Qc := cfQd D (fun r => r.1) (fun r => (w_C_exchange T q0 n0 r.2)) rm) (by decide) rfl (Nat.le_of_ble_eq_true rfl) ?_
  intro p e s m args below meth c A Q H locs ls hx hb hr hlocks hml hown hts hNW hK hA hQ hP hD hS hl
  have hown : s.vm.findClass "ConeForge" = some m.cls := hown
  have hl : lv_has ls 6 [(0, .ref q0), (1, .int x1), (2, .double x2)] := hl
  unfold s_C_exchange at h
  refine lv_aload_n hx hb d_C_exchange_0 rfl (lv_at hl 0 rfl) ?_
  refine lv_iload_n hx hb d_C_exchange_1 rfl (lv_at hl 1 rfl) ?_
  obtain ⟨g1, h⟩ := gd_some h
  refine va_dald hx hb hK hP 0 0 rfl rfl (inb_in g1) d_C_exchange_2 ?_
  refine lv_dstore (lv' := [(4, .double (vq0 x1.toNatClampNeg)), (0, .ref q0), (1, .int x1), (2, .double x2)]) hx hb d_C_exchange_3 hl (by decide) rfl (fun ls hl => ?_)
  refine lv_aload_n hx hb d_C_exchange_5 rfl (lv_at hl 1 rfl) ?_
  refine lv_iload_n hx hb d_C_exchange_6 rfl (lv_at hl 2 rfl) ?_
  refine lv_dload_n hx hb d_C_exchange_7 rfl (lv_at hl 3 rfl) ?_
  obtain ⟨g2, h⟩ := gd_some h
  refine va_dast hx hb hK hP hD hS 0 0 rfl rfl (inb_in g2) d_C_exchange_8 (fun H locs hP hD hS => ?_)
  have hP : va_P D CL (w_C_exchange T q0 n0 (vf_upd vq0 x1.toNatClampNeg x2)) H := hP
  have hD : va_D A (w_C_exchange T q0 n0 (vf_upd vq0 x1.toNatClampNeg x2)) := hD
  refine lv_dload hx hb d_C_exchange_9 (lv_at hl 0 rfl) ?_
  exact rtD hx hb hr hlocks hQ (Option.some.inj h) hP hS d_C_exchange_11 rfl rfl
theorem d_C_scaling_0 : decode prog_1_method_4_code 0 = .ok (.aload_n 0, 1) := by decide +kernel
theorem d_C_scaling_1 : decode prog_1_method_4_code 1 = .ok (.getfield 51, 3) := by decide +kernel
theorem d_C_scaling_4 : decode prog_1_method_4_code 4 = .ok (.istore_n 2, 1) := by decide +kernel
theorem d_C_scaling_5 : decode prog_1_method_4_code 5 = .ok (.aload_n 0, 1) := by decide +kernel
theorem d_C_scaling_6 : decode prog_1_method_4_code 6 = .ok (.iload_n 1, 1) := by decide +kernel
theorem d_C_scaling_7 : decode prog_1_method_4_code 7 = .ok (.putfield 51, 3) := by decide +kernel
theorem d_C_scaling_10 : decode prog_1_method_4_code 10 = .ok (.iload_n 2, 1) := by decide +kernel
theorem d_C_scaling_11 : decode prog_1_method_4_code 11 = .ok (.ireturn, 1) := by decide +kernel
abbrev w_C_scaling (T : Nat → ClassId) (q0 : Nat) (q0_problem : Nat) (q0_scales : Nat) (q0_point : Nat) (q0_reader : Nat) (q0_interiorMethod : Nat) (q0_simplexMethod : Nat) (vq0_scalingOn : Int32) (vq0_pointTold : Int32) (vq0_latestEffort : Int32) (vq0_failedAt : Int32) : va_W := [(q0, .inr (7, [.ref q0_problem, .ref q0_scales, .ref q0_point, .ref q0_reader, .ref q0_interiorMethod, .ref q0_simplexMethod, .int vq0_scalingOn, .int vq0_pointTold, .int vq0_latestEffort, .int vq0_failedAt]))]
def s_C_scaling (vq0_scalingOn : Int32) (vq0_pointTold : Int32) (vq0_latestEffort : Int32) (vq0_failedAt : Int32) (x1 : Int32) : Option (Int32 × Int32) :=
  gd (isb x1) <| gd (isb vq0_scalingOn) <| some (vq0_scalingOn, x1)
set_option maxHeartbeats 40000000 in
set_option maxRecDepth 100000 in
theorem c_C_scaling (l : Launch) (D : va_G) (T : Nat → ClassId) (q0 : Nat) (q0_problem : Nat) (q0_scales : Nat) (q0_point : Nat) (q0_reader : Nat) (q0_interiorMethod : Nat) (q0_simplexMethod : Nat) (vq0_scalingOn : Int32) (vq0_pointTold : Int32) (vq0_latestEffort : Int32) (vq0_failedAt : Int32) (x1 : Int32) (rm : Int32 × Int32) (h : s_C_scaling vq0_scalingOn vq0_pointTold vq0_latestEffort vq0_failedAt x1 = some rm) : CtI l y_C_scaling (Cond.code y_C_scaling prog_1_method_4_code 3 (some .boolean) :: BIG) 0 0 D T [.ref q0, .int x1] (w_C_scaling T q0 q0_problem q0_scales q0_point q0_reader q0_interiorMethod q0_simplexMethod vq0_scalingOn vq0_pointTold vq0_latestEffort vq0_failedAt) (fun r => r.1) (fun r => (w_C_scaling T q0 q0_problem q0_scales q0_point q0_reader q0_interiorMethod q0_simplexMethod r.2 vq0_pointTold vq0_latestEffort vq0_failedAt)) rm := by
  refine cf_entry (y := y_C_scaling) (cc := prog_1_method_4_code) (nL := 3) (ret := (some .boolean)) (fr := 0) (lo := 0) (T := T) (av := [.ref q0, .int x1]) (w := (w_C_scaling T q0 q0_problem q0_scales q0_point q0_reader q0_interiorMethod q0_simplexMethod vq0_scalingOn vq0_pointTold vq0_latestEffort vq0_failedAt)) (Qc := cfQi D (fun r => r.1) (fun r => (w_C_scaling T q0 q0_problem q0_scales q0_point q0_reader q0_interiorMethod q0_simplexMethod r.2 vq0_pointTold vq0_latestEffort vq0_failedAt)) rm) (by decide) rfl (Nat.le_of_ble_eq_true rfl) ?_
  intro p e s m args below meth c A Q H locs ls hx hb hr hlocks hml hown hts hNW hK hA hQ hP hD hS hl
  have hown : s.vm.findClass "ConeForge" = some m.cls := hown
  have hl : lv_has ls 3 [(0, .ref q0), (1, .int x1)] := hl
  unfold s_C_scaling at h
  refine lv_aload_n hx hb d_C_scaling_0 rfl (lv_at hl 0 rfl) ?_
  refine va_get (D := D) (ci := 7) (v := .int vq0_scalingOn) (C := "ConeForge") (T := FC) (N := 10) hx hb hts iC hown hK hP 0 rfl rfl 6 (by decide) (hts _ (bgc bw267)) (fun _ h9 => h9) rfl d_C_scaling_1 ?_
  refine lv_istore_n (lv' := [(2, .int vq0_scalingOn), (0, .ref q0), (1, .int x1)]) hx hb d_C_scaling_4 rfl hl (by decide) rfl (fun ls hl => ?_)
  refine lv_aload_n hx hb d_C_scaling_5 rfl (lv_at hl 1 rfl) ?_
  refine lv_iload_n hx hb d_C_scaling_6 rfl (lv_at hl 2 rfl) ?_
  obtain ⟨g1, h⟩ := gd_some h
  refine va_put (D := D) (ci := 7) (v := .int x1) (ty := .boolean) (C := "ConeForge") (T := FC) (N := 10) hx hb hts iC tC tC_ok nmC hown hK hP hD hS 0 rfl rfl 6 (by decide) (hts _ (bgc bw267)) (fun _ h9 => h9) rfl (by decide +kernel) (isb_n g1) (isb_f g1) (Nat.le_of_ble_eq_true rfl) d_C_scaling_7 (fun H locs hP hD hS => ?_)
  have hP : va_P D CL (w_C_scaling T q0 q0_problem q0_scales q0_point q0_reader q0_interiorMethod q0_simplexMethod x1 vq0_pointTold vq0_latestEffort vq0_failedAt) H := hP
  have hD : va_D A (w_C_scaling T q0 q0_problem q0_scales q0_point q0_reader q0_interiorMethod q0_simplexMethod x1 vq0_pointTold vq0_latestEffort vq0_failedAt) := hD
  refine lv_iload_n hx hb d_C_scaling_10 rfl (lv_at hl 0 rfl) ?_
  obtain ⟨g2, h⟩ := gd_some h
  exact rtZ hx hb hr hlocks g2 hQ (Option.some.inj h) hP hS d_C_scaling_11 rfl rfl
theorem d_C_where_0 : decode prog_1_method_7_code 0 = .ok (.aload_n 0, 1) := by decide +kernel
theorem d_C_where_1 : decode prog_1_method_7_code 1 = .ok (.getfield 62, 3) := by decide +kernel
theorem d_C_where_4 : decode prog_1_method_7_code 4 = .ok (.ireturn, 1) := by decide +kernel
abbrev w_C_where (T : Nat → ClassId) (q0 : Nat) (q0_problem : Nat) (q0_scales : Nat) (q0_point : Nat) (q0_reader : Nat) (q0_interiorMethod : Nat) (q0_simplexMethod : Nat) (vq0_scalingOn : Int32) (vq0_pointTold : Int32) (vq0_latestEffort : Int32) (vq0_failedAt : Int32) : va_W := [(q0, .inr (7, [.ref q0_problem, .ref q0_scales, .ref q0_point, .ref q0_reader, .ref q0_interiorMethod, .ref q0_simplexMethod, .int vq0_scalingOn, .int vq0_pointTold, .int vq0_latestEffort, .int vq0_failedAt]))]
def s_C_where (vq0_scalingOn : Int32) (vq0_pointTold : Int32) (vq0_latestEffort : Int32) (vq0_failedAt : Int32) : Option (Int32) :=
  some vq0_failedAt
set_option maxHeartbeats 40000000 in
set_option maxRecDepth 100000 in
theorem c_C_where (l : Launch) (D : va_G) (T : Nat → ClassId) (q0 : Nat) (q0_problem : Nat) (q0_scales : Nat) (q0_point : Nat) (q0_reader : Nat) (q0_interiorMethod : Nat) (q0_simplexMethod : Nat) (vq0_scalingOn : Int32) (vq0_pointTold : Int32) (vq0_latestEffort : Int32) (vq0_failedAt : Int32) (rm : Int32) (h : s_C_where vq0_scalingOn vq0_pointTold vq0_latestEffort vq0_failedAt = some rm) : CtI l y_C_where (Cond.code y_C_where prog_1_method_7_code 1 (some .int) :: BIG) 0 0 D T [.ref q0] (w_C_where T q0 q0_problem q0_scales q0_point q0_reader q0_interiorMethod q0_simplexMethod vq0_scalingOn vq0_pointTold vq0_latestEffort vq0_failedAt) (fun r => r) (fun r => (w_C_where T q0 q0_problem q0_scales q0_point q0_reader q0_interiorMethod q0_simplexMethod vq0_scalingOn vq0_pointTold vq0_latestEffort vq0_failedAt)) rm := by
  refine cf_entry (y := y_C_where) (cc := prog_1_method_7_code) (nL := 1) (ret := (some .int)) (fr := 0) (lo := 0) (T := T) (av := [.ref q0]) (w := (w_C_where T q0 q0_problem q0_scales q0_point q0_reader q0_interiorMethod q0_simplexMethod vq0_scalingOn vq0_pointTold vq0_latestEffort vq0_failedAt)) (Qc := cfQi D (fun r => r) (fun r => (w_C_where T q0 q0_problem q0_scales q0_point q0_reader q0_interiorMethod q0_simplexMethod vq0_scalingOn vq0_pointTold vq0_latestEffort vq0_failedAt)) rm) (by decide) rfl (Nat.le_of_ble_eq_true rfl) ?_
  intro p e s m args below meth c A Q H locs ls hx hb hr hlocks hml hown hts hNW hK hA hQ hP hD hS hl
  have hown : s.vm.findClass "ConeForge" = some m.cls := hown
  have hl : lv_has ls 1 [(0, .ref q0)] := hl
  unfold s_C_where at h
  refine lv_aload_n hx hb d_C_where_0 rfl (lv_at hl 0 rfl) ?_
  refine va_get (D := D) (ci := 7) (v := .int vq0_failedAt) (C := "ConeForge") (T := FC) (N := 10) hx hb hts iC hown hK hP 0 rfl rfl 9 (by decide) (hts _ (bgc bw270)) (fun _ h9 => h9) rfl d_C_where_1 ?_
  exact rtI hx hb hr hlocks hQ (Option.some.inj h) hP hS d_C_where_4 rfl rfl
theorem d_C_greater_0 : decode prog_1_method_27_code 0 = .ok (.dload_n 0, 1) := by decide +kernel
theorem d_C_greater_1 : decode prog_1_method_27_code 1 = .ok (.dload_n 2, 1) := by decide +kernel
theorem d_C_greater_2 : decode prog_1_method_27_code 2 = .ok (.dcmp .l, 1) := by decide +kernel
theorem d_C_greater_3 : decode prog_1_method_27_code 3 = .ok (.ifCond .lt 7, 3) := by decide +kernel
theorem d_C_greater_6 : decode prog_1_method_27_code 6 = .ok (.dload_n 0, 1) := by decide +kernel
theorem d_C_greater_7 : decode prog_1_method_27_code 7 = .ok (.goto 4, 3) := by decide +kernel
theorem d_C_greater_10 : decode prog_1_method_27_code 10 = .ok (.dload_n 2, 1) := by decide +kernel
theorem d_C_greater_11 : decode prog_1_method_27_code 11 = .ok (.dreturn, 1) := by decide +kernel
abbrev w_C_greater (T : Nat → ClassId)   : va_W := []
def s_C_greater (x0 : UInt64) (x2 : UInt64) : Option (UInt64) :=
  if (Op.cmpValue (FP.dcmp x0 x2) .l) < 0 then (some x2) else (some x0)
set_option maxHeartbeats 40000000 in
set_option maxRecDepth 100000 in
theorem c_C_greater (l : Launch) (D : va_G) (T : Nat → ClassId) (x0 : UInt64) (x2 : UInt64) (rm : UInt64) (h : s_C_greater x0 x2 = some rm) : CtD l y_C_greater (Cond.code y_C_greater prog_1_method_27_code 4 (some .double) :: BIG) 0 0 D T [.double x0, .double x2] (w_C_greater T  ) (fun r => r) (fun r => (w_C_greater T  )) rm := by
  refine cf_entry (y := y_C_greater) (cc := prog_1_method_27_code) (nL := 4) (ret := (some .double)) (fr := 0) (lo := 0) (T := T) (av := [.double x0, .double x2]) (w := (w_C_greater T  )) (Qc := cfQd D (fun r => r) (fun r => (w_C_greater T  )) rm) (by decide) rfl (Nat.le_of_ble_eq_true rfl) ?_
  intro p e s m args below meth c A Q H locs ls hx hb hr hlocks hml hown hts hNW hK hA hQ hP hD hS hl
  have hown : s.vm.findClass "ConeForge" = some m.cls := hown
  have hl : lv_has ls 4 [(0, .double x0), (2, .double x2)] := hl
  unfold s_C_greater at h
  refine lv_dload_n hx hb d_C_greater_0 rfl (lv_at hl 0 rfl) ?_
  refine lv_dload_n hx hb d_C_greater_1 rfl (lv_at hl 1 rfl) ?_
  refine lv_dcmp hx hb d_C_greater_2 ?_
  refine lv_if_lt (tgt := 10) hx hb d_C_greater_3 (by decide) (fun c1 => ?_) (fun c1 => ?_)
  · have h := it_t c1 h
    refine lv_dload_n hx hb d_C_greater_10 rfl (lv_at hl 1 rfl) ?_
    exact rtD hx hb hr hlocks hQ (Option.some.inj h) hP hS d_C_greater_11 rfl rfl
  · have h := it_f c1 h
    refine lv_dload_n hx hb d_C_greater_6 rfl (lv_at hl 0 rfl) ?_
    refine lv_goto (tgt := 11) hx hb d_C_greater_7 (by decide) ?_
    exact rtD hx hb hr hlocks hQ (Option.some.inj h) hP hS d_C_greater_11 rfl rfl
theorem d_C_greatestOf_0 : decode prog_1_method_28_code 0 = .ok (.dconst 0, 1) := by decide +kernel
theorem d_C_greatestOf_1 : decode prog_1_method_28_code 1 = .ok (.dstore_n 2, 1) := by decide +kernel
theorem d_C_greatestOf_2 : decode prog_1_method_28_code 2 = .ok (.iconst 0, 1) := by decide +kernel
theorem d_C_greatestOf_3 : decode prog_1_method_28_code 3 = .ok (.istore 4, 2) := by decide +kernel
theorem d_C_greatestOf_5 : decode prog_1_method_28_code 5 = .ok (.iload 4, 2) := by decide +kernel
theorem d_C_greatestOf_7 : decode prog_1_method_28_code 7 = .ok (.iload_n 1, 1) := by decide +kernel
theorem d_C_greatestOf_8 : decode prog_1_method_28_code 8 = .ok (.if_icmp .ge 21, 3) := by decide +kernel
theorem d_C_greatestOf_11 : decode prog_1_method_28_code 11 = .ok (.dload_n 2, 1) := by decide +kernel
theorem d_C_greatestOf_12 : decode prog_1_method_28_code 12 = .ok (.aload_n 0, 1) := by decide +kernel
theorem d_C_greatestOf_13 : decode prog_1_method_28_code 13 = .ok (.iload 4, 2) := by decide +kernel
theorem d_C_greatestOf_15 : decode prog_1_method_28_code 15 = .ok (.daload, 1) := by decide +kernel
theorem d_C_greatestOf_16 : decode prog_1_method_28_code 16 = .ok (.invokestatic 253, 3) := by decide +kernel
theorem d_C_greatestOf_19 : decode prog_1_method_28_code 19 = .ok (.invokestatic 257, 3) := by decide +kernel
theorem d_C_greatestOf_22 : decode prog_1_method_28_code 22 = .ok (.dstore_n 2, 1) := by decide +kernel
theorem d_C_greatestOf_23 : decode prog_1_method_28_code 23 = .ok (.iinc 4 1, 3) := by decide +kernel
theorem d_C_greatestOf_26 : decode prog_1_method_28_code 26 = .ok (.goto (-21), 3) := by decide +kernel
theorem d_C_greatestOf_29 : decode prog_1_method_28_code 29 = .ok (.dload_n 2, 1) := by decide +kernel
theorem d_C_greatestOf_30 : decode prog_1_method_28_code 30 = .ok (.dreturn, 1) := by decide +kernel
abbrev w_C_greatestOf (T : Nat → ClassId) (q0 : Nat) (n0 : Nat) (vq0 : Nat → UInt64) : va_W := [(q0, .inl (T 0, n0, .inr (.inr (.inr (.inl vq0)))))]
def s_C_greatestOf_B5 (n0 : Nat) (vq0 : Nat → UInt64) (x1 : Int32) (x2 : UInt64) (x4 : Int32) : Option ((UInt64 × Int32) ⊕ (UInt64)) :=
  if x1 ≤ x4 then (some (.inr x2)) else (gd (inb x4 n0) <| (s_C_absolute (vq0 x4.toNatClampNeg)).bind fun u3 => (s_C_greater x2 u3).bind fun u5 => some (.inl (u5, x4 + 1)))
def s_C_greatestOf_L5 (n0 : Nat) (vq0 : Nat → UInt64) (x1 : Int32) (x2 : UInt64) (x4 : Int32) : Option (UInt64) :=
  (loopO (fun (st : UInt64 × Int32) => s_C_greatestOf_B5 n0 vq0 x1 st.1 st.2) 2000 (x2, x4)).bind fun ul5 => some ul5
def s_C_greatestOf (n0 : Nat) (vq0 : Nat → UInt64) (x1 : Int32) : Option (UInt64) :=
  s_C_greatestOf_L5 n0 vq0 x1 FP.dconst0 0
set_option maxRecDepth 100000 in
theorem j_C_greatestOf_16 (T : Nat → ClassId) (q0 : Nat) (n0 : Nat) (vq0 : Nat → UInt64) : ([].map (fun (i : Nat) => (w_C_greatestOf T q0 n0 vq0)[i]?) = (w_C_absolute T  ).map some) ∧ ([].map (fun (i : Nat) => (w_C_greatestOf T q0 n0 vq0)[i]?) = (w_C_absolute T  ).map some) ∧ ([0].map (fun (i : Nat) => (w_C_greatestOf T q0 n0 vq0)[i]?) = [0].map (fun (i : Nat) => (w_C_greatestOf T q0 n0 vq0)[i]?)) ∧ (w_C_absolute T  ).map Prod.fst = (w_C_absolute T  ).map Prod.fst ∧ (w_C_greatestOf T q0 n0 vq0).length = 1 :=
  ⟨rfl, rfl, Eq.trans (b := ([some (q0, .inl (T 0, n0, .inr (.inr (.inr (.inl vq0)))))] : List (Option (Nat × va_E)))) rfl rfl, rfl, rfl⟩
set_option maxRecDepth 100000 in
theorem j_C_greatestOf_19 (T : Nat → ClassId) (q0 : Nat) (n0 : Nat) (vq0 : Nat → UInt64) : ([].map (fun (i : Nat) => (w_C_greatestOf T q0 n0 vq0)[i]?) = (w_C_greater T  ).map some) ∧ ([].map (fun (i : Nat) => (w_C_greatestOf T q0 n0 vq0)[i]?) = (w_C_greater T  ).map some) ∧ ([0].map (fun (i : Nat) => (w_C_greatestOf T q0 n0 vq0)[i]?) = [0].map (fun (i : Nat) => (w_C_greatestOf T q0 n0 vq0)[i]?)) ∧ (w_C_greater T  ).map Prod.fst = (w_C_greater T  ).map Prod.fst ∧ (w_C_greatestOf T q0 n0 vq0).length = 1 :=
  ⟨rfl, rfl, Eq.trans (b := ([some (q0, .inl (T 0, n0, .inr (.inr (.inr (.inl vq0)))))] : List (Option (Nat × va_E)))) rfl rfl, rfl, rfl⟩
set_option maxHeartbeats 40000000 in
set_option maxRecDepth 100000 in
theorem c_C_greatestOf (l : Launch) (D : va_G) (T : Nat → ClassId) (q0 : Nat) (n0 : Nat) (vq0 : Nat → UInt64) (x1 : Int32) (rm : UInt64) (h : s_C_greatestOf n0 vq0 x1 = some rm) : CtD l y_C_greatestOf (Cond.code y_C_greatestOf prog_1_method_28_code 5 (some .double) :: BIG) 1 23 D T [.ref q0, .int x1] (w_C_greatestOf T q0 n0 vq0) (fun r => r) (fun r => (w_C_greatestOf T q0 n0 vq0)) rm := by
  refine cf_entry (y := y_C_greatestOf) (cc := prog_1_method_28_code) (nL := 5) (ret := (some .double)) (fr := 1) (lo := 23) (T := T) (av := [.ref q0, .int x1]) (w := (w_C_greatestOf T q0 n0 vq0)) (Qc := cfQd D (fun r => r) (fun r => (w_C_greatestOf T q0 n0 vq0)) rm) (by decide) rfl (Nat.le_of_ble_eq_true rfl) ?_
  intro p e s m args below meth c A Q H locs ls hx hb hr hlocks hml hown hts hNW hK hA hQ hP hD hS hl
  have hown : s.vm.findClass "ConeForge" = some m.cls := hown
  have hl : lv_has ls 5 [(0, .ref q0), (1, .int x1)] := hl
  have L5 : ∀ (x1 : Int32) (x2 : UInt64) (x4 : Int32), ∀ (H : Heap) (locs : List Loc) (ls : Array Slot), va_P D CL (w_C_greatestOf T q0 n0 vq0) H → va_D A (w_C_greatestOf T q0 n0 vq0) → va_S A s.heap H locs → lv_has ls 5 [(0, .ref q0), (1, .int x1), (2, .double x2), (4, .int x4)] → s_C_greatestOf_L5 n0 vq0 x1 x2 x4 = some rm → W p l e (rmk 1 23) s m args below meth c H locs 0 0 Q (F0 m 5 ls []) := by
    intro x1 x2 x4 H locs ls hP hD hS hl h
    unfold s_C_greatestOf_L5 at h
    obtain ⟨ul5, hul5, h⟩ := bi_some h
    refine loopO_W (Wh := fun (st : UInt64 × Int32) => ∀ (H : Heap) (locs : List Loc) (ls : Array Slot), va_P D CL (w_C_greatestOf T q0 n0 vq0) H → va_D A (w_C_greatestOf T q0 n0 vq0) → va_S A s.heap H locs → lv_has ls 5 [(0, .ref q0), (1, .int x1), (2, .double st.1), (4, .int st.2)] → W p l e (rmk 1 23) s m args below meth c H locs 0 0 Q (F0 m 5 ls [])) (Wx := fun (e1 : UInt64) => ∀ (H : Heap) (locs : List Loc) (ls : Array Slot), va_P D CL (w_C_greatestOf T q0 n0 vq0) H → va_D A (w_C_greatestOf T q0 n0 vq0) → va_S A s.heap H locs → lv_has ls 5 [(2, .double e1)] → W p l e (rmk 1 23) s m args below meth c H locs 0 0 Q (F0 m 29 ls [])) ?_ 2000 _ ul5 hul5 ?_ H locs ls hP hD hS hl
    · intro st rb5 h kc5 kx5 H locs ls hP hD hS hl
      obtain ⟨x2, x4⟩ := st
      have h : s_C_greatestOf_B5 n0 vq0 x1 x2 x4 = some rb5 := h
      unfold s_C_greatestOf_B5 at h
      refine lv_iload hx hb d_C_greatestOf_5 (lv_at hl 3 rfl) ?_
      refine lv_iload_n hx hb d_C_greatestOf_7 rfl (lv_at hl 1 rfl) ?_
      refine lv_icmp_ge (tgt := 29) hx hb d_C_greatestOf_8 (by decide) (fun c1 => ?_) (fun c1 => ?_)
      · have h := it_t c1 h
        exact kx5 _ (Option.some.inj h).symm H locs ls hP hD hS (lv_sub hl [2] rfl)
      · have h := it_f c1 h
        refine lv_dload_n hx hb d_C_greatestOf_11 rfl (lv_at hl 2 rfl) ?_
        refine lv_aload_n hx hb d_C_greatestOf_12 rfl (lv_at hl 0 rfl) ?_
        refine lv_iload hx hb d_C_greatestOf_13 (lv_at hl 3 rfl) ?_
        obtain ⟨g2, h⟩ := gd_some h
        refine va_dald hx hb hK hP 0 0 rfl rfl (inb_in g2) d_C_greatestOf_15 ?_
        obtain ⟨u3, hu3, h⟩ := bi_some h
        have jj4 := j_C_greatestOf_16 T q0 n0 vq0
        refine kD2 (v := u3) (wc := (w_C_absolute T  )) (wc' := (w_C_absolute T  )) (w_C_greatestOf T q0 n0 vq0) (runOS (As := [.double (vq0 x4.toNatClampNeg)]) (rest := [.double x2]) ((c_C_absolute l D T   (vq0 x4.toNatClampNeg) u3 hu3) H.size) ⟨hx, hb, hml, hown, hts⟩ (cwOS bw303 bw304 bw97 bw305 dd_C_absolute hts ⟨Nat.le_of_ble_eq_true rfl, Nat.le_of_ble_eq_true rfl⟩)  hNW hK hP hD [] jj4.1 (by decide) rfl hl.1 rfl (lv_room (Nat.le_of_ble_eq_true rfl)) d_C_greatestOf_16 ⟨Nat.le_of_ble_eq_true rfl, Nat.le_of_ble_eq_true rfl⟩) hP hD hS hA [] [0] jj4.1 jj4.2.1 jj4.2.2.1 (N := 1) jj4.2.2.2.2 (by decide) jj4.2.2.2.1 (fun H locs hP hD hS => ?_)
        obtain ⟨u5, hu5, h⟩ := bi_some h
        have jj6 := j_C_greatestOf_19 T q0 n0 vq0
        refine kD2 (v := u5) (wc := (w_C_greater T  )) (wc' := (w_C_greater T  )) (w_C_greatestOf T q0 n0 vq0) (runOS (As := [.double x2, .double u3]) (rest := []) ((c_C_greater l D T   x2 u3 u5 hu5) H.size) ⟨hx, hb, hml, hown, hts⟩ (cwOS bw306 bw307 bw97 bw308 dd_C_greater hts ⟨Nat.le_of_ble_eq_true rfl, Nat.le_of_ble_eq_true rfl⟩)  hNW hK hP hD [] jj6.1 (by decide) rfl hl.1 rfl (lv_room (Nat.le_of_ble_eq_true rfl)) d_C_greatestOf_19 ⟨Nat.le_of_ble_eq_true rfl, Nat.le_of_ble_eq_true rfl⟩) hP hD hS hA [] [0] jj6.1 jj6.2.1 jj6.2.2.1 (N := 1) jj6.2.2.2.2 (by decide) jj6.2.2.2.1 (fun H locs hP hD hS => ?_)
        refine lv_dstore_n (lv' := [(2, .double u5), (0, .ref q0), (1, .int x1), (4, .int x4)]) hx hb d_C_greatestOf_22 rfl hl (by decide) rfl (fun ls hl => ?_)
        refine lv_iinc (v := x4 + 1) (lv' := [(4, .int (x4 + 1)), (2, .double u5), (0, .ref q0), (1, .int x1)]) hx hb d_C_greatestOf_23 hl (k := 3) rfl rfl (by decide) rfl (fun ls hl => ?_)
        refine lv_goto (tgt := 5) hx hb d_C_greatestOf_26 (by decide) ?_
        exact kc5 _ (Option.some.inj h).symm H locs ls hP hD hS (lv_sub hl [2, 3, 1, 0] rfl)
    · intro H locs ls hP hD hS hl
      refine lv_dload_n hx hb d_C_greatestOf_29 rfl (lv_at hl 0 rfl) ?_
      exact rtD hx hb hr hlocks hQ (Option.some.inj h) hP hS d_C_greatestOf_30 rfl rfl
  unfold s_C_greatestOf at h
  refine lv_dconst0 hx hb d_C_greatestOf_0 ?_
  refine lv_dstore_n (lv' := [(2, .double FP.dconst0), (0, .ref q0), (1, .int x1)]) hx hb d_C_greatestOf_1 rfl hl (by decide) rfl (fun ls hl => ?_)
  refine lv_iconst (v := 0) hx hb d_C_greatestOf_2 (by decide) ?_
  refine lv_istore (lv' := [(4, .int 0), (2, .double FP.dconst0), (0, .ref q0), (1, .int x1)]) hx hb d_C_greatestOf_3 hl (by decide) rfl (fun ls hl => ?_)
  exact L5 x1 FP.dconst0 0 H locs ls hP hD hS (lv_sub hl [2, 3, 1, 0] rfl) h
theorem d_C_effort_0 : decode prog_1_method_11_code 0 = .ok (.aload_n 0, 1) := by decide +kernel
theorem d_C_effort_1 : decode prog_1_method_11_code 1 = .ok (.getfield 58, 3) := by decide +kernel
theorem d_C_effort_4 : decode prog_1_method_11_code 4 = .ok (.ireturn, 1) := by decide +kernel
abbrev w_C_effort (T : Nat → ClassId) (q0 : Nat) (q0_problem : Nat) (q0_scales : Nat) (q0_point : Nat) (q0_reader : Nat) (q0_interiorMethod : Nat) (q0_simplexMethod : Nat) (vq0_scalingOn : Int32) (vq0_pointTold : Int32) (vq0_latestEffort : Int32) (vq0_failedAt : Int32) : va_W := [(q0, .inr (7, [.ref q0_problem, .ref q0_scales, .ref q0_point, .ref q0_reader, .ref q0_interiorMethod, .ref q0_simplexMethod, .int vq0_scalingOn, .int vq0_pointTold, .int vq0_latestEffort, .int vq0_failedAt]))]
def s_C_effort (vq0_scalingOn : Int32) (vq0_pointTold : Int32) (vq0_latestEffort : Int32) (vq0_failedAt : Int32) : Option (Int32) :=
  some vq0_latestEffort
set_option maxHeartbeats 40000000 in
set_option maxRecDepth 100000 in
theorem c_C_effort (l : Launch) (D : va_G) (T : Nat → ClassId) (q0 : Nat) (q0_problem : Nat) (q0_scales : Nat) (q0_point : Nat) (q0_reader : Nat) (q0_interiorMethod : Nat) (q0_simplexMethod : Nat) (vq0_scalingOn : Int32) (vq0_pointTold : Int32) (vq0_latestEffort : Int32) (vq0_failedAt : Int32) (rm : Int32) (h : s_C_effort vq0_scalingOn vq0_pointTold vq0_latestEffort vq0_failedAt = some rm) : CtI l y_C_effort (Cond.code y_C_effort prog_1_method_11_code 1 (some .int) :: BIG) 0 0 D T [.ref q0] (w_C_effort T q0 q0_problem q0_scales q0_point q0_reader q0_interiorMethod q0_simplexMethod vq0_scalingOn vq0_pointTold vq0_latestEffort vq0_failedAt) (fun r => r) (fun r => (w_C_effort T q0 q0_problem q0_scales q0_point q0_reader q0_interiorMethod q0_simplexMethod vq0_scalingOn vq0_pointTold vq0_latestEffort vq0_failedAt)) rm := by
  refine cf_entry (y := y_C_effort) (cc := prog_1_method_11_code) (nL := 1) (ret := (some .int)) (fr := 0) (lo := 0) (T := T) (av := [.ref q0]) (w := (w_C_effort T q0 q0_problem q0_scales q0_point q0_reader q0_interiorMethod q0_simplexMethod vq0_scalingOn vq0_pointTold vq0_latestEffort vq0_failedAt)) (Qc := cfQi D (fun r => r) (fun r => (w_C_effort T q0 q0_problem q0_scales q0_point q0_reader q0_interiorMethod q0_simplexMethod vq0_scalingOn vq0_pointTold vq0_latestEffort vq0_failedAt)) rm) (by decide) rfl (Nat.le_of_ble_eq_true rfl) ?_
  intro p e s m args below meth c A Q H locs ls hx hb hr hlocks hml hown hts hNW hK hA hQ hP hD hS hl
  have hown : s.vm.findClass "ConeForge" = some m.cls := hown
  have hl : lv_has ls 1 [(0, .ref q0)] := hl
  unfold s_C_effort at h
  refine lv_aload_n hx hb d_C_effort_0 rfl (lv_at hl 0 rfl) ?_
  refine va_get (D := D) (ci := 7) (v := .int vq0_latestEffort) (C := "ConeForge") (T := FC) (N := 10) hx hb hts iC hown hK hP 0 rfl rfl 8 (by decide) (hts _ (bgc bw269)) (fun _ h9 => h9) rfl d_C_effort_1 ?_
  exact rtI hx hb hr hlocks hQ (Option.some.inj h) hP hS d_C_effort_4 rfl rfl
