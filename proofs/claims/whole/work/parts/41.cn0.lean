theorem df_Pb : ∀ j, j < 5 → defaultValue (tPb j) = vp_V [.int 0, .int 0, .null, .null, .null] j := fun j hj => by
  match j, hj with
  | 0, _ => rfl
  | 1, _ => rfl
  | 2, _ => rfl
  | 3, _ => rfl
  | 4, _ => rfl
  | k + 5, hk => exact absurd hk (by omega)
theorem df_Pt : ∀ j, j < 3 → defaultValue (tPt j) = vp_V [.null, .null, .null] j := fun j hj => by
  match j, hj with
  | 0, _ => rfl
  | 1, _ => rfl
  | 2, _ => rfl
  | k + 3, hk => exact absurd hk (by omega)
theorem df_Sc : ∀ j, j < 2 → defaultValue (tSc j) = vp_V [.null, .null] j := fun j hj => by
  match j, hj with
  | 0, _ => rfl
  | 1, _ => rfl
  | k + 2, hk => exact absurd hk (by omega)
theorem df_Tr : ∀ j, j < 9 → defaultValue (tTr j) = vp_V [.null, .null, .int 0, .int 0, .int 0, .int 0, .double 0, .int 0, .int 0] j := fun j hj => by
  match j, hj with
  | 0, _ => rfl
  | 1, _ => rfl
  | 2, _ => rfl
  | 3, _ => rfl
  | 4, _ => rfl
  | 5, _ => rfl
  | 6, _ => rfl
  | 7, _ => rfl
  | 8, _ => rfl
  | k + 9, hk => exact absurd hk (by omega)
theorem df_Fm : ∀ j, j < 4 → defaultValue (tFm j) = vp_V [.null, .null, .null, .null] j := fun j hj => by
  match j, hj with
  | 0, _ => rfl
  | 1, _ => rfl
  | 2, _ => rfl
  | 3, _ => rfl
  | k + 4, hk => exact absurd hk (by omega)
theorem df_Im : ∀ j, j < 13 → defaultValue (tIm j) = vp_V [.null, .null, .null, .null, .null, .null, .null, .null, .null, .null, .null, .double 0, .int 0] j := fun j hj => by
  match j, hj with
  | 0, _ => rfl
  | 1, _ => rfl
  | 2, _ => rfl
  | 3, _ => rfl
  | 4, _ => rfl
  | 5, _ => rfl
  | 6, _ => rfl
  | 7, _ => rfl
  | 8, _ => rfl
  | 9, _ => rfl
  | 10, _ => rfl
  | 11, _ => rfl
  | 12, _ => rfl
  | k + 13, hk => exact absurd hk (by omega)
theorem df_Sm : ∀ j, j < 10 → defaultValue (tSm j) = vp_V [.null, .null, .null, .null, .null, .null, .int 0, .int 0, .int 0, .int 0] j := fun j hj => by
  match j, hj with
  | 0, _ => rfl
  | 1, _ => rfl
  | 2, _ => rfl
  | 3, _ => rfl
  | 4, _ => rfl
  | 5, _ => rfl
  | 6, _ => rfl
  | 7, _ => rfl
  | 8, _ => rfl
  | 9, _ => rfl
  | k + 10, hk => exact absurd hk (by omega)
theorem df_C : ∀ j, j < 10 → defaultValue (tC j) = vp_V [.null, .null, .null, .null, .null, .null, .int 0, .int 0, .int 0, .int 0] j := fun j hj => by
  match j, hj with
  | 0, _ => rfl
  | 1, _ => rfl
  | 2, _ => rfl
  | 3, _ => rfl
  | 4, _ => rfl
  | 5, _ => rfl
  | 6, _ => rfl
  | 7, _ => rfl
  | 8, _ => rfl
  | 9, _ => rfl
  | k + 10, hk => exact absurd hk (by omega)
theorem df_M : ∀ j, j < 46 → defaultValue (tM j) = vp_V [.null, .null, .null, .null, .null, .null, .null, .null, .null, .null, .null, .null, .null, .null, .null, .null, .null, .null, .null, .null, .null, .null, .null, .null, .null, .null, .null, .null, .null, .int 0, .int 0, .int 0, .int 0, .int 0, .int 0, .int 0, .int 0, .int 0, .int 0, .null, .null, .null, .int 0, .int 0, .double 0, .int 0] j := fun j hj => by
  match j, hj with
  | 0, _ => rfl
  | 1, _ => rfl
  | 2, _ => rfl
  | 3, _ => rfl
  | 4, _ => rfl
  | 5, _ => rfl
  | 6, _ => rfl
  | 7, _ => rfl
  | 8, _ => rfl
  | 9, _ => rfl
  | 10, _ => rfl
  | 11, _ => rfl
  | 12, _ => rfl
  | 13, _ => rfl
  | 14, _ => rfl
  | 15, _ => rfl
  | 16, _ => rfl
  | 17, _ => rfl
  | 18, _ => rfl
  | 19, _ => rfl
  | 20, _ => rfl
  | 21, _ => rfl
  | 22, _ => rfl
  | 23, _ => rfl
  | 24, _ => rfl
  | 25, _ => rfl
  | 26, _ => rfl
  | 27, _ => rfl
  | 28, _ => rfl
  | 29, _ => rfl
  | 30, _ => rfl
  | 31, _ => rfl
  | 32, _ => rfl
  | 33, _ => rfl
  | 34, _ => rfl
  | 35, _ => rfl
  | 36, _ => rfl
  | 37, _ => rfl
  | 38, _ => rfl
  | 39, _ => rfl
  | 40, _ => rfl
  | 41, _ => rfl
  | 42, _ => rfl
  | 43, _ => rfl
  | 44, _ => rfl
  | 45, _ => rfl
  | k + 46, hk => exact absurd hk (by omega)
theorem d_Pb_init_0 : decode prog_5_method_1_code 0 = .ok (.aload_n 0, 1) := by decide +kernel
theorem d_Pb_init_1 : decode prog_5_method_1_code 1 = .ok (.invokespecial 3, 3) := by decide +kernel
theorem d_Pb_init_4 : decode prog_5_method_1_code 4 = .ok (.aload_n 0, 1) := by decide +kernel
theorem d_Pb_init_5 : decode prog_5_method_1_code 5 = .ok (.iconst 1, 1) := by decide +kernel
theorem d_Pb_init_6 : decode prog_5_method_1_code 6 = .ok (.putfield 9, 3) := by decide +kernel
theorem d_Pb_init_9 : decode prog_5_method_1_code 9 = .ok (.aload_n 0, 1) := by decide +kernel
theorem d_Pb_init_10 : decode prog_5_method_1_code 10 = .ok (.iconst 1, 1) := by decide +kernel
theorem d_Pb_init_11 : decode prog_5_method_1_code 11 = .ok (.putfield 15, 3) := by decide +kernel
theorem d_Pb_init_14 : decode prog_5_method_1_code 14 = .ok (.aload_n 0, 1) := by decide +kernel
theorem d_Pb_init_15 : decode prog_5_method_1_code 15 = .ok (.iconst 5, 1) := by decide +kernel
theorem d_Pb_init_16 : decode prog_5_method_1_code 16 = .ok (.bipush 8, 2) := by decide +kernel
theorem d_Pb_init_18 : decode prog_5_method_1_code 18 = .ok (.multianewarray 18 2, 4) := by decide +kernel
theorem d_Pb_init_22 : decode prog_5_method_1_code 22 = .ok (.putfield 20, 3) := by decide +kernel
theorem d_Pb_init_25 : decode prog_5_method_1_code 25 = .ok (.aload_n 0, 1) := by decide +kernel
theorem d_Pb_init_26 : decode prog_5_method_1_code 26 = .ok (.iconst 5, 1) := by decide +kernel
theorem d_Pb_init_27 : decode prog_5_method_1_code 27 = .ok (.newarray .double, 2) := by decide +kernel
theorem d_Pb_init_29 : decode prog_5_method_1_code 29 = .ok (.putfield 23, 3) := by decide +kernel
theorem d_Pb_init_32 : decode prog_5_method_1_code 32 = .ok (.aload_n 0, 1) := by decide +kernel
theorem d_Pb_init_33 : decode prog_5_method_1_code 33 = .ok (.bipush 8, 2) := by decide +kernel
theorem d_Pb_init_35 : decode prog_5_method_1_code 35 = .ok (.newarray .double, 2) := by decide +kernel
theorem d_Pb_init_37 : decode prog_5_method_1_code 37 = .ok (.putfield 27, 3) := by decide +kernel
theorem d_Pb_init_40 : decode prog_5_method_1_code 40 = .ok (.return_, 1) := by decide +kernel
abbrev wn_Pb_init (T : Nat → ClassId) (q0 : Nat) (u : Nat × (Nat → Nat) × Nat × Nat) : va_W := [(q0, .inr (0, [.int 1, .int 1, .ref u.1, .ref u.2.2.1, .ref u.2.2.2])), (u.1, .inl (T 3, 5, .inr (.inr (.inr (.inr (fun i => some (u.2.1 i))))))), (u.2.1 0, .inl (T 0, 8, .inr (.inr (.inr (.inl (fun _ => 0)))))), (u.2.1 1, .inl (T 0, 8, .inr (.inr (.inr (.inl (fun _ => 0)))))), (u.2.1 2, .inl (T 0, 8, .inr (.inr (.inr (.inl (fun _ => 0)))))), (u.2.1 3, .inl (T 0, 8, .inr (.inr (.inr (.inl (fun _ => 0)))))), (u.2.1 4, .inl (T 0, 8, .inr (.inr (.inr (.inl (fun _ => 0)))))), (u.2.2.1, .inl (T 0, 5, .inr (.inr (.inr (.inl (fun _ => 0)))))), (u.2.2.2, .inl (T 0, 8, .inr (.inr (.inr (.inl (fun _ => 0))))))]
set_option maxHeartbeats 40000000 in
set_option maxRecDepth 100000 in
theorem c_Pb_init (l : Launch) (D : va_G) (T : Nat → ClassId) (q0 : Nat) : CtN l y_Pb_init (Cond.code y_Pb_init prog_5_method_1_code 1 none :: BIG) 1 40 8 58 D T q0 [(q0, .inr (0, [.int 0, .int 0, .null, .null, .null]))] (wn_Pb_init T q0) := by
  refine cn_entry (cc := prog_5_method_1_code) (by decide) rfl ?_
  intro p e s m args below meth c A Q H locs ls hx hb hr hlocks hml hown hts hNW hK hA hQ hP hD hS hl hAO hin
  have hown : s.vm.findClass "ConeForge$Problem" = some m.cls := hown
  have hin : meth.name = "<init>" := hin
  refine lv_aload_n hx hb d_Pb_init_0 rfl (lv_at hl 0 rfl) ?_
  refine W.objInit hx hb hown (hts _ (bgc bw127)) (hts _ (bgc bw121)) (hts _ (bgc bw122)) rfl (by rw [hml]; exact hl.1) rfl d_Pb_init_1 (Nat.le_of_ble_eq_true rfl) (Nat.le_of_ble_eq_true rfl) ?_
  refine W.eq (g2 := F0 m 4 ls []) rfl ?_
  refine lv_aload_n hx hb d_Pb_init_4 rfl (lv_at hl 0 rfl) ?_
  refine lv_iconst (v := 1) hx hb d_Pb_init_5 (by decide) ?_
  refine va_put (D := D) (ci := 0) (v := .int 1) (ty := .int) (C := "ConeForge$Problem") (T := FPb) (N := 5) hx hb hts iPb tPb tPb_ok nmPb hown hK hP hD hS 0 rfl rfl 0 (by decide) (hts _ (bgc bw129)) (fun _ h9 => h9) rfl (by decide +kernel) rfl rfl (Nat.le_of_ble_eq_true rfl) d_Pb_init_6 (fun H locs hP hD hS => ?_)
  have hP : va_P D CL [(q0, .inr (0, [.int 1, .int 0, .null, .null, .null]))] H := hP
  have hD : va_D A [(q0, .inr (0, [.int 1, .int 0, .null, .null, .null]))] := hD
  refine lv_aload_n hx hb d_Pb_init_9 rfl (lv_at hl 0 rfl) ?_
  refine lv_iconst (v := 1) hx hb d_Pb_init_10 (by decide) ?_
  refine va_put (D := D) (ci := 0) (v := .int 1) (ty := .int) (C := "ConeForge$Problem") (T := FPb) (N := 5) hx hb hts iPb tPb tPb_ok nmPb hown hK hP hD hS 0 rfl rfl 1 (by decide) (hts _ (bgc bw130)) (fun _ h9 => h9) rfl (by decide +kernel) rfl rfl (Nat.le_of_ble_eq_true rfl) d_Pb_init_11 (fun H locs hP hD hS => ?_)
  have hP : va_P D CL [(q0, .inr (0, [.int 1, .int 1, .null, .null, .null]))] H := hP
  have hD : va_D A [(q0, .inr (0, [.int 1, .int 1, .null, .null, .null]))] := hD
  refine lv_aload_n hx hb d_Pb_init_14 rfl (lv_at hl 0 rfl) ?_
  refine lv_iconst (v := 5) hx hb d_Pb_init_15 (by decide) ?_
  refine lv_bipush (v := 8) hx hb d_Pb_init_16 (by decide) ?_
  refine cn_mna (K' := 8) hx hb hown (hts _ (bgc bw128)) hAO (hts _ (bgc bw139)) hK hP hD hS hA (by decide) (by decide) (by decide) (by decide) (Nat.le_of_ble_eq_true rfl) (Nat.le_of_ble_eq_true rfl) d_Pb_init_18 (fun h1 r2 H hP hD hS => ?_)
  have hP : va_P D CL [(q0, .inr (0, [.int 1, .int 1, .null, .null, .null])), (h1, .inl (T 3, 5, .inr (.inr (.inr (.inr (fun i => some (r2 i))))))), (r2 0, .inl (T 0, 8, .inr (.inr (.inr (.inl (fun _ => 0)))))), (r2 1, .inl (T 0, 8, .inr (.inr (.inr (.inl (fun _ => 0)))))), (r2 2, .inl (T 0, 8, .inr (.inr (.inr (.inl (fun _ => 0)))))), (r2 3, .inl (T 0, 8, .inr (.inr (.inr (.inl (fun _ => 0)))))), (r2 4, .inl (T 0, 8, .inr (.inr (.inr (.inl (fun _ => 0))))))] H := hP
  have hD : va_D A [(q0, .inr (0, [.int 1, .int 1, .null, .null, .null])), (h1, .inl (T 3, 5, .inr (.inr (.inr (.inr (fun i => some (r2 i))))))), (r2 0, .inl (T 0, 8, .inr (.inr (.inr (.inl (fun _ => 0)))))), (r2 1, .inl (T 0, 8, .inr (.inr (.inr (.inl (fun _ => 0)))))), (r2 2, .inl (T 0, 8, .inr (.inr (.inr (.inl (fun _ => 0)))))), (r2 3, .inl (T 0, 8, .inr (.inr (.inr (.inl (fun _ => 0)))))), (r2 4, .inl (T 0, 8, .inr (.inr (.inr (.inl (fun _ => 0))))))] := hD
  refine va_putF (D := D) (ci := 0) (v := .ref h1) (ty := (.array (.array .double))) (C := "ConeForge$Problem") (T := FPb) (N := 5) hx hb hts iPb tPb tPb_ok nmPb hown hK hP hD hS 0 rfl rfl 2 (by decide) (hts _ (bgc bw131)) (fun _ h9 => h9) rfl hin rfl (by decide +kernel) rfl rfl (Nat.le_of_ble_eq_true rfl) d_Pb_init_22 (fun H locs hP hD hS => ?_)
  have hP : va_P D CL [(q0, .inr (0, [.int 1, .int 1, .ref h1, .null, .null])), (h1, .inl (T 3, 5, .inr (.inr (.inr (.inr (fun i => some (r2 i))))))), (r2 0, .inl (T 0, 8, .inr (.inr (.inr (.inl (fun _ => 0)))))), (r2 1, .inl (T 0, 8, .inr (.inr (.inr (.inl (fun _ => 0)))))), (r2 2, .inl (T 0, 8, .inr (.inr (.inr (.inl (fun _ => 0)))))), (r2 3, .inl (T 0, 8, .inr (.inr (.inr (.inl (fun _ => 0)))))), (r2 4, .inl (T 0, 8, .inr (.inr (.inr (.inl (fun _ => 0))))))] H := hP
  have hD : va_D A [(q0, .inr (0, [.int 1, .int 1, .ref h1, .null, .null])), (h1, .inl (T 3, 5, .inr (.inr (.inr (.inr (fun i => some (r2 i))))))), (r2 0, .inl (T 0, 8, .inr (.inr (.inr (.inl (fun _ => 0)))))), (r2 1, .inl (T 0, 8, .inr (.inr (.inr (.inl (fun _ => 0)))))), (r2 2, .inl (T 0, 8, .inr (.inr (.inr (.inl (fun _ => 0)))))), (r2 3, .inl (T 0, 8, .inr (.inr (.inr (.inl (fun _ => 0)))))), (r2 4, .inl (T 0, 8, .inr (.inr (.inr (.inl (fun _ => 0))))))] := hD
  refine lv_aload_n hx hb d_Pb_init_25 rfl (lv_at hl 0 rfl) ?_
  refine lv_iconst (v := 5) hx hb d_Pb_init_26 (by decide) ?_
  refine cn_newa (atype := .double) (ty := .double) (nm := "[D") (a0 := (5, .inr (.inr (.inr (.inl (fun _ => 0)))))) (N' := 5) hx hb (hts _ (bgc bw139)) rfl 0 rfl (fun _ h => h) hK hP hD hS hA (fun _ => rfl) (by decide) (by decide) (by decide) (Nat.le_of_ble_eq_true rfl) (Nat.le_of_ble_eq_true rfl) d_Pb_init_27 (fun h3 H hP hD hS => ?_)
  have hP : va_P D CL [(q0, .inr (0, [.int 1, .int 1, .ref h1, .null, .null])), (h1, .inl (T 3, 5, .inr (.inr (.inr (.inr (fun i => some (r2 i))))))), (r2 0, .inl (T 0, 8, .inr (.inr (.inr (.inl (fun _ => 0)))))), (r2 1, .inl (T 0, 8, .inr (.inr (.inr (.inl (fun _ => 0)))))), (r2 2, .inl (T 0, 8, .inr (.inr (.inr (.inl (fun _ => 0)))))), (r2 3, .inl (T 0, 8, .inr (.inr (.inr (.inl (fun _ => 0)))))), (r2 4, .inl (T 0, 8, .inr (.inr (.inr (.inl (fun _ => 0)))))), (h3, .inl (T 0, 5, .inr (.inr (.inr (.inl (fun _ => 0))))))] H := hP
  have hD : va_D A [(q0, .inr (0, [.int 1, .int 1, .ref h1, .null, .null])), (h1, .inl (T 3, 5, .inr (.inr (.inr (.inr (fun i => some (r2 i))))))), (r2 0, .inl (T 0, 8, .inr (.inr (.inr (.inl (fun _ => 0)))))), (r2 1, .inl (T 0, 8, .inr (.inr (.inr (.inl (fun _ => 0)))))), (r2 2, .inl (T 0, 8, .inr (.inr (.inr (.inl (fun _ => 0)))))), (r2 3, .inl (T 0, 8, .inr (.inr (.inr (.inl (fun _ => 0)))))), (r2 4, .inl (T 0, 8, .inr (.inr (.inr (.inl (fun _ => 0)))))), (h3, .inl (T 0, 5, .inr (.inr (.inr (.inl (fun _ => 0))))))] := hD
  refine va_putF (D := D) (ci := 0) (v := .ref h3) (ty := (.array .double)) (C := "ConeForge$Problem") (T := FPb) (N := 5) hx hb hts iPb tPb tPb_ok nmPb hown hK hP hD hS 0 rfl rfl 3 (by decide) (hts _ (bgc bw132)) (fun _ h9 => h9) rfl hin rfl (by decide +kernel) rfl rfl (Nat.le_of_ble_eq_true rfl) d_Pb_init_29 (fun H locs hP hD hS => ?_)
  have hP : va_P D CL [(q0, .inr (0, [.int 1, .int 1, .ref h1, .ref h3, .null])), (h1, .inl (T 3, 5, .inr (.inr (.inr (.inr (fun i => some (r2 i))))))), (r2 0, .inl (T 0, 8, .inr (.inr (.inr (.inl (fun _ => 0)))))), (r2 1, .inl (T 0, 8, .inr (.inr (.inr (.inl (fun _ => 0)))))), (r2 2, .inl (T 0, 8, .inr (.inr (.inr (.inl (fun _ => 0)))))), (r2 3, .inl (T 0, 8, .inr (.inr (.inr (.inl (fun _ => 0)))))), (r2 4, .inl (T 0, 8, .inr (.inr (.inr (.inl (fun _ => 0)))))), (h3, .inl (T 0, 5, .inr (.inr (.inr (.inl (fun _ => 0))))))] H := hP
  have hD : va_D A [(q0, .inr (0, [.int 1, .int 1, .ref h1, .ref h3, .null])), (h1, .inl (T 3, 5, .inr (.inr (.inr (.inr (fun i => some (r2 i))))))), (r2 0, .inl (T 0, 8, .inr (.inr (.inr (.inl (fun _ => 0)))))), (r2 1, .inl (T 0, 8, .inr (.inr (.inr (.inl (fun _ => 0)))))), (r2 2, .inl (T 0, 8, .inr (.inr (.inr (.inl (fun _ => 0)))))), (r2 3, .inl (T 0, 8, .inr (.inr (.inr (.inl (fun _ => 0)))))), (r2 4, .inl (T 0, 8, .inr (.inr (.inr (.inl (fun _ => 0)))))), (h3, .inl (T 0, 5, .inr (.inr (.inr (.inl (fun _ => 0))))))] := hD
  refine lv_aload_n hx hb d_Pb_init_32 rfl (lv_at hl 0 rfl) ?_
  refine lv_bipush (v := 8) hx hb d_Pb_init_33 (by decide) ?_
  refine cn_newa (atype := .double) (ty := .double) (nm := "[D") (a0 := (8, .inr (.inr (.inr (.inl (fun _ => 0)))))) (N' := 8) hx hb (hts _ (bgc bw139)) rfl 0 rfl (fun _ h => h) hK hP hD hS hA (fun _ => rfl) (by decide) (by decide) (by decide) (Nat.le_of_ble_eq_true rfl) (Nat.le_of_ble_eq_true rfl) d_Pb_init_35 (fun h4 H hP hD hS => ?_)
  have hP : va_P D CL [(q0, .inr (0, [.int 1, .int 1, .ref h1, .ref h3, .null])), (h1, .inl (T 3, 5, .inr (.inr (.inr (.inr (fun i => some (r2 i))))))), (r2 0, .inl (T 0, 8, .inr (.inr (.inr (.inl (fun _ => 0)))))), (r2 1, .inl (T 0, 8, .inr (.inr (.inr (.inl (fun _ => 0)))))), (r2 2, .inl (T 0, 8, .inr (.inr (.inr (.inl (fun _ => 0)))))), (r2 3, .inl (T 0, 8, .inr (.inr (.inr (.inl (fun _ => 0)))))), (r2 4, .inl (T 0, 8, .inr (.inr (.inr (.inl (fun _ => 0)))))), (h3, .inl (T 0, 5, .inr (.inr (.inr (.inl (fun _ => 0)))))), (h4, .inl (T 0, 8, .inr (.inr (.inr (.inl (fun _ => 0))))))] H := hP
  have hD : va_D A [(q0, .inr (0, [.int 1, .int 1, .ref h1, .ref h3, .null])), (h1, .inl (T 3, 5, .inr (.inr (.inr (.inr (fun i => some (r2 i))))))), (r2 0, .inl (T 0, 8, .inr (.inr (.inr (.inl (fun _ => 0)))))), (r2 1, .inl (T 0, 8, .inr (.inr (.inr (.inl (fun _ => 0)))))), (r2 2, .inl (T 0, 8, .inr (.inr (.inr (.inl (fun _ => 0)))))), (r2 3, .inl (T 0, 8, .inr (.inr (.inr (.inl (fun _ => 0)))))), (r2 4, .inl (T 0, 8, .inr (.inr (.inr (.inl (fun _ => 0)))))), (h3, .inl (T 0, 5, .inr (.inr (.inr (.inl (fun _ => 0)))))), (h4, .inl (T 0, 8, .inr (.inr (.inr (.inl (fun _ => 0))))))] := hD
  refine va_putF (D := D) (ci := 0) (v := .ref h4) (ty := (.array .double)) (C := "ConeForge$Problem") (T := FPb) (N := 5) hx hb hts iPb tPb tPb_ok nmPb hown hK hP hD hS 0 rfl rfl 4 (by decide) (hts _ (bgc bw133)) (fun _ h9 => h9) rfl hin rfl (by decide +kernel) rfl rfl (Nat.le_of_ble_eq_true rfl) d_Pb_init_37 (fun H locs hP hD hS => ?_)
  have hP : va_P D CL [(q0, .inr (0, [.int 1, .int 1, .ref h1, .ref h3, .ref h4])), (h1, .inl (T 3, 5, .inr (.inr (.inr (.inr (fun i => some (r2 i))))))), (r2 0, .inl (T 0, 8, .inr (.inr (.inr (.inl (fun _ => 0)))))), (r2 1, .inl (T 0, 8, .inr (.inr (.inr (.inl (fun _ => 0)))))), (r2 2, .inl (T 0, 8, .inr (.inr (.inr (.inl (fun _ => 0)))))), (r2 3, .inl (T 0, 8, .inr (.inr (.inr (.inl (fun _ => 0)))))), (r2 4, .inl (T 0, 8, .inr (.inr (.inr (.inl (fun _ => 0)))))), (h3, .inl (T 0, 5, .inr (.inr (.inr (.inl (fun _ => 0)))))), (h4, .inl (T 0, 8, .inr (.inr (.inr (.inl (fun _ => 0))))))] H := hP
  have hD : va_D A [(q0, .inr (0, [.int 1, .int 1, .ref h1, .ref h3, .ref h4])), (h1, .inl (T 3, 5, .inr (.inr (.inr (.inr (fun i => some (r2 i))))))), (r2 0, .inl (T 0, 8, .inr (.inr (.inr (.inl (fun _ => 0)))))), (r2 1, .inl (T 0, 8, .inr (.inr (.inr (.inl (fun _ => 0)))))), (r2 2, .inl (T 0, 8, .inr (.inr (.inr (.inl (fun _ => 0)))))), (r2 3, .inl (T 0, 8, .inr (.inr (.inr (.inl (fun _ => 0)))))), (r2 4, .inl (T 0, 8, .inr (.inr (.inr (.inl (fun _ => 0)))))), (h3, .inl (T 0, 5, .inr (.inr (.inr (.inl (fun _ => 0)))))), (h4, .inl (T 0, 8, .inr (.inr (.inr (.inl (fun _ => 0))))))] := hD
  exact cn_ret (h1, r2, h3, h4) hx hb hr hlocks hQ hP hD hS d_Pb_init_40 rfl (Nat.le_of_ble_eq_true rfl) (Nat.le_of_ble_eq_true rfl)
