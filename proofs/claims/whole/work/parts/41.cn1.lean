theorem d_Sc_init_0 : decode prog_6_method_1_code 0 = .ok (.aload_n 0, 1) := by decide +kernel
theorem d_Sc_init_1 : decode prog_6_method_1_code 1 = .ok (.invokespecial 3, 3) := by decide +kernel
theorem d_Sc_init_4 : decode prog_6_method_1_code 4 = .ok (.aload_n 0, 1) := by decide +kernel
theorem d_Sc_init_5 : decode prog_6_method_1_code 5 = .ok (.iconst 5, 1) := by decide +kernel
theorem d_Sc_init_6 : decode prog_6_method_1_code 6 = .ok (.newarray .double, 2) := by decide +kernel
theorem d_Sc_init_8 : decode prog_6_method_1_code 8 = .ok (.putfield 9, 3) := by decide +kernel
theorem d_Sc_init_11 : decode prog_6_method_1_code 11 = .ok (.aload_n 0, 1) := by decide +kernel
theorem d_Sc_init_12 : decode prog_6_method_1_code 12 = .ok (.bipush 8, 2) := by decide +kernel
theorem d_Sc_init_14 : decode prog_6_method_1_code 14 = .ok (.newarray .double, 2) := by decide +kernel
theorem d_Sc_init_16 : decode prog_6_method_1_code 16 = .ok (.putfield 15, 3) := by decide +kernel
theorem d_Sc_init_19 : decode prog_6_method_1_code 19 = .ok (.return_, 1) := by decide +kernel
abbrev wn_Sc_init (T : Nat → ClassId) (q0 : Nat) (u : Nat × Nat) : va_W := [(q0, .inr (2, [.ref u.1, .ref u.2])), (u.1, .inl (T 0, 5, .inr (.inr (.inr (.inl (fun _ => 0)))))), (u.2, .inl (T 0, 8, .inr (.inr (.inr (.inl (fun _ => 0))))))]
set_option maxHeartbeats 40000000 in
set_option maxRecDepth 100000 in
theorem c_Sc_init (l : Launch) (D : va_G) (T : Nat → ClassId) (q0 : Nat) : CtN l y_Sc_init (Cond.code y_Sc_init prog_6_method_1_code 1 none :: BIG) 1 40 2 13 D T q0 [(q0, .inr (2, [.null, .null]))] (wn_Sc_init T q0) := by
  refine cn_entry (cc := prog_6_method_1_code) (by decide) rfl ?_
  intro p e s m args below meth c A Q H locs ls hx hb hr hlocks hml hown hts hNW hK hA hQ hP hD hS hl hAO hin
  have hown : s.vm.findClass "ConeForge$Scales" = some m.cls := hown
  have hin : meth.name = "<init>" := hin
  refine lv_aload_n hx hb d_Sc_init_0 rfl (lv_at hl 0 rfl) ?_
  refine W.objInit hx hb hown (hts _ (bgc bw144)) (hts _ (bgc bw121)) (hts _ (bgc bw122)) rfl (by rw [hml]; exact hl.1) rfl d_Sc_init_1 (Nat.le_of_ble_eq_true rfl) (Nat.le_of_ble_eq_true rfl) ?_
  refine W.eq (g2 := F0 m 4 ls []) rfl ?_
  refine lv_aload_n hx hb d_Sc_init_4 rfl (lv_at hl 0 rfl) ?_
  refine lv_iconst (v := 5) hx hb d_Sc_init_5 (by decide) ?_
  refine cn_newa (atype := .double) (ty := .double) (nm := "[D") (a0 := (5, .inr (.inr (.inr (.inl (fun _ => 0)))))) (N' := 5) hx hb (hts _ (bgc bw139)) rfl 0 rfl (fun _ h => h) hK hP hD hS hA (fun _ => rfl) (by decide) (by decide) (by decide) (Nat.le_of_ble_eq_true rfl) (Nat.le_of_ble_eq_true rfl) d_Sc_init_6 (fun h1 H hP hD hS => ?_)
  have hP : va_P D CL [(q0, .inr (2, [.null, .null])), (h1, .inl (T 0, 5, .inr (.inr (.inr (.inl (fun _ => 0))))))] H := hP
  have hD : va_D A [(q0, .inr (2, [.null, .null])), (h1, .inl (T 0, 5, .inr (.inr (.inr (.inl (fun _ => 0))))))] := hD
  refine va_putF (D := D) (ci := 2) (v := .ref h1) (ty := (.array .double)) (C := "ConeForge$Scales") (T := FSc) (N := 2) hx hb hts iSc tSc tSc_ok nmSc hown hK hP hD hS 0 rfl rfl 0 (by decide) (hts _ (bgc bw145)) (fun _ h9 => h9) rfl hin rfl (by decide +kernel) rfl rfl (Nat.le_of_ble_eq_true rfl) d_Sc_init_8 (fun H locs hP hD hS => ?_)
  have hP : va_P D CL [(q0, .inr (2, [.ref h1, .null])), (h1, .inl (T 0, 5, .inr (.inr (.inr (.inl (fun _ => 0))))))] H := hP
  have hD : va_D A [(q0, .inr (2, [.ref h1, .null])), (h1, .inl (T 0, 5, .inr (.inr (.inr (.inl (fun _ => 0))))))] := hD
  refine lv_aload_n hx hb d_Sc_init_11 rfl (lv_at hl 0 rfl) ?_
  refine lv_bipush (v := 8) hx hb d_Sc_init_12 (by decide) ?_
  refine cn_newa (atype := .double) (ty := .double) (nm := "[D") (a0 := (8, .inr (.inr (.inr (.inl (fun _ => 0)))))) (N' := 8) hx hb (hts _ (bgc bw139)) rfl 0 rfl (fun _ h => h) hK hP hD hS hA (fun _ => rfl) (by decide) (by decide) (by decide) (Nat.le_of_ble_eq_true rfl) (Nat.le_of_ble_eq_true rfl) d_Sc_init_14 (fun h2 H hP hD hS => ?_)
  have hP : va_P D CL [(q0, .inr (2, [.ref h1, .null])), (h1, .inl (T 0, 5, .inr (.inr (.inr (.inl (fun _ => 0)))))), (h2, .inl (T 0, 8, .inr (.inr (.inr (.inl (fun _ => 0))))))] H := hP
  have hD : va_D A [(q0, .inr (2, [.ref h1, .null])), (h1, .inl (T 0, 5, .inr (.inr (.inr (.inl (fun _ => 0)))))), (h2, .inl (T 0, 8, .inr (.inr (.inr (.inl (fun _ => 0))))))] := hD
  refine va_putF (D := D) (ci := 2) (v := .ref h2) (ty := (.array .double)) (C := "ConeForge$Scales") (T := FSc) (N := 2) hx hb hts iSc tSc tSc_ok nmSc hown hK hP hD hS 0 rfl rfl 1 (by decide) (hts _ (bgc bw146)) (fun _ h9 => h9) rfl hin rfl (by decide +kernel) rfl rfl (Nat.le_of_ble_eq_true rfl) d_Sc_init_16 (fun H locs hP hD hS => ?_)
  have hP : va_P D CL [(q0, .inr (2, [.ref h1, .ref h2])), (h1, .inl (T 0, 5, .inr (.inr (.inr (.inl (fun _ => 0)))))), (h2, .inl (T 0, 8, .inr (.inr (.inr (.inl (fun _ => 0))))))] H := hP
  have hD : va_D A [(q0, .inr (2, [.ref h1, .ref h2])), (h1, .inl (T 0, 5, .inr (.inr (.inr (.inl (fun _ => 0)))))), (h2, .inl (T 0, 8, .inr (.inr (.inr (.inl (fun _ => 0))))))] := hD
  exact cn_ret (h1, h2) hx hb hr hlocks hQ hP hD hS d_Sc_init_19 rfl (Nat.le_of_ble_eq_true rfl) (Nat.le_of_ble_eq_true rfl)
