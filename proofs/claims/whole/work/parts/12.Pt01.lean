theorem d_Pt_fill_0 : decode prog_4_method_2_code 0 = .ok (.aload_n 0, 1) := by decide +kernel
theorem d_Pt_fill_1 : decode prog_4_method_2_code 1 = .ok (.getfield 9, 3) := by decide +kernel
theorem d_Pt_fill_4 : decode prog_4_method_2_code 4 = .ok (.dload_n 1, 1) := by decide +kernel
theorem d_Pt_fill_5 : decode prog_4_method_2_code 5 = .ok (.invokestatic 21, 3) := by decide +kernel
theorem d_Pt_fill_8 : decode prog_4_method_2_code 8 = .ok (.aload_n 0, 1) := by decide +kernel
theorem d_Pt_fill_9 : decode prog_4_method_2_code 9 = .ok (.getfield 15, 3) := by decide +kernel
theorem d_Pt_fill_12 : decode prog_4_method_2_code 12 = .ok (.dload_n 1, 1) := by decide +kernel
theorem d_Pt_fill_13 : decode prog_4_method_2_code 13 = .ok (.invokestatic 21, 3) := by decide +kernel
theorem d_Pt_fill_16 : decode prog_4_method_2_code 16 = .ok (.aload_n 0, 1) := by decide +kernel
theorem d_Pt_fill_17 : decode prog_4_method_2_code 17 = .ok (.getfield 18, 3) := by decide +kernel
theorem d_Pt_fill_20 : decode prog_4_method_2_code 20 = .ok (.dload_n 3, 1) := by decide +kernel
theorem d_Pt_fill_21 : decode prog_4_method_2_code 21 = .ok (.invokestatic 21, 3) := by decide +kernel
theorem d_Pt_fill_24 : decode prog_4_method_2_code 24 = .ok (.return_, 1) := by decide +kernel
abbrev w_Pt_fill (T : Nat → ClassId) (q0 : Nat) (q0_x : Nat) (q0_s : Nat) (q0_y : Nat) (vq0_x : Nat → UInt64) (vq0_s : Nat → UInt64) (vq0_y : Nat → UInt64) : va_W := [(q0, .inr (1, [.ref q0_x, .ref q0_s, .ref q0_y])), (q0_x, .inl (T 0, 8, .inr (.inr (.inr (.inl vq0_x))))), (q0_s, .inl (T 0, 8, .inr (.inr (.inr (.inl vq0_s))))), (q0_y, .inl (T 0, 5, .inr (.inr (.inr (.inl vq0_y)))))]
def s_Pt_fill (vq0_x : Nat → UInt64) (vq0_s : Nat → UInt64) (vq0_y : Nat → UInt64) (x1 : UInt64) (x3 : UInt64) : Option ((Nat → UInt64) × (Nat → UInt64) × (Nat → UInt64)) :=
  (s_Ar_fill 8 vq0_x x1).bind fun u1 => (s_Ar_fill 8 vq0_s x1).bind fun u3 => (s_Ar_fill 5 vq0_y x3).bind fun u5 => some (u1, u3, u5)
set_option maxRecDepth 100000 in
theorem j_Pt_fill_5 (T : Nat → ClassId) (q0 : Nat) (q0_x : Nat) (q0_s : Nat) (q0_y : Nat) (vq0_x : Nat → UInt64) (vq0_s : Nat → UInt64) (vq0_y : Nat → UInt64) (zvq0_x : Nat → UInt64) : ([1].map (fun (i : Nat) => (w_Pt_fill T q0 q0_x q0_s q0_y vq0_x vq0_s vq0_y)[i]?) = (w_Ar_fill T q0_x 8 vq0_x).map some) ∧ ([1].map (fun (i : Nat) => (w_Pt_fill T q0 q0_x q0_s q0_y zvq0_x vq0_s vq0_y)[i]?) = (w_Ar_fill T q0_x 8 zvq0_x).map some) ∧ ([0, 2, 3].map (fun (i : Nat) => (w_Pt_fill T q0 q0_x q0_s q0_y vq0_x vq0_s vq0_y)[i]?) = [0, 2, 3].map (fun (i : Nat) => (w_Pt_fill T q0 q0_x q0_s q0_y zvq0_x vq0_s vq0_y)[i]?)) ∧ (w_Ar_fill T q0_x 8 zvq0_x).map Prod.fst = (w_Ar_fill T q0_x 8 vq0_x).map Prod.fst ∧ (w_Pt_fill T q0 q0_x q0_s q0_y zvq0_x vq0_s vq0_y).length = 4 :=
  ⟨rfl, rfl, Eq.trans (b := ([some (q0, .inr (1, [.ref q0_x, .ref q0_s, .ref q0_y])), some (q0_s, .inl (T 0, 8, .inr (.inr (.inr (.inl vq0_s))))), some (q0_y, .inl (T 0, 5, .inr (.inr (.inr (.inl vq0_y)))))] : List (Option (Nat × va_E)))) rfl rfl, rfl, rfl⟩
set_option maxRecDepth 100000 in
theorem j_Pt_fill_13 (T : Nat → ClassId) (q0 : Nat) (q0_x : Nat) (q0_s : Nat) (q0_y : Nat) (vq0_x : Nat → UInt64) (vq0_s : Nat → UInt64) (vq0_y : Nat → UInt64) (zvq0_s : Nat → UInt64) : ([2].map (fun (i : Nat) => (w_Pt_fill T q0 q0_x q0_s q0_y vq0_x vq0_s vq0_y)[i]?) = (w_Ar_fill T q0_s 8 vq0_s).map some) ∧ ([2].map (fun (i : Nat) => (w_Pt_fill T q0 q0_x q0_s q0_y vq0_x zvq0_s vq0_y)[i]?) = (w_Ar_fill T q0_s 8 zvq0_s).map some) ∧ ([0, 1, 3].map (fun (i : Nat) => (w_Pt_fill T q0 q0_x q0_s q0_y vq0_x vq0_s vq0_y)[i]?) = [0, 1, 3].map (fun (i : Nat) => (w_Pt_fill T q0 q0_x q0_s q0_y vq0_x zvq0_s vq0_y)[i]?)) ∧ (w_Ar_fill T q0_s 8 zvq0_s).map Prod.fst = (w_Ar_fill T q0_s 8 vq0_s).map Prod.fst ∧ (w_Pt_fill T q0 q0_x q0_s q0_y vq0_x zvq0_s vq0_y).length = 4 :=
  ⟨rfl, rfl, Eq.trans (b := ([some (q0, .inr (1, [.ref q0_x, .ref q0_s, .ref q0_y])), some (q0_x, .inl (T 0, 8, .inr (.inr (.inr (.inl vq0_x))))), some (q0_y, .inl (T 0, 5, .inr (.inr (.inr (.inl vq0_y)))))] : List (Option (Nat × va_E)))) rfl rfl, rfl, rfl⟩
set_option maxRecDepth 100000 in
theorem j_Pt_fill_21 (T : Nat → ClassId) (q0 : Nat) (q0_x : Nat) (q0_s : Nat) (q0_y : Nat) (vq0_x : Nat → UInt64) (vq0_s : Nat → UInt64) (vq0_y : Nat → UInt64) (zvq0_y : Nat → UInt64) : ([3].map (fun (i : Nat) => (w_Pt_fill T q0 q0_x q0_s q0_y vq0_x vq0_s vq0_y)[i]?) = (w_Ar_fill T q0_y 5 vq0_y).map some) ∧ ([3].map (fun (i : Nat) => (w_Pt_fill T q0 q0_x q0_s q0_y vq0_x vq0_s zvq0_y)[i]?) = (w_Ar_fill T q0_y 5 zvq0_y).map some) ∧ ([0, 1, 2].map (fun (i : Nat) => (w_Pt_fill T q0 q0_x q0_s q0_y vq0_x vq0_s vq0_y)[i]?) = [0, 1, 2].map (fun (i : Nat) => (w_Pt_fill T q0 q0_x q0_s q0_y vq0_x vq0_s zvq0_y)[i]?)) ∧ (w_Ar_fill T q0_y 5 zvq0_y).map Prod.fst = (w_Ar_fill T q0_y 5 vq0_y).map Prod.fst ∧ (w_Pt_fill T q0 q0_x q0_s q0_y vq0_x vq0_s zvq0_y).length = 4 :=
  ⟨rfl, rfl, Eq.trans (b := ([some (q0, .inr (1, [.ref q0_x, .ref q0_s, .ref q0_y])), some (q0_x, .inl (T 0, 8, .inr (.inr (.inr (.inl vq0_x))))), some (q0_s, .inl (T 0, 8, .inr (.inr (.inr (.inl vq0_s)))))] : List (Option (Nat × va_E)))) rfl rfl, rfl, rfl⟩
set_option maxHeartbeats 40000000 in
set_option maxRecDepth 100000 in
theorem c_Pt_fill (l : Launch) (D : va_G) (T : Nat → ClassId) (q0 : Nat) (q0_x : Nat) (q0_s : Nat) (q0_y : Nat) (vq0_x : Nat → UInt64) (vq0_s : Nat → UInt64) (vq0_y : Nat → UInt64) (x1 : UInt64) (x3 : UInt64) (rm : (Nat → UInt64) × (Nat → UInt64) × (Nat → UInt64)) (h : s_Pt_fill vq0_x vq0_s vq0_y x1 x3 = some rm) : CtV l y_Pt_fill (Cond.code y_Pt_fill prog_4_method_2_code 5 none :: BIG) 1 24 D T [.ref q0, .double x1, .double x3] (w_Pt_fill T q0 q0_x q0_s q0_y vq0_x vq0_s vq0_y) (fun r => (w_Pt_fill T q0 q0_x q0_s q0_y r.1 r.2.1 r.2.2)) rm := by
  refine cf_entry (y := y_Pt_fill) (cc := prog_4_method_2_code) (nL := 5) (ret := none) (fr := 1) (lo := 24) (T := T) (av := [.ref q0, .double x1, .double x3]) (w := (w_Pt_fill T q0 q0_x q0_s q0_y vq0_x vq0_s vq0_y)) (Qc := cfQv D (fun r => (w_Pt_fill T q0 q0_x q0_s q0_y r.1 r.2.1 r.2.2)) rm) (by decide) rfl (Nat.le_of_ble_eq_true rfl) ?_
  intro p e s m args below meth c A Q H locs ls hx hb hr hlocks hml hown hts hNW hK hA hQ hP hD hS hl
  have hown : s.vm.findClass "ConeForge$Point" = some m.cls := hown
  have hl : lv_has ls 5 [(0, .ref q0), (1, .double x1), (3, .double x3)] := hl
  unfold s_Pt_fill at h
  refine lv_aload_n hx hb d_Pt_fill_0 rfl (lv_at hl 0 rfl) ?_
  refine va_get (D := D) (ci := 1) (v := .ref q0_x) (C := "ConeForge$Point") (T := FPt) (N := 3) hx hb hts iPt hown hK hP 0 rfl rfl 0 (by decide) (hts _ (bgc bw154)) (fun _ h9 => h9) rfl d_Pt_fill_1 ?_
  refine lv_dload_n hx hb d_Pt_fill_4 rfl (lv_at hl 1 rfl) ?_
  obtain ⟨u1, hu1, h⟩ := bi_some h
  have jj2 := j_Pt_fill_5 T q0 q0_x q0_s q0_y vq0_x vq0_s vq0_y u1
  refine kV2 (wc := (w_Ar_fill T q0_x 8 vq0_x)) (wc' := (w_Ar_fill T q0_x 8 u1)) (w_Pt_fill T q0 q0_x q0_s q0_y u1 vq0_s vq0_y) (runOS (As := [.ref q0_x, .double x1]) (rest := []) ((c_Ar_fill l D T q0_x 8 vq0_x x1 u1 hu1) H.size) ⟨hx, hb, hml, hown, hts⟩ (cwOS bw325 bw296 bw110 bw297 dd_Ar_fill hts ⟨Nat.le_of_ble_eq_true rfl, Nat.le_of_ble_eq_true rfl⟩)  hNW hK hP hD [1] jj2.1 (by decide) rfl hl.1 rfl (lv_room (Nat.le_of_ble_eq_true rfl)) d_Pt_fill_5 ⟨Nat.le_of_ble_eq_true rfl, Nat.le_of_ble_eq_true rfl⟩) hP hD hS hA [1] [0, 2, 3] jj2.1 jj2.2.1 jj2.2.2.1 (N := 4) jj2.2.2.2.2 (by decide) jj2.2.2.2.1 (fun H locs hP hD hS => ?_)
  refine lv_aload_n hx hb d_Pt_fill_8 rfl (lv_at hl 0 rfl) ?_
  refine va_get (D := D) (ci := 1) (v := .ref q0_s) (C := "ConeForge$Point") (T := FPt) (N := 3) hx hb hts iPt hown hK hP 0 rfl rfl 1 (by decide) (hts _ (bgc bw155)) (fun _ h9 => h9) rfl d_Pt_fill_9 ?_
  refine lv_dload_n hx hb d_Pt_fill_12 rfl (lv_at hl 1 rfl) ?_
  obtain ⟨u3, hu3, h⟩ := bi_some h
  have jj4 := j_Pt_fill_13 T q0 q0_x q0_s q0_y u1 vq0_s vq0_y u3
  refine kV2 (wc := (w_Ar_fill T q0_s 8 vq0_s)) (wc' := (w_Ar_fill T q0_s 8 u3)) (w_Pt_fill T q0 q0_x q0_s q0_y u1 u3 vq0_y) (runOS (As := [.ref q0_s, .double x1]) (rest := []) ((c_Ar_fill l D T q0_s 8 vq0_s x1 u3 hu3) H.size) ⟨hx, hb, hml, hown, hts⟩ (cwOS bw325 bw296 bw110 bw297 dd_Ar_fill hts ⟨Nat.le_of_ble_eq_true rfl, Nat.le_of_ble_eq_true rfl⟩)  hNW hK hP hD [2] jj4.1 (by decide) rfl hl.1 rfl (lv_room (Nat.le_of_ble_eq_true rfl)) d_Pt_fill_13 ⟨Nat.le_of_ble_eq_true rfl, Nat.le_of_ble_eq_true rfl⟩) hP hD hS hA [2] [0, 1, 3] jj4.1 jj4.2.1 jj4.2.2.1 (N := 4) jj4.2.2.2.2 (by decide) jj4.2.2.2.1 (fun H locs hP hD hS => ?_)
  refine lv_aload_n hx hb d_Pt_fill_16 rfl (lv_at hl 0 rfl) ?_
  refine va_get (D := D) (ci := 1) (v := .ref q0_y) (C := "ConeForge$Point") (T := FPt) (N := 3) hx hb hts iPt hown hK hP 0 rfl rfl 2 (by decide) (hts _ (bgc bw156)) (fun _ h9 => h9) rfl d_Pt_fill_17 ?_
  refine lv_dload_n hx hb d_Pt_fill_20 rfl (lv_at hl 2 rfl) ?_
  obtain ⟨u5, hu5, h⟩ := bi_some h
  have jj6 := j_Pt_fill_21 T q0 q0_x q0_s q0_y u1 u3 vq0_y u5
  refine kV2 (wc := (w_Ar_fill T q0_y 5 vq0_y)) (wc' := (w_Ar_fill T q0_y 5 u5)) (w_Pt_fill T q0 q0_x q0_s q0_y u1 u3 u5) (runOS (As := [.ref q0_y, .double x3]) (rest := []) ((c_Ar_fill l D T q0_y 5 vq0_y x3 u5 hu5) H.size) ⟨hx, hb, hml, hown, hts⟩ (cwOS bw325 bw296 bw110 bw297 dd_Ar_fill hts ⟨Nat.le_of_ble_eq_true rfl, Nat.le_of_ble_eq_true rfl⟩)  hNW hK hP hD [3] jj6.1 (by decide) rfl hl.1 rfl (lv_room (Nat.le_of_ble_eq_true rfl)) d_Pt_fill_21 ⟨Nat.le_of_ble_eq_true rfl, Nat.le_of_ble_eq_true rfl⟩) hP hD hS hA [3] [0, 1, 2] jj6.1 jj6.2.1 jj6.2.2.1 (N := 4) jj6.2.2.2.2 (by decide) jj6.2.2.2.1 (fun H locs hP hD hS => ?_)
  exact rtV hx hb hr hlocks hQ (Option.some.inj h) hP hS d_Pt_fill_24 rfl
theorem d_Pt_complementarity_0 : decode prog_4_method_3_code 0 = .ok (.aload_n 0, 1) := by decide +kernel
theorem d_Pt_complementarity_1 : decode prog_4_method_3_code 1 = .ok (.getfield 9, 3) := by decide +kernel
theorem d_Pt_complementarity_4 : decode prog_4_method_3_code 4 = .ok (.aload_n 0, 1) := by decide +kernel
theorem d_Pt_complementarity_5 : decode prog_4_method_3_code 5 = .ok (.getfield 15, 3) := by decide +kernel
theorem d_Pt_complementarity_8 : decode prog_4_method_3_code 8 = .ok (.iload_n 1, 1) := by decide +kernel
theorem d_Pt_complementarity_9 : decode prog_4_method_3_code 9 = .ok (.invokestatic 27, 3) := by decide +kernel
theorem d_Pt_complementarity_12 : decode prog_4_method_3_code 12 = .ok (.dreturn, 1) := by decide +kernel
abbrev w_Pt_complementarity (T : Nat → ClassId) (q0 : Nat) (q0_x : Nat) (q0_s : Nat) (q0_y : Nat) (vq0_x : Nat → UInt64) (vq0_s : Nat → UInt64) : va_W := [(q0, .inr (1, [.ref q0_x, .ref q0_s, .ref q0_y])), (q0_x, .inl (T 0, 8, .inr (.inr (.inr (.inl vq0_x))))), (q0_s, .inl (T 0, 8, .inr (.inr (.inr (.inl vq0_s)))))]
def s_Pt_complementarity (vq0_x : Nat → UInt64) (vq0_s : Nat → UInt64) (x1 : Int32) : Option (UInt64) :=
  (s_Pb_product 8 8 vq0_x vq0_s x1).bind fun u1 => some u1
set_option maxRecDepth 100000 in
theorem j_Pt_complementarity_9 (T : Nat → ClassId) (q0 : Nat) (q0_x : Nat) (q0_s : Nat) (q0_y : Nat) (vq0_x : Nat → UInt64) (vq0_s : Nat → UInt64) : ([1, 2].map (fun (i : Nat) => (w_Pt_complementarity T q0 q0_x q0_s q0_y vq0_x vq0_s)[i]?) = (w_Pb_product T q0_x q0_s 8 8 vq0_x vq0_s).map some) ∧ ([1, 2].map (fun (i : Nat) => (w_Pt_complementarity T q0 q0_x q0_s q0_y vq0_x vq0_s)[i]?) = (w_Pb_product T q0_x q0_s 8 8 vq0_x vq0_s).map some) ∧ ([0].map (fun (i : Nat) => (w_Pt_complementarity T q0 q0_x q0_s q0_y vq0_x vq0_s)[i]?) = [0].map (fun (i : Nat) => (w_Pt_complementarity T q0 q0_x q0_s q0_y vq0_x vq0_s)[i]?)) ∧ (w_Pb_product T q0_x q0_s 8 8 vq0_x vq0_s).map Prod.fst = (w_Pb_product T q0_x q0_s 8 8 vq0_x vq0_s).map Prod.fst ∧ (w_Pt_complementarity T q0 q0_x q0_s q0_y vq0_x vq0_s).length = 3 :=
  ⟨rfl, rfl, Eq.trans (b := ([some (q0, .inr (1, [.ref q0_x, .ref q0_s, .ref q0_y]))] : List (Option (Nat × va_E)))) rfl rfl, rfl, rfl⟩
set_option maxHeartbeats 40000000 in
set_option maxRecDepth 100000 in
theorem c_Pt_complementarity (l : Launch) (D : va_G) (T : Nat → ClassId) (q0 : Nat) (q0_x : Nat) (q0_s : Nat) (q0_y : Nat) (vq0_x : Nat → UInt64) (vq0_s : Nat → UInt64) (x1 : Int32) (rm : UInt64) (h : s_Pt_complementarity vq0_x vq0_s x1 = some rm) : CtD l y_Pt_complementarity (Cond.code y_Pt_complementarity prog_4_method_3_code 2 (some .double) :: BIG) 1 25 D T [.ref q0, .int x1] (w_Pt_complementarity T q0 q0_x q0_s q0_y vq0_x vq0_s) (fun r => r) (fun r => (w_Pt_complementarity T q0 q0_x q0_s q0_y vq0_x vq0_s)) rm := by
  refine cf_entry (y := y_Pt_complementarity) (cc := prog_4_method_3_code) (nL := 2) (ret := (some .double)) (fr := 1) (lo := 25) (T := T) (av := [.ref q0, .int x1]) (w := (w_Pt_complementarity T q0 q0_x q0_s q0_y vq0_x vq0_s)) (Qc := cfQd D (fun r => r) (fun r => (w_Pt_complementarity T q0 q0_x q0_s q0_y vq0_x vq0_s)) rm) (by decide) rfl (Nat.le_of_ble_eq_true rfl) ?_
  intro p e s m args below meth c A Q H locs ls hx hb hr hlocks hml hown hts hNW hK hA hQ hP hD hS hl
  have hown : s.vm.findClass "ConeForge$Point" = some m.cls := hown
  have hl : lv_has ls 2 [(0, .ref q0), (1, .int x1)] := hl
  unfold s_Pt_complementarity at h
  refine lv_aload_n hx hb d_Pt_complementarity_0 rfl (lv_at hl 0 rfl) ?_
  refine va_get (D := D) (ci := 1) (v := .ref q0_x) (C := "ConeForge$Point") (T := FPt) (N := 3) hx hb hts iPt hown hK hP 0 rfl rfl 0 (by decide) (hts _ (bgc bw154)) (fun _ h9 => h9) rfl d_Pt_complementarity_1 ?_
  refine lv_aload_n hx hb d_Pt_complementarity_4 rfl (lv_at hl 0 rfl) ?_
  refine va_get (D := D) (ci := 1) (v := .ref q0_s) (C := "ConeForge$Point") (T := FPt) (N := 3) hx hb hts iPt hown hK hP 0 rfl rfl 1 (by decide) (hts _ (bgc bw155)) (fun _ h9 => h9) rfl d_Pt_complementarity_5 ?_
  refine lv_iload_n hx hb d_Pt_complementarity_8 rfl (lv_at hl 1 rfl) ?_
  obtain ⟨u1, hu1, h⟩ := bi_some h
  have jj2 := j_Pt_complementarity_9 T q0 q0_x q0_s q0_y vq0_x vq0_s
  refine kD2 (v := u1) (wc := (w_Pb_product T q0_x q0_s 8 8 vq0_x vq0_s)) (wc' := (w_Pb_product T q0_x q0_s 8 8 vq0_x vq0_s)) (w_Pt_complementarity T q0 q0_x q0_s q0_y vq0_x vq0_s) (runNS (As := [.ref q0_x, .ref q0_s, .int x1]) (rest := []) ((c_Pb_product l D T q0_x q0_s 8 8 vq0_x vq0_s x1 u1 hu1) H.size) ⟨hx, hb, hml, hown, hts⟩ (cwNS nw87 bw566 bw98 bw567 dd_Pb_product hts hNW ⟨Nat.le_of_ble_eq_true rfl, Nat.le_of_ble_eq_true rfl⟩)  hNW hK hP hD [1, 2] jj2.1 (by decide) rfl hl.1 rfl (lv_room (Nat.le_of_ble_eq_true rfl)) d_Pt_complementarity_9 ⟨Nat.le_of_ble_eq_true rfl, Nat.le_of_ble_eq_true rfl⟩) hP hD hS hA [1, 2] [0] jj2.1 jj2.2.1 jj2.2.2.1 (N := 3) jj2.2.2.2.2 (by decide) jj2.2.2.2.1 (fun H locs hP hD hS => ?_)
  exact rtD hx hb hr hlocks hQ (Option.some.inj h) hP hS d_Pt_complementarity_12 rfl rfl
theorem d_Pt_deepest_0 : decode prog_4_method_4_code 0 = .ok (.dconst 0, 1) := by decide +kernel
theorem d_Pt_deepest_1 : decode prog_4_method_4_code 1 = .ok (.dstore_n 2, 1) := by decide +kernel
theorem d_Pt_deepest_2 : decode prog_4_method_4_code 2 = .ok (.iconst 0, 1) := by decide +kernel
theorem d_Pt_deepest_3 : decode prog_4_method_4_code 3 = .ok (.istore 4, 2) := by decide +kernel
theorem d_Pt_deepest_5 : decode prog_4_method_4_code 5 = .ok (.iload 4, 2) := by decide +kernel
theorem d_Pt_deepest_7 : decode prog_4_method_4_code 7 = .ok (.iload_n 1, 1) := by decide +kernel
theorem d_Pt_deepest_8 : decode prog_4_method_4_code 8 = .ok (.if_icmp .ge 33, 3) := by decide +kernel
theorem d_Pt_deepest_11 : decode prog_4_method_4_code 11 = .ok (.dload_n 2, 1) := by decide +kernel
theorem d_Pt_deepest_12 : decode prog_4_method_4_code 12 = .ok (.aload_n 0, 1) := by decide +kernel
theorem d_Pt_deepest_13 : decode prog_4_method_4_code 13 = .ok (.getfield 9, 3) := by decide +kernel
theorem d_Pt_deepest_16 : decode prog_4_method_4_code 16 = .ok (.iload 4, 2) := by decide +kernel
theorem d_Pt_deepest_18 : decode prog_4_method_4_code 18 = .ok (.daload, 1) := by decide +kernel
theorem d_Pt_deepest_19 : decode prog_4_method_4_code 19 = .ok (.dneg, 1) := by decide +kernel
theorem d_Pt_deepest_20 : decode prog_4_method_4_code 20 = .ok (.invokestatic 33, 3) := by decide +kernel
theorem d_Pt_deepest_23 : decode prog_4_method_4_code 23 = .ok (.aload_n 0, 1) := by decide +kernel
theorem d_Pt_deepest_24 : decode prog_4_method_4_code 24 = .ok (.getfield 15, 3) := by decide +kernel
theorem d_Pt_deepest_27 : decode prog_4_method_4_code 27 = .ok (.iload 4, 2) := by decide +kernel
theorem d_Pt_deepest_29 : decode prog_4_method_4_code 29 = .ok (.daload, 1) := by decide +kernel
theorem d_Pt_deepest_30 : decode prog_4_method_4_code 30 = .ok (.dneg, 1) := by decide +kernel
theorem d_Pt_deepest_31 : decode prog_4_method_4_code 31 = .ok (.invokestatic 33, 3) := by decide +kernel
theorem d_Pt_deepest_34 : decode prog_4_method_4_code 34 = .ok (.dstore_n 2, 1) := by decide +kernel
theorem d_Pt_deepest_35 : decode prog_4_method_4_code 35 = .ok (.iinc 4 1, 3) := by decide +kernel
theorem d_Pt_deepest_38 : decode prog_4_method_4_code 38 = .ok (.goto (-33), 3) := by decide +kernel
theorem d_Pt_deepest_41 : decode prog_4_method_4_code 41 = .ok (.dload_n 2, 1) := by decide +kernel
theorem d_Pt_deepest_42 : decode prog_4_method_4_code 42 = .ok (.dreturn, 1) := by decide +kernel
abbrev w_Pt_deepest (T : Nat → ClassId) (q0 : Nat) (q0_x : Nat) (q0_s : Nat) (q0_y : Nat) (vq0_x : Nat → UInt64) (vq0_s : Nat → UInt64) : va_W := [(q0, .inr (1, [.ref q0_x, .ref q0_s, .ref q0_y])), (q0_x, .inl (T 0, 8, .inr (.inr (.inr (.inl vq0_x))))), (q0_s, .inl (T 0, 8, .inr (.inr (.inr (.inl vq0_s)))))]
def s_Pt_deepest_B5 (vq0_x : Nat → UInt64) (vq0_s : Nat → UInt64) (x1 : Int32) (x2 : UInt64) (x4 : Int32) : Option ((UInt64 × Int32) ⊕ (UInt64)) :=
  if x1 ≤ x4 then (some (.inr x2)) else (gd (inb x4 8) <| (s_C_greater x2 (FP.dneg (vq0_x x4.toNatClampNeg))).bind fun u3 => gd (inb x4 8) <| (s_C_greater u3 (FP.dneg (vq0_s x4.toNatClampNeg))).bind fun u6 => some (.inl (u6, x4 + 1)))
def s_Pt_deepest_L5 (vq0_x : Nat → UInt64) (vq0_s : Nat → UInt64) (x1 : Int32) (x2 : UInt64) (x4 : Int32) : Option (UInt64) :=
  (loopO (fun (st : UInt64 × Int32) => s_Pt_deepest_B5 vq0_x vq0_s x1 st.1 st.2) 2000 (x2, x4)).bind fun ul5 => some ul5
def s_Pt_deepest (vq0_x : Nat → UInt64) (vq0_s : Nat → UInt64) (x1 : Int32) : Option (UInt64) :=
  s_Pt_deepest_L5 vq0_x vq0_s x1 FP.dconst0 0
set_option maxRecDepth 100000 in
theorem j_Pt_deepest_20 (T : Nat → ClassId) (q0 : Nat) (q0_x : Nat) (q0_s : Nat) (q0_y : Nat) (vq0_x : Nat → UInt64) (vq0_s : Nat → UInt64) : ([].map (fun (i : Nat) => (w_Pt_deepest T q0 q0_x q0_s q0_y vq0_x vq0_s)[i]?) = (w_C_greater T  ).map some) ∧ ([].map (fun (i : Nat) => (w_Pt_deepest T q0 q0_x q0_s q0_y vq0_x vq0_s)[i]?) = (w_C_greater T  ).map some) ∧ ([0, 1, 2].map (fun (i : Nat) => (w_Pt_deepest T q0 q0_x q0_s q0_y vq0_x vq0_s)[i]?) = [0, 1, 2].map (fun (i : Nat) => (w_Pt_deepest T q0 q0_x q0_s q0_y vq0_x vq0_s)[i]?)) ∧ (w_C_greater T  ).map Prod.fst = (w_C_greater T  ).map Prod.fst ∧ (w_Pt_deepest T q0 q0_x q0_s q0_y vq0_x vq0_s).length = 3 :=
  ⟨rfl, rfl, Eq.trans (b := ([some (q0, .inr (1, [.ref q0_x, .ref q0_s, .ref q0_y])), some (q0_x, .inl (T 0, 8, .inr (.inr (.inr (.inl vq0_x))))), some (q0_s, .inl (T 0, 8, .inr (.inr (.inr (.inl vq0_s)))))] : List (Option (Nat × va_E)))) rfl rfl, rfl, rfl⟩
set_option maxRecDepth 100000 in
theorem j_Pt_deepest_31 (T : Nat → ClassId) (q0 : Nat) (q0_x : Nat) (q0_s : Nat) (q0_y : Nat) (vq0_x : Nat → UInt64) (vq0_s : Nat → UInt64) : ([].map (fun (i : Nat) => (w_Pt_deepest T q0 q0_x q0_s q0_y vq0_x vq0_s)[i]?) = (w_C_greater T  ).map some) ∧ ([].map (fun (i : Nat) => (w_Pt_deepest T q0 q0_x q0_s q0_y vq0_x vq0_s)[i]?) = (w_C_greater T  ).map some) ∧ ([0, 1, 2].map (fun (i : Nat) => (w_Pt_deepest T q0 q0_x q0_s q0_y vq0_x vq0_s)[i]?) = [0, 1, 2].map (fun (i : Nat) => (w_Pt_deepest T q0 q0_x q0_s q0_y vq0_x vq0_s)[i]?)) ∧ (w_C_greater T  ).map Prod.fst = (w_C_greater T  ).map Prod.fst ∧ (w_Pt_deepest T q0 q0_x q0_s q0_y vq0_x vq0_s).length = 3 :=
  ⟨rfl, rfl, Eq.trans (b := ([some (q0, .inr (1, [.ref q0_x, .ref q0_s, .ref q0_y])), some (q0_x, .inl (T 0, 8, .inr (.inr (.inr (.inl vq0_x))))), some (q0_s, .inl (T 0, 8, .inr (.inr (.inr (.inl vq0_s)))))] : List (Option (Nat × va_E)))) rfl rfl, rfl, rfl⟩
set_option maxHeartbeats 40000000 in
set_option maxRecDepth 100000 in
theorem c_Pt_deepest (l : Launch) (D : va_G) (T : Nat → ClassId) (q0 : Nat) (q0_x : Nat) (q0_s : Nat) (q0_y : Nat) (vq0_x : Nat → UInt64) (vq0_s : Nat → UInt64) (x1 : Int32) (rm : UInt64) (h : s_Pt_deepest vq0_x vq0_s x1 = some rm) : CtD l y_Pt_deepest (Cond.code y_Pt_deepest prog_4_method_4_code 5 (some .double) :: BIG) 1 23 D T [.ref q0, .int x1] (w_Pt_deepest T q0 q0_x q0_s q0_y vq0_x vq0_s) (fun r => r) (fun r => (w_Pt_deepest T q0 q0_x q0_s q0_y vq0_x vq0_s)) rm := by
  refine cf_entry (y := y_Pt_deepest) (cc := prog_4_method_4_code) (nL := 5) (ret := (some .double)) (fr := 1) (lo := 23) (T := T) (av := [.ref q0, .int x1]) (w := (w_Pt_deepest T q0 q0_x q0_s q0_y vq0_x vq0_s)) (Qc := cfQd D (fun r => r) (fun r => (w_Pt_deepest T q0 q0_x q0_s q0_y vq0_x vq0_s)) rm) (by decide) rfl (Nat.le_of_ble_eq_true rfl) ?_
  intro p e s m args below meth c A Q H locs ls hx hb hr hlocks hml hown hts hNW hK hA hQ hP hD hS hl
  have hown : s.vm.findClass "ConeForge$Point" = some m.cls := hown
  have hl : lv_has ls 5 [(0, .ref q0), (1, .int x1)] := hl
  have L5 : ∀ (x1 : Int32) (x2 : UInt64) (x4 : Int32), ∀ (H : Heap) (locs : List Loc) (ls : Array Slot), va_P D CL (w_Pt_deepest T q0 q0_x q0_s q0_y vq0_x vq0_s) H → va_D A (w_Pt_deepest T q0 q0_x q0_s q0_y vq0_x vq0_s) → va_S A s.heap H locs → lv_has ls 5 [(0, .ref q0), (1, .int x1), (2, .double x2), (4, .int x4)] → s_Pt_deepest_L5 vq0_x vq0_s x1 x2 x4 = some rm → W p l e (rmk 1 23) s m args below meth c H locs 0 0 Q (F0 m 5 ls []) := by
    intro x1 x2 x4 H locs ls hP hD hS hl h
    unfold s_Pt_deepest_L5 at h
    obtain ⟨ul5, hul5, h⟩ := bi_some h
    refine loopO_W (Wh := fun (st : UInt64 × Int32) => ∀ (H : Heap) (locs : List Loc) (ls : Array Slot), va_P D CL (w_Pt_deepest T q0 q0_x q0_s q0_y vq0_x vq0_s) H → va_D A (w_Pt_deepest T q0 q0_x q0_s q0_y vq0_x vq0_s) → va_S A s.heap H locs → lv_has ls 5 [(0, .ref q0), (1, .int x1), (2, .double st.1), (4, .int st.2)] → W p l e (rmk 1 23) s m args below meth c H locs 0 0 Q (F0 m 5 ls [])) (Wx := fun (e1 : UInt64) => ∀ (H : Heap) (locs : List Loc) (ls : Array Slot), va_P D CL (w_Pt_deepest T q0 q0_x q0_s q0_y vq0_x vq0_s) H → va_D A (w_Pt_deepest T q0 q0_x q0_s q0_y vq0_x vq0_s) → va_S A s.heap H locs → lv_has ls 5 [(2, .double e1)] → W p l e (rmk 1 23) s m args below meth c H locs 0 0 Q (F0 m 41 ls [])) ?_ 2000 _ ul5 hul5 ?_ H locs ls hP hD hS hl
    · intro st rb5 h kc5 kx5 H locs ls hP hD hS hl
      obtain ⟨x2, x4⟩ := st
      have h : s_Pt_deepest_B5 vq0_x vq0_s x1 x2 x4 = some rb5 := h
      unfold s_Pt_deepest_B5 at h
      refine lv_iload hx hb d_Pt_deepest_5 (lv_at hl 3 rfl) ?_
      refine lv_iload_n hx hb d_Pt_deepest_7 rfl (lv_at hl 1 rfl) ?_
      refine lv_icmp_ge (tgt := 41) hx hb d_Pt_deepest_8 (by decide) (fun c1 => ?_) (fun c1 => ?_)
      · have h := it_t c1 h
        exact kx5 _ (Option.some.inj h).symm H locs ls hP hD hS (lv_sub hl [2] rfl)
      · have h := it_f c1 h
        refine lv_dload_n hx hb d_Pt_deepest_11 rfl (lv_at hl 2 rfl) ?_
        refine lv_aload_n hx hb d_Pt_deepest_12 rfl (lv_at hl 0 rfl) ?_
        refine va_get (D := D) (ci := 1) (v := .ref q0_x) (C := "ConeForge$Point") (T := FPt) (N := 3) hx hb hts iPt hown hK hP 0 rfl rfl 0 (by decide) (hts _ (bgc bw154)) (fun _ h9 => h9) rfl d_Pt_deepest_13 ?_
        refine lv_iload hx hb d_Pt_deepest_16 (lv_at hl 3 rfl) ?_
        obtain ⟨g2, h⟩ := gd_some h
        refine va_dald hx hb hK hP 1 0 rfl rfl (inb_in g2) d_Pt_deepest_18 ?_
        refine lv_dneg hx hb d_Pt_deepest_19 ?_
        obtain ⟨u3, hu3, h⟩ := bi_some h
        have jj4 := j_Pt_deepest_20 T q0 q0_x q0_s q0_y vq0_x vq0_s
        refine kD2 (v := u3) (wc := (w_C_greater T  )) (wc' := (w_C_greater T  )) (w_Pt_deepest T q0 q0_x q0_s q0_y vq0_x vq0_s) (runNS (As := [.double x2, .double (FP.dneg (vq0_x x4.toNatClampNeg))]) (rest := []) ((c_C_greater l D T   x2 (FP.dneg (vq0_x x4.toNatClampNeg)) u3 hu3) H.size) ⟨hx, hb, hml, hown, hts⟩ (cwNS nw101 bw307 bw97 bw308 dd_C_greater hts hNW ⟨Nat.le_of_ble_eq_true rfl, Nat.le_of_ble_eq_true rfl⟩)  hNW hK hP hD [] jj4.1 (by decide) rfl hl.1 rfl (lv_room (Nat.le_of_ble_eq_true rfl)) d_Pt_deepest_20 ⟨Nat.le_of_ble_eq_true rfl, Nat.le_of_ble_eq_true rfl⟩) hP hD hS hA [] [0, 1, 2] jj4.1 jj4.2.1 jj4.2.2.1 (N := 3) jj4.2.2.2.2 (by decide) jj4.2.2.2.1 (fun H locs hP hD hS => ?_)
        refine lv_aload_n hx hb d_Pt_deepest_23 rfl (lv_at hl 0 rfl) ?_
        refine va_get (D := D) (ci := 1) (v := .ref q0_s) (C := "ConeForge$Point") (T := FPt) (N := 3) hx hb hts iPt hown hK hP 0 rfl rfl 1 (by decide) (hts _ (bgc bw155)) (fun _ h9 => h9) rfl d_Pt_deepest_24 ?_
        refine lv_iload hx hb d_Pt_deepest_27 (lv_at hl 3 rfl) ?_
        obtain ⟨g5, h⟩ := gd_some h
        refine va_dald hx hb hK hP 2 0 rfl rfl (inb_in g5) d_Pt_deepest_29 ?_
        refine lv_dneg hx hb d_Pt_deepest_30 ?_
        obtain ⟨u6, hu6, h⟩ := bi_some h
        have jj7 := j_Pt_deepest_31 T q0 q0_x q0_s q0_y vq0_x vq0_s
        refine kD2 (v := u6) (wc := (w_C_greater T  )) (wc' := (w_C_greater T  )) (w_Pt_deepest T q0 q0_x q0_s q0_y vq0_x vq0_s) (runNS (As := [.double u3, .double (FP.dneg (vq0_s x4.toNatClampNeg))]) (rest := []) ((c_C_greater l D T   u3 (FP.dneg (vq0_s x4.toNatClampNeg)) u6 hu6) H.size) ⟨hx, hb, hml, hown, hts⟩ (cwNS nw101 bw307 bw97 bw308 dd_C_greater hts hNW ⟨Nat.le_of_ble_eq_true rfl, Nat.le_of_ble_eq_true rfl⟩)  hNW hK hP hD [] jj7.1 (by decide) rfl hl.1 rfl (lv_room (Nat.le_of_ble_eq_true rfl)) d_Pt_deepest_31 ⟨Nat.le_of_ble_eq_true rfl, Nat.le_of_ble_eq_true rfl⟩) hP hD hS hA [] [0, 1, 2] jj7.1 jj7.2.1 jj7.2.2.1 (N := 3) jj7.2.2.2.2 (by decide) jj7.2.2.2.1 (fun H locs hP hD hS => ?_)
        refine lv_dstore_n (lv' := [(2, .double u6), (0, .ref q0), (1, .int x1), (4, .int x4)]) hx hb d_Pt_deepest_34 rfl hl (by decide) rfl (fun ls hl => ?_)
        refine lv_iinc (v := x4 + 1) (lv' := [(4, .int (x4 + 1)), (2, .double u6), (0, .ref q0), (1, .int x1)]) hx hb d_Pt_deepest_35 hl (k := 3) rfl rfl (by decide) rfl (fun ls hl => ?_)
        refine lv_goto (tgt := 5) hx hb d_Pt_deepest_38 (by decide) ?_
        exact kc5 _ (Option.some.inj h).symm H locs ls hP hD hS (lv_sub hl [2, 3, 1, 0] rfl)
    · intro H locs ls hP hD hS hl
      refine lv_dload_n hx hb d_Pt_deepest_41 rfl (lv_at hl 0 rfl) ?_
      exact rtD hx hb hr hlocks hQ (Option.some.inj h) hP hS d_Pt_deepest_42 rfl rfl
  unfold s_Pt_deepest at h
  refine lv_dconst0 hx hb d_Pt_deepest_0 ?_
  refine lv_dstore_n (lv' := [(2, .double FP.dconst0), (0, .ref q0), (1, .int x1)]) hx hb d_Pt_deepest_1 rfl hl (by decide) rfl (fun ls hl => ?_)
  refine lv_iconst (v := 0) hx hb d_Pt_deepest_2 (by decide) ?_
  refine lv_istore (lv' := [(4, .int 0), (2, .double FP.dconst0), (0, .ref q0), (1, .int x1)]) hx hb d_Pt_deepest_3 hl (by decide) rfl (fun ls hl => ?_)
  exact L5 x1 FP.dconst0 0 H locs ls hP hD hS (lv_sub hl [2, 3, 1, 0] rfl) h
