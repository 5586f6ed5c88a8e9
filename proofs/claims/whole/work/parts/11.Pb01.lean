theorem d_Pb_clear_0 : decode prog_5_method_2_code 0 = .ok (.aload_n 0, 1) := by decide +kernel
theorem d_Pb_clear_1 : decode prog_5_method_2_code 1 = .ok (.iload_n 1, 1) := by decide +kernel
theorem d_Pb_clear_2 : decode prog_5_method_2_code 2 = .ok (.putfield 9, 3) := by decide +kernel
theorem d_Pb_clear_5 : decode prog_5_method_2_code 5 = .ok (.aload_n 0, 1) := by decide +kernel
theorem d_Pb_clear_6 : decode prog_5_method_2_code 6 = .ok (.iload_n 2, 1) := by decide +kernel
theorem d_Pb_clear_7 : decode prog_5_method_2_code 7 = .ok (.putfield 15, 3) := by decide +kernel
theorem d_Pb_clear_10 : decode prog_5_method_2_code 10 = .ok (.iconst 0, 1) := by decide +kernel
theorem d_Pb_clear_11 : decode prog_5_method_2_code 11 = .ok (.istore_n 3, 1) := by decide +kernel
theorem d_Pb_clear_12 : decode prog_5_method_2_code 12 = .ok (.iload_n 3, 1) := by decide +kernel
theorem d_Pb_clear_13 : decode prog_5_method_2_code 13 = .ok (.iconst 5, 1) := by decide +kernel
theorem d_Pb_clear_14 : decode prog_5_method_2_code 14 = .ok (.if_icmp .ge 19, 3) := by decide +kernel
theorem d_Pb_clear_17 : decode prog_5_method_2_code 17 = .ok (.aload_n 0, 1) := by decide +kernel
theorem d_Pb_clear_18 : decode prog_5_method_2_code 18 = .ok (.getfield 20, 3) := by decide +kernel
theorem d_Pb_clear_21 : decode prog_5_method_2_code 21 = .ok (.iload_n 3, 1) := by decide +kernel
theorem d_Pb_clear_22 : decode prog_5_method_2_code 22 = .ok (.aaload, 1) := by decide +kernel
theorem d_Pb_clear_23 : decode prog_5_method_2_code 23 = .ok (.dconst 0, 1) := by decide +kernel
theorem d_Pb_clear_24 : decode prog_5_method_2_code 24 = .ok (.invokestatic 30, 3) := by decide +kernel
theorem d_Pb_clear_27 : decode prog_5_method_2_code 27 = .ok (.iinc 3 1, 3) := by decide +kernel
theorem d_Pb_clear_30 : decode prog_5_method_2_code 30 = .ok (.goto (-18), 3) := by decide +kernel
theorem d_Pb_clear_33 : decode prog_5_method_2_code 33 = .ok (.aload_n 0, 1) := by decide +kernel
theorem d_Pb_clear_34 : decode prog_5_method_2_code 34 = .ok (.getfield 23, 3) := by decide +kernel
theorem d_Pb_clear_37 : decode prog_5_method_2_code 37 = .ok (.dconst 0, 1) := by decide +kernel
theorem d_Pb_clear_38 : decode prog_5_method_2_code 38 = .ok (.invokestatic 30, 3) := by decide +kernel
theorem d_Pb_clear_41 : decode prog_5_method_2_code 41 = .ok (.aload_n 0, 1) := by decide +kernel
theorem d_Pb_clear_42 : decode prog_5_method_2_code 42 = .ok (.getfield 27, 3) := by decide +kernel
theorem d_Pb_clear_45 : decode prog_5_method_2_code 45 = .ok (.dconst 0, 1) := by decide +kernel
theorem d_Pb_clear_46 : decode prog_5_method_2_code 46 = .ok (.invokestatic 30, 3) := by decide +kernel
theorem d_Pb_clear_49 : decode prog_5_method_2_code 49 = .ok (.return_, 1) := by decide +kernel
abbrev w_Pb_clear (T : Nat → ClassId) (q0 : Nat) (q0_a : Nat) (q0_b : Nat) (q0_c : Nat) (Rq0_a : Nat → Nat) (vq0_rows : Int32) (vq0_variables : Int32) (vq0_a : Nat → Nat → UInt64) (vq0_b : Nat → UInt64) (vq0_c : Nat → UInt64) : va_W := [(q0, .inr (0, [.int vq0_rows, .int vq0_variables, .ref q0_a, .ref q0_b, .ref q0_c])), (q0_a, .inl (T 3, 5, .inr (.inr (.inr (.inr (fun i => some (Rq0_a i))))))), (Rq0_a 0, .inl (T 0, 8, .inr (.inr (.inr (.inl (vq0_a 0)))))), (Rq0_a 1, .inl (T 0, 8, .inr (.inr (.inr (.inl (vq0_a 1)))))), (Rq0_a 2, .inl (T 0, 8, .inr (.inr (.inr (.inl (vq0_a 2)))))), (Rq0_a 3, .inl (T 0, 8, .inr (.inr (.inr (.inl (vq0_a 3)))))), (Rq0_a 4, .inl (T 0, 8, .inr (.inr (.inr (.inl (vq0_a 4)))))), (q0_b, .inl (T 0, 5, .inr (.inr (.inr (.inl vq0_b))))), (q0_c, .inl (T 0, 8, .inr (.inr (.inr (.inl vq0_c)))))]
def s_Pb_clear_B12 (vq0_rows : Int32) (vq0_variables : Int32) (vq0_b : Nat → UInt64) (vq0_c : Nat → UInt64) (vq0_a : Nat → Nat → UInt64) (x3 : Int32) : Option (((Nat → Nat → UInt64) × Int32) ⊕ ((Nat → Nat → UInt64))) :=
  if 5 ≤ x3 then (some (.inr vq0_a)) else (gd (inb x3 5) <| (s_Ar_fill 8 (vq0_a x3.toNatClampNeg) FP.dconst0).bind fun u3 => some (.inl (gset vq0_a x3.toNatClampNeg u3, x3 + 1)))
def s_Pb_clear_L12 (vq0_rows : Int32) (vq0_variables : Int32) (vq0_a : Nat → Nat → UInt64) (vq0_b : Nat → UInt64) (vq0_c : Nat → UInt64) (x3 : Int32) : Option (Int32 × Int32 × (Nat → Nat → UInt64) × (Nat → UInt64) × (Nat → UInt64)) :=
  (loopO (fun (st : (Nat → Nat → UInt64) × Int32) => s_Pb_clear_B12 vq0_rows vq0_variables vq0_b vq0_c st.1 st.2) 2000 (vq0_a, x3)).bind fun ul12 => (s_Ar_fill 5 vq0_b FP.dconst0).bind fun u5 => (s_Ar_fill 8 vq0_c FP.dconst0).bind fun u7 => some (vq0_rows, vq0_variables, ul12, u5, u7)
def s_Pb_clear (vq0_rows : Int32) (vq0_variables : Int32) (vq0_a : Nat → Nat → UInt64) (vq0_b : Nat → UInt64) (vq0_c : Nat → UInt64) (x1 : Int32) (x2 : Int32) : Option (Int32 × Int32 × (Nat → Nat → UInt64) × (Nat → UInt64) × (Nat → UInt64)) :=
  s_Pb_clear_L12 x1 x2 vq0_a vq0_b vq0_c 0
set_option maxRecDepth 100000 in
theorem j_Pb_clear_38 (T : Nat → ClassId) (q0 : Nat) (q0_a : Nat) (q0_b : Nat) (q0_c : Nat) (Rq0_a : Nat → Nat) (vq0_rows : Int32) (vq0_variables : Int32) (vq0_a : Nat → Nat → UInt64) (vq0_b : Nat → UInt64) (vq0_c : Nat → UInt64) (zvq0_b : Nat → UInt64) : ([7].map (fun (i : Nat) => (w_Pb_clear T q0 q0_a q0_b q0_c Rq0_a vq0_rows vq0_variables vq0_a vq0_b vq0_c)[i]?) = (w_Ar_fill T q0_b 5 vq0_b).map some) ∧ ([7].map (fun (i : Nat) => (w_Pb_clear T q0 q0_a q0_b q0_c Rq0_a vq0_rows vq0_variables vq0_a zvq0_b vq0_c)[i]?) = (w_Ar_fill T q0_b 5 zvq0_b).map some) ∧ ([0, 1, 2, 3, 4, 5, 6, 8].map (fun (i : Nat) => (w_Pb_clear T q0 q0_a q0_b q0_c Rq0_a vq0_rows vq0_variables vq0_a vq0_b vq0_c)[i]?) = [0, 1, 2, 3, 4, 5, 6, 8].map (fun (i : Nat) => (w_Pb_clear T q0 q0_a q0_b q0_c Rq0_a vq0_rows vq0_variables vq0_a zvq0_b vq0_c)[i]?)) ∧ (w_Ar_fill T q0_b 5 zvq0_b).map Prod.fst = (w_Ar_fill T q0_b 5 vq0_b).map Prod.fst ∧ (w_Pb_clear T q0 q0_a q0_b q0_c Rq0_a vq0_rows vq0_variables vq0_a zvq0_b vq0_c).length = 9 :=
  ⟨rfl, rfl, Eq.trans (b := ([some (q0, .inr (0, [.int vq0_rows, .int vq0_variables, .ref q0_a, .ref q0_b, .ref q0_c])), some (q0_a, .inl (T 3, 5, .inr (.inr (.inr (.inr (fun i => some (Rq0_a i))))))), some (Rq0_a 0, .inl (T 0, 8, .inr (.inr (.inr (.inl (vq0_a 0)))))), some (Rq0_a 1, .inl (T 0, 8, .inr (.inr (.inr (.inl (vq0_a 1)))))), some (Rq0_a 2, .inl (T 0, 8, .inr (.inr (.inr (.inl (vq0_a 2)))))), some (Rq0_a 3, .inl (T 0, 8, .inr (.inr (.inr (.inl (vq0_a 3)))))), some (Rq0_a 4, .inl (T 0, 8, .inr (.inr (.inr (.inl (vq0_a 4)))))), some (q0_c, .inl (T 0, 8, .inr (.inr (.inr (.inl vq0_c)))))] : List (Option (Nat × va_E)))) rfl rfl, rfl, rfl⟩
set_option maxRecDepth 100000 in
theorem j_Pb_clear_46 (T : Nat → ClassId) (q0 : Nat) (q0_a : Nat) (q0_b : Nat) (q0_c : Nat) (Rq0_a : Nat → Nat) (vq0_rows : Int32) (vq0_variables : Int32) (vq0_a : Nat → Nat → UInt64) (vq0_b : Nat → UInt64) (vq0_c : Nat → UInt64) (zvq0_c : Nat → UInt64) : ([8].map (fun (i : Nat) => (w_Pb_clear T q0 q0_a q0_b q0_c Rq0_a vq0_rows vq0_variables vq0_a vq0_b vq0_c)[i]?) = (w_Ar_fill T q0_c 8 vq0_c).map some) ∧ ([8].map (fun (i : Nat) => (w_Pb_clear T q0 q0_a q0_b q0_c Rq0_a vq0_rows vq0_variables vq0_a vq0_b zvq0_c)[i]?) = (w_Ar_fill T q0_c 8 zvq0_c).map some) ∧ ([0, 1, 2, 3, 4, 5, 6, 7].map (fun (i : Nat) => (w_Pb_clear T q0 q0_a q0_b q0_c Rq0_a vq0_rows vq0_variables vq0_a vq0_b vq0_c)[i]?) = [0, 1, 2, 3, 4, 5, 6, 7].map (fun (i : Nat) => (w_Pb_clear T q0 q0_a q0_b q0_c Rq0_a vq0_rows vq0_variables vq0_a vq0_b zvq0_c)[i]?)) ∧ (w_Ar_fill T q0_c 8 zvq0_c).map Prod.fst = (w_Ar_fill T q0_c 8 vq0_c).map Prod.fst ∧ (w_Pb_clear T q0 q0_a q0_b q0_c Rq0_a vq0_rows vq0_variables vq0_a vq0_b zvq0_c).length = 9 :=
  ⟨rfl, rfl, Eq.trans (b := ([some (q0, .inr (0, [.int vq0_rows, .int vq0_variables, .ref q0_a, .ref q0_b, .ref q0_c])), some (q0_a, .inl (T 3, 5, .inr (.inr (.inr (.inr (fun i => some (Rq0_a i))))))), some (Rq0_a 0, .inl (T 0, 8, .inr (.inr (.inr (.inl (vq0_a 0)))))), some (Rq0_a 1, .inl (T 0, 8, .inr (.inr (.inr (.inl (vq0_a 1)))))), some (Rq0_a 2, .inl (T 0, 8, .inr (.inr (.inr (.inl (vq0_a 2)))))), some (Rq0_a 3, .inl (T 0, 8, .inr (.inr (.inr (.inl (vq0_a 3)))))), some (Rq0_a 4, .inl (T 0, 8, .inr (.inr (.inr (.inl (vq0_a 4)))))), some (q0_b, .inl (T 0, 5, .inr (.inr (.inr (.inl vq0_b)))))] : List (Option (Nat × va_E)))) rfl rfl, rfl, rfl⟩
set_option maxHeartbeats 40000000 in
set_option maxRecDepth 100000 in
theorem c_Pb_clear (l : Launch) (D : va_G) (T : Nat → ClassId) (q0 : Nat) (q0_a : Nat) (q0_b : Nat) (q0_c : Nat) (Rq0_a : Nat → Nat) (vq0_rows : Int32) (vq0_variables : Int32) (vq0_a : Nat → Nat → UInt64) (vq0_b : Nat → UInt64) (vq0_c : Nat → UInt64) (x1 : Int32) (x2 : Int32) (rm : Int32 × Int32 × (Nat → Nat → UInt64) × (Nat → UInt64) × (Nat → UInt64)) (h : s_Pb_clear vq0_rows vq0_variables vq0_a vq0_b vq0_c x1 x2 = some rm) : CtV l y_Pb_clear (Cond.code y_Pb_clear prog_5_method_2_code 4 none :: BIG) 1 24 D T [.ref q0, .int x1, .int x2] (w_Pb_clear T q0 q0_a q0_b q0_c Rq0_a vq0_rows vq0_variables vq0_a vq0_b vq0_c) (fun r => (w_Pb_clear T q0 q0_a q0_b q0_c Rq0_a r.1 r.2.1 r.2.2.1 r.2.2.2.1 r.2.2.2.2)) rm := by
  refine cf_entry (y := y_Pb_clear) (cc := prog_5_method_2_code) (nL := 4) (ret := none) (fr := 1) (lo := 24) (T := T) (av := [.ref q0, .int x1, .int x2]) (w := (w_Pb_clear T q0 q0_a q0_b q0_c Rq0_a vq0_rows vq0_variables vq0_a vq0_b vq0_c)) (Qc := cfQv D (fun r => (w_Pb_clear T q0 q0_a q0_b q0_c Rq0_a r.1 r.2.1 r.2.2.1 r.2.2.2.1 r.2.2.2.2)) rm) (by decide) rfl (Nat.le_of_ble_eq_true rfl) ?_
  intro p e s m args below meth c A Q H locs ls hx hb hr hlocks hml hown hts hNW hK hA hQ hP hD hS hl
  have hown : s.vm.findClass "ConeForge$Problem" = some m.cls := hown
  have hl : lv_has ls 4 [(0, .ref q0), (1, .int x1), (2, .int x2)] := hl
  have L12 : ∀ (vq0_rows : Int32) (vq0_variables : Int32) (vq0_a : Nat → Nat → UInt64) (vq0_b : Nat → UInt64) (vq0_c : Nat → UInt64) (x3 : Int32), ∀ (H : Heap) (locs : List Loc) (ls : Array Slot), va_P D CL (w_Pb_clear T q0 q0_a q0_b q0_c Rq0_a vq0_rows vq0_variables vq0_a vq0_b vq0_c) H → va_D A (w_Pb_clear T q0 q0_a q0_b q0_c Rq0_a vq0_rows vq0_variables vq0_a vq0_b vq0_c) → va_S A s.heap H locs → lv_has ls 4 [(0, .ref q0), (3, .int x3)] → s_Pb_clear_L12 vq0_rows vq0_variables vq0_a vq0_b vq0_c x3 = some rm → W p l e (rmk 1 24) s m args below meth c H locs 0 0 Q (F0 m 12 ls []) := by
    intro vq0_rows vq0_variables vq0_a vq0_b vq0_c x3 H locs ls hP hD hS hl h
    unfold s_Pb_clear_L12 at h
    obtain ⟨ul12, hul12, h⟩ := bi_some h
    refine loopO_W (Wh := fun (st : (Nat → Nat → UInt64) × Int32) => ∀ (H : Heap) (locs : List Loc) (ls : Array Slot), va_P D CL (w_Pb_clear T q0 q0_a q0_b q0_c Rq0_a vq0_rows vq0_variables st.1 vq0_b vq0_c) H → va_D A (w_Pb_clear T q0 q0_a q0_b q0_c Rq0_a vq0_rows vq0_variables st.1 vq0_b vq0_c) → va_S A s.heap H locs → lv_has ls 4 [(0, .ref q0), (3, .int st.2)] → W p l e (rmk 1 24) s m args below meth c H locs 0 0 Q (F0 m 12 ls [])) (Wx := fun (e1 : (Nat → Nat → UInt64)) => ∀ (H : Heap) (locs : List Loc) (ls : Array Slot), va_P D CL (w_Pb_clear T q0 q0_a q0_b q0_c Rq0_a vq0_rows vq0_variables e1 vq0_b vq0_c) H → va_D A (w_Pb_clear T q0 q0_a q0_b q0_c Rq0_a vq0_rows vq0_variables e1 vq0_b vq0_c) → va_S A s.heap H locs → lv_has ls 4 [(0, .ref q0)] → W p l e (rmk 1 24) s m args below meth c H locs 0 0 Q (F0 m 33 ls [])) ?_ 2000 _ ul12 hul12 ?_ H locs ls hP hD hS hl
    · intro st rb12 h kc12 kx12 H locs ls hP hD hS hl
      obtain ⟨vq0_a, x3⟩ := st
      have h : s_Pb_clear_B12 vq0_rows vq0_variables vq0_b vq0_c vq0_a x3 = some rb12 := h
      unfold s_Pb_clear_B12 at h
      refine lv_iload_n hx hb d_Pb_clear_12 rfl (lv_at hl 1 rfl) ?_
      refine lv_iconst (v := 5) hx hb d_Pb_clear_13 (by decide) ?_
      refine lv_icmp_ge (tgt := 33) hx hb d_Pb_clear_14 (by decide) (fun c1 => ?_) (fun c1 => ?_)
      · have h := it_t c1 h
        exact kx12 _ (Option.some.inj h).symm H locs ls hP hD hS (lv_sub hl [0] rfl)
      · have h := it_f c1 h
        refine lv_aload_n hx hb d_Pb_clear_17 rfl (lv_at hl 0 rfl) ?_
        refine va_get (D := D) (ci := 0) (v := .ref q0_a) (C := "ConeForge$Problem") (T := FPb) (N := 5) hx hb hts iPb hown hK hP 0 rfl rfl 2 (by decide) (hts _ (bgc bw131)) (fun _ h9 => h9) rfl d_Pb_clear_18 ?_
        refine lv_iload_n hx hb d_Pb_clear_21 rfl (lv_at hl 1 rfl) ?_
        obtain ⟨g2, h⟩ := gd_some h
        refine va_aldg (f := Rq0_a) hx hb hK hP 1 3 rfl rfl (inb_in g2) d_Pb_clear_22 ?_
        refine lv_dconst0 hx hb d_Pb_clear_23 ?_
        obtain ⟨u3, hu3, h⟩ := bi_some h
        refine kV (wc := (w_Ar_fill T (Rq0_a x3.toNatClampNeg) 8 (vq0_a x3.toNatClampNeg))) (wc' := (w_Ar_fill T (Rq0_a x3.toNatClampNeg) 8 u3)) (runOS (As := [.ref (Rq0_a x3.toNatClampNeg), .double FP.dconst0]) (rest := []) ((c_Ar_fill l D T (Rq0_a x3.toNatClampNeg) 8 (vq0_a x3.toNatClampNeg) FP.dconst0 u3 hu3) H.size) ⟨hx, hb, hml, hown, hts⟩ (cwOS bw320 bw296 bw110 bw297 dd_Ar_fill hts ⟨Nat.le_of_ble_eq_true rfl, Nat.le_of_ble_eq_true rfl⟩)  hNW hK hP hD [2 + x3.toNatClampNeg] (congrArg (fun z => [z]) (gk5 (P := fun k => (w_Pb_clear T q0 q0_a q0_b q0_c Rq0_a vq0_rows vq0_variables vq0_a vq0_b vq0_c)[2 + k]? = some (Rq0_a k, .inl (T 0, 8, .inr (.inr (.inr (.inl (vq0_a k))))))) rfl rfl rfl rfl rfl _ (inb_lt g2))) rfl rfl hl.1 rfl (lv_room (Nat.le_of_ble_eq_true rfl)) d_Pb_clear_24 ⟨Nat.le_of_ble_eq_true rfl, Nat.le_of_ble_eq_true rfl⟩) hP hD hS hA [2 + x3.toNatClampNeg] (congrArg (fun z => [z]) (gk5 (P := fun k => (w_Pb_clear T q0 q0_a q0_b q0_c Rq0_a vq0_rows vq0_variables vq0_a vq0_b vq0_c)[2 + k]? = some (Rq0_a k, .inl (T 0, 8, .inr (.inr (.inr (.inl (vq0_a k))))))) rfl rfl rfl rfl rfl _ (inb_lt g2))) rfl (fun H locs hP hD hS => ?_)
        have e4 : ∀ zz : Nat → UInt64, (w_Pb_clear T q0 q0_a q0_b q0_c Rq0_a vq0_rows vq0_variables vq0_a vq0_b vq0_c).set (2 + x3.toNatClampNeg) (Rq0_a x3.toNatClampNeg, .inl (T 0, 8, .inr (.inr (.inr (.inl zz))))) = (w_Pb_clear T q0 q0_a q0_b q0_c Rq0_a vq0_rows vq0_variables (gset vq0_a x3.toNatClampNeg zz) vq0_b vq0_c) := fun zz => gk5 (P := fun k => (w_Pb_clear T q0 q0_a q0_b q0_c Rq0_a vq0_rows vq0_variables vq0_a vq0_b vq0_c).set (2 + k) (Rq0_a k, .inl (T 0, 8, .inr (.inr (.inr (.inl zz))))) = (w_Pb_clear T q0 q0_a q0_b q0_c Rq0_a vq0_rows vq0_variables (gset vq0_a k zz) vq0_b vq0_c)) rfl rfl rfl rfl rfl _ (inb_lt g2)
        have hP : va_P D CL (w_Pb_clear T q0 q0_a q0_b q0_c Rq0_a vq0_rows vq0_variables (gset vq0_a x3.toNatClampNeg u3) vq0_b vq0_c) H := (e4 _) ▸ hP
        have hD : va_D A (w_Pb_clear T q0 q0_a q0_b q0_c Rq0_a vq0_rows vq0_variables (gset vq0_a x3.toNatClampNeg u3) vq0_b vq0_c) := (e4 _) ▸ hD
        refine lv_iinc (v := x3 + 1) (lv' := [(3, .int (x3 + 1)), (0, .ref q0)]) hx hb d_Pb_clear_27 hl (k := 1) rfl rfl (by decide) rfl (fun ls hl => ?_)
        refine lv_goto (tgt := 12) hx hb d_Pb_clear_30 (by decide) ?_
        exact kc12 _ (Option.some.inj h).symm H locs ls hP hD hS (lv_sub hl [1, 0] rfl)
    · intro H locs ls hP hD hS hl
      refine lv_aload_n hx hb d_Pb_clear_33 rfl (lv_at hl 0 rfl) ?_
      refine va_get (D := D) (ci := 0) (v := .ref q0_b) (C := "ConeForge$Problem") (T := FPb) (N := 5) hx hb hts iPb hown hK hP 0 rfl rfl 3 (by decide) (hts _ (bgc bw132)) (fun _ h9 => h9) rfl d_Pb_clear_34 ?_
      refine lv_dconst0 hx hb d_Pb_clear_37 ?_
      obtain ⟨u5, hu5, h⟩ := bi_some h
      have jj6 := j_Pb_clear_38 T q0 q0_a q0_b q0_c Rq0_a vq0_rows vq0_variables ul12 vq0_b vq0_c u5
      refine kV2 (wc := (w_Ar_fill T q0_b 5 vq0_b)) (wc' := (w_Ar_fill T q0_b 5 u5)) (w_Pb_clear T q0 q0_a q0_b q0_c Rq0_a vq0_rows vq0_variables ul12 u5 vq0_c) (runOS (As := [.ref q0_b, .double FP.dconst0]) (rest := []) ((c_Ar_fill l D T q0_b 5 vq0_b FP.dconst0 u5 hu5) H.size) ⟨hx, hb, hml, hown, hts⟩ (cwOS bw320 bw296 bw110 bw297 dd_Ar_fill hts ⟨Nat.le_of_ble_eq_true rfl, Nat.le_of_ble_eq_true rfl⟩)  hNW hK hP hD [7] jj6.1 (by decide) rfl hl.1 rfl (lv_room (Nat.le_of_ble_eq_true rfl)) d_Pb_clear_38 ⟨Nat.le_of_ble_eq_true rfl, Nat.le_of_ble_eq_true rfl⟩) hP hD hS hA [7] [0, 1, 2, 3, 4, 5, 6, 8] jj6.1 jj6.2.1 jj6.2.2.1 (N := 9) jj6.2.2.2.2 (by decide) jj6.2.2.2.1 (fun H locs hP hD hS => ?_)
      refine lv_aload_n hx hb d_Pb_clear_41 rfl (lv_at hl 0 rfl) ?_
      refine va_get (D := D) (ci := 0) (v := .ref q0_c) (C := "ConeForge$Problem") (T := FPb) (N := 5) hx hb hts iPb hown hK hP 0 rfl rfl 4 (by decide) (hts _ (bgc bw133)) (fun _ h9 => h9) rfl d_Pb_clear_42 ?_
      refine lv_dconst0 hx hb d_Pb_clear_45 ?_
      obtain ⟨u7, hu7, h⟩ := bi_some h
      have jj8 := j_Pb_clear_46 T q0 q0_a q0_b q0_c Rq0_a vq0_rows vq0_variables ul12 u5 vq0_c u7
      refine kV2 (wc := (w_Ar_fill T q0_c 8 vq0_c)) (wc' := (w_Ar_fill T q0_c 8 u7)) (w_Pb_clear T q0 q0_a q0_b q0_c Rq0_a vq0_rows vq0_variables ul12 u5 u7) (runOS (As := [.ref q0_c, .double FP.dconst0]) (rest := []) ((c_Ar_fill l D T q0_c 8 vq0_c FP.dconst0 u7 hu7) H.size) ⟨hx, hb, hml, hown, hts⟩ (cwOS bw320 bw296 bw110 bw297 dd_Ar_fill hts ⟨Nat.le_of_ble_eq_true rfl, Nat.le_of_ble_eq_true rfl⟩)  hNW hK hP hD [8] jj8.1 (by decide) rfl hl.1 rfl (lv_room (Nat.le_of_ble_eq_true rfl)) d_Pb_clear_46 ⟨Nat.le_of_ble_eq_true rfl, Nat.le_of_ble_eq_true rfl⟩) hP hD hS hA [8] [0, 1, 2, 3, 4, 5, 6, 7] jj8.1 jj8.2.1 jj8.2.2.1 (N := 9) jj8.2.2.2.2 (by decide) jj8.2.2.2.1 (fun H locs hP hD hS => ?_)
      exact rtV hx hb hr hlocks hQ (Option.some.inj h) hP hS d_Pb_clear_49 rfl
  unfold s_Pb_clear at h
  refine lv_aload_n hx hb d_Pb_clear_0 rfl (lv_at hl 0 rfl) ?_
  refine lv_iload_n hx hb d_Pb_clear_1 rfl (lv_at hl 1 rfl) ?_
  refine va_put (D := D) (ci := 0) (v := .int x1) (ty := .int) (C := "ConeForge$Problem") (T := FPb) (N := 5) hx hb hts iPb tPb tPb_ok nmPb hown hK hP hD hS 0 rfl rfl 0 (by decide) (hts _ (bgc bw129)) (fun _ h9 => h9) rfl (by decide +kernel) rfl rfl (Nat.le_of_ble_eq_true rfl) d_Pb_clear_2 (fun H locs hP hD hS => ?_)
  have hP : va_P D CL (w_Pb_clear T q0 q0_a q0_b q0_c Rq0_a x1 vq0_variables vq0_a vq0_b vq0_c) H := hP
  have hD : va_D A (w_Pb_clear T q0 q0_a q0_b q0_c Rq0_a x1 vq0_variables vq0_a vq0_b vq0_c) := hD
  refine lv_aload_n hx hb d_Pb_clear_5 rfl (lv_at hl 0 rfl) ?_
  refine lv_iload_n hx hb d_Pb_clear_6 rfl (lv_at hl 2 rfl) ?_
  refine va_put (D := D) (ci := 0) (v := .int x2) (ty := .int) (C := "ConeForge$Problem") (T := FPb) (N := 5) hx hb hts iPb tPb tPb_ok nmPb hown hK hP hD hS 0 rfl rfl 1 (by decide) (hts _ (bgc bw130)) (fun _ h9 => h9) rfl (by decide +kernel) rfl rfl (Nat.le_of_ble_eq_true rfl) d_Pb_clear_7 (fun H locs hP hD hS => ?_)
  have hP : va_P D CL (w_Pb_clear T q0 q0_a q0_b q0_c Rq0_a x1 x2 vq0_a vq0_b vq0_c) H := hP
  have hD : va_D A (w_Pb_clear T q0 q0_a q0_b q0_c Rq0_a x1 x2 vq0_a vq0_b vq0_c) := hD
  refine lv_iconst (v := 0) hx hb d_Pb_clear_10 (by decide) ?_
  refine lv_istore_n (lv' := [(3, .int 0), (0, .ref q0), (1, .int x1), (2, .int x2)]) hx hb d_Pb_clear_11 rfl hl (by decide) rfl (fun ls hl => ?_)
  exact L12 x1 x2 vq0_a vq0_b vq0_c 0 H locs ls hP hD hS (lv_sub hl [1, 0] rfl) h
theorem d_Pb_copy_0 : decode prog_5_method_3_code 0 = .ok (.aload_n 0, 1) := by decide +kernel
theorem d_Pb_copy_1 : decode prog_5_method_3_code 1 = .ok (.aload_n 1, 1) := by decide +kernel
theorem d_Pb_copy_2 : decode prog_5_method_3_code 2 = .ok (.getfield 9, 3) := by decide +kernel
theorem d_Pb_copy_5 : decode prog_5_method_3_code 5 = .ok (.putfield 9, 3) := by decide +kernel
theorem d_Pb_copy_8 : decode prog_5_method_3_code 8 = .ok (.aload_n 0, 1) := by decide +kernel
theorem d_Pb_copy_9 : decode prog_5_method_3_code 9 = .ok (.aload_n 1, 1) := by decide +kernel
theorem d_Pb_copy_10 : decode prog_5_method_3_code 10 = .ok (.getfield 15, 3) := by decide +kernel
theorem d_Pb_copy_13 : decode prog_5_method_3_code 13 = .ok (.putfield 15, 3) := by decide +kernel
theorem d_Pb_copy_16 : decode prog_5_method_3_code 16 = .ok (.iconst 0, 1) := by decide +kernel
theorem d_Pb_copy_17 : decode prog_5_method_3_code 17 = .ok (.istore_n 2, 1) := by decide +kernel
theorem d_Pb_copy_18 : decode prog_5_method_3_code 18 = .ok (.iload_n 2, 1) := by decide +kernel
theorem d_Pb_copy_19 : decode prog_5_method_3_code 19 = .ok (.iconst 5, 1) := by decide +kernel
theorem d_Pb_copy_20 : decode prog_5_method_3_code 20 = .ok (.if_icmp .ge 28, 3) := by decide +kernel
theorem d_Pb_copy_23 : decode prog_5_method_3_code 23 = .ok (.aload_n 1, 1) := by decide +kernel
theorem d_Pb_copy_24 : decode prog_5_method_3_code 24 = .ok (.getfield 20, 3) := by decide +kernel
theorem d_Pb_copy_27 : decode prog_5_method_3_code 27 = .ok (.iload_n 2, 1) := by decide +kernel
theorem d_Pb_copy_28 : decode prog_5_method_3_code 28 = .ok (.aaload, 1) := by decide +kernel
theorem d_Pb_copy_29 : decode prog_5_method_3_code 29 = .ok (.iconst 0, 1) := by decide +kernel
theorem d_Pb_copy_30 : decode prog_5_method_3_code 30 = .ok (.aload_n 0, 1) := by decide +kernel
theorem d_Pb_copy_31 : decode prog_5_method_3_code 31 = .ok (.getfield 20, 3) := by decide +kernel
theorem d_Pb_copy_34 : decode prog_5_method_3_code 34 = .ok (.iload_n 2, 1) := by decide +kernel
theorem d_Pb_copy_35 : decode prog_5_method_3_code 35 = .ok (.aaload, 1) := by decide +kernel
theorem d_Pb_copy_36 : decode prog_5_method_3_code 36 = .ok (.iconst 0, 1) := by decide +kernel
theorem d_Pb_copy_37 : decode prog_5_method_3_code 37 = .ok (.bipush 8, 2) := by decide +kernel
theorem d_Pb_copy_39 : decode prog_5_method_3_code 39 = .ok (.invokestatic 36, 3) := by decide +kernel
theorem d_Pb_copy_42 : decode prog_5_method_3_code 42 = .ok (.iinc 2 1, 3) := by decide +kernel
theorem d_Pb_copy_45 : decode prog_5_method_3_code 45 = .ok (.goto (-27), 3) := by decide +kernel
theorem d_Pb_copy_48 : decode prog_5_method_3_code 48 = .ok (.aload_n 1, 1) := by decide +kernel
theorem d_Pb_copy_49 : decode prog_5_method_3_code 49 = .ok (.getfield 23, 3) := by decide +kernel
theorem d_Pb_copy_52 : decode prog_5_method_3_code 52 = .ok (.iconst 0, 1) := by decide +kernel
theorem d_Pb_copy_53 : decode prog_5_method_3_code 53 = .ok (.aload_n 0, 1) := by decide +kernel
theorem d_Pb_copy_54 : decode prog_5_method_3_code 54 = .ok (.getfield 23, 3) := by decide +kernel
theorem d_Pb_copy_57 : decode prog_5_method_3_code 57 = .ok (.iconst 0, 1) := by decide +kernel
theorem d_Pb_copy_58 : decode prog_5_method_3_code 58 = .ok (.iconst 5, 1) := by decide +kernel
theorem d_Pb_copy_59 : decode prog_5_method_3_code 59 = .ok (.invokestatic 36, 3) := by decide +kernel
theorem d_Pb_copy_62 : decode prog_5_method_3_code 62 = .ok (.aload_n 1, 1) := by decide +kernel
theorem d_Pb_copy_63 : decode prog_5_method_3_code 63 = .ok (.getfield 27, 3) := by decide +kernel
theorem d_Pb_copy_66 : decode prog_5_method_3_code 66 = .ok (.iconst 0, 1) := by decide +kernel
theorem d_Pb_copy_67 : decode prog_5_method_3_code 67 = .ok (.aload_n 0, 1) := by decide +kernel
theorem d_Pb_copy_68 : decode prog_5_method_3_code 68 = .ok (.getfield 27, 3) := by decide +kernel
theorem d_Pb_copy_71 : decode prog_5_method_3_code 71 = .ok (.iconst 0, 1) := by decide +kernel
theorem d_Pb_copy_72 : decode prog_5_method_3_code 72 = .ok (.bipush 8, 2) := by decide +kernel
theorem d_Pb_copy_74 : decode prog_5_method_3_code 74 = .ok (.invokestatic 36, 3) := by decide +kernel
theorem d_Pb_copy_77 : decode prog_5_method_3_code 77 = .ok (.return_, 1) := by decide +kernel
abbrev w_Pb_copy (T : Nat → ClassId) (q0 : Nat) (q0_a : Nat) (q0_b : Nat) (q0_c : Nat) (Rq0_a : Nat → Nat) (q1 : Nat) (q1_a : Nat) (q1_b : Nat) (q1_c : Nat) (Rq1_a : Nat → Nat) (vq0_rows : Int32) (vq0_variables : Int32) (vq0_a : Nat → Nat → UInt64) (vq0_b : Nat → UInt64) (vq0_c : Nat → UInt64) (vq1_rows : Int32) (vq1_variables : Int32) (vq1_a : Nat → Nat → UInt64) (vq1_b : Nat → UInt64) (vq1_c : Nat → UInt64) : va_W := [(q0, .inr (0, [.int vq0_rows, .int vq0_variables, .ref q0_a, .ref q0_b, .ref q0_c])), (q0_a, .inl (T 3, 5, .inr (.inr (.inr (.inr (fun i => some (Rq0_a i))))))), (Rq0_a 0, .inl (T 0, 8, .inr (.inr (.inr (.inl (vq0_a 0)))))), (Rq0_a 1, .inl (T 0, 8, .inr (.inr (.inr (.inl (vq0_a 1)))))), (Rq0_a 2, .inl (T 0, 8, .inr (.inr (.inr (.inl (vq0_a 2)))))), (Rq0_a 3, .inl (T 0, 8, .inr (.inr (.inr (.inl (vq0_a 3)))))), (Rq0_a 4, .inl (T 0, 8, .inr (.inr (.inr (.inl (vq0_a 4)))))), (q0_b, .inl (T 0, 5, .inr (.inr (.inr (.inl vq0_b))))), (q0_c, .inl (T 0, 8, .inr (.inr (.inr (.inl vq0_c))))), (q1, .inr (0, [.int vq1_rows, .int vq1_variables, .ref q1_a, .ref q1_b, .ref q1_c])), (q1_a, .inl (T 3, 5, .inr (.inr (.inr (.inr (fun i => some (Rq1_a i))))))), (Rq1_a 0, .inl (T 0, 8, .inr (.inr (.inr (.inl (vq1_a 0)))))), (Rq1_a 1, .inl (T 0, 8, .inr (.inr (.inr (.inl (vq1_a 1)))))), (Rq1_a 2, .inl (T 0, 8, .inr (.inr (.inr (.inl (vq1_a 2)))))), (Rq1_a 3, .inl (T 0, 8, .inr (.inr (.inr (.inl (vq1_a 3)))))), (Rq1_a 4, .inl (T 0, 8, .inr (.inr (.inr (.inl (vq1_a 4)))))), (q1_b, .inl (T 0, 5, .inr (.inr (.inr (.inl vq1_b))))), (q1_c, .inl (T 0, 8, .inr (.inr (.inr (.inl vq1_c)))))]
def s_Pb_copy_B18 (vq0_rows : Int32) (vq0_variables : Int32) (vq0_b : Nat → UInt64) (vq0_c : Nat → UInt64) (vq1_rows : Int32) (vq1_variables : Int32) (vq1_a : Nat → Nat → UInt64) (vq1_b : Nat → UInt64) (vq1_c : Nat → UInt64) (vq0_a : Nat → Nat → UInt64) (x2 : Int32) : Option (((Nat → Nat → UInt64) × Int32) ⊕ ((Nat → Nat → UInt64))) :=
  if 5 ≤ x2 then (some (.inr vq0_a)) else (gd (inb x2 5) <| gd (inb x2 5) <| some (.inl (gset vq0_a x2.toNatClampNeg (va_cpy (vq1_a x2.toNatClampNeg) (vq0_a x2.toNatClampNeg) (0 : Int32).toNatClampNeg (0 : Int32).toNatClampNeg (8 : Int32).toNatClampNeg), x2 + 1)))
def s_Pb_copy_L18 (vq0_rows : Int32) (vq0_variables : Int32) (vq0_a : Nat → Nat → UInt64) (vq0_b : Nat → UInt64) (vq0_c : Nat → UInt64) (vq1_rows : Int32) (vq1_variables : Int32) (vq1_a : Nat → Nat → UInt64) (vq1_b : Nat → UInt64) (vq1_c : Nat → UInt64) (x2 : Int32) : Option (Int32 × Int32 × (Nat → Nat → UInt64) × (Nat → UInt64) × (Nat → UInt64)) :=
  (loopO (fun (st : (Nat → Nat → UInt64) × Int32) => s_Pb_copy_B18 vq0_rows vq0_variables vq0_b vq0_c vq1_rows vq1_variables vq1_a vq1_b vq1_c st.1 st.2) 2000 (vq0_a, x2)).bind fun ul18 => some (vq0_rows, vq0_variables, ul18, va_cpy vq1_b vq0_b (0 : Int32).toNatClampNeg (0 : Int32).toNatClampNeg (5 : Int32).toNatClampNeg, va_cpy vq1_c vq0_c (0 : Int32).toNatClampNeg (0 : Int32).toNatClampNeg (8 : Int32).toNatClampNeg)
def s_Pb_copy (vq0_rows : Int32) (vq0_variables : Int32) (vq0_a : Nat → Nat → UInt64) (vq0_b : Nat → UInt64) (vq0_c : Nat → UInt64) (vq1_rows : Int32) (vq1_variables : Int32) (vq1_a : Nat → Nat → UInt64) (vq1_b : Nat → UInt64) (vq1_c : Nat → UInt64) : Option (Int32 × Int32 × (Nat → Nat → UInt64) × (Nat → UInt64) × (Nat → UInt64)) :=
  s_Pb_copy_L18 vq1_rows vq1_variables vq0_a vq0_b vq0_c vq1_rows vq1_variables vq1_a vq1_b vq1_c 0
set_option maxHeartbeats 40000000 in
set_option maxRecDepth 100000 in
theorem c_Pb_copy (l : Launch) (D : va_G) (T : Nat → ClassId) (q0 : Nat) (q0_a : Nat) (q0_b : Nat) (q0_c : Nat) (Rq0_a : Nat → Nat) (q1 : Nat) (q1_a : Nat) (q1_b : Nat) (q1_c : Nat) (Rq1_a : Nat → Nat) (vq0_rows : Int32) (vq0_variables : Int32) (vq0_a : Nat → Nat → UInt64) (vq0_b : Nat → UInt64) (vq0_c : Nat → UInt64) (vq1_rows : Int32) (vq1_variables : Int32) (vq1_a : Nat → Nat → UInt64) (vq1_b : Nat → UInt64) (vq1_c : Nat → UInt64) (rm : Int32 × Int32 × (Nat → Nat → UInt64) × (Nat → UInt64) × (Nat → UInt64)) (h : s_Pb_copy vq0_rows vq0_variables vq0_a vq0_b vq0_c vq1_rows vq1_variables vq1_a vq1_b vq1_c = some rm) : CtV l y_Pb_copy (Cond.code y_Pb_copy prog_5_method_3_code 3 none :: BIG) 1 80 D T [.ref q0, .ref q1] (w_Pb_copy T q0 q0_a q0_b q0_c Rq0_a q1 q1_a q1_b q1_c Rq1_a vq0_rows vq0_variables vq0_a vq0_b vq0_c vq1_rows vq1_variables vq1_a vq1_b vq1_c) (fun r => (w_Pb_copy T q0 q0_a q0_b q0_c Rq0_a q1 q1_a q1_b q1_c Rq1_a r.1 r.2.1 r.2.2.1 r.2.2.2.1 r.2.2.2.2 vq1_rows vq1_variables vq1_a vq1_b vq1_c)) rm := by
  refine cf_entry (y := y_Pb_copy) (cc := prog_5_method_3_code) (nL := 3) (ret := none) (fr := 1) (lo := 80) (T := T) (av := [.ref q0, .ref q1]) (w := (w_Pb_copy T q0 q0_a q0_b q0_c Rq0_a q1 q1_a q1_b q1_c Rq1_a vq0_rows vq0_variables vq0_a vq0_b vq0_c vq1_rows vq1_variables vq1_a vq1_b vq1_c)) (Qc := cfQv D (fun r => (w_Pb_copy T q0 q0_a q0_b q0_c Rq0_a q1 q1_a q1_b q1_c Rq1_a r.1 r.2.1 r.2.2.1 r.2.2.2.1 r.2.2.2.2 vq1_rows vq1_variables vq1_a vq1_b vq1_c)) rm) (by decide) rfl (Nat.le_of_ble_eq_true rfl) ?_
  intro p e s m args below meth c A Q H locs ls hx hb hr hlocks hml hown hts hNW hK hA hQ hP hD hS hl
  have hown : s.vm.findClass "ConeForge$Problem" = some m.cls := hown
  have hl : lv_has ls 3 [(0, .ref q0), (1, .ref q1)] := hl
  have L18 : ∀ (vq0_rows : Int32) (vq0_variables : Int32) (vq0_a : Nat → Nat → UInt64) (vq0_b : Nat → UInt64) (vq0_c : Nat → UInt64) (x2 : Int32), ∀ (H : Heap) (locs : List Loc) (ls : Array Slot), va_P D CL (w_Pb_copy T q0 q0_a q0_b q0_c Rq0_a q1 q1_a q1_b q1_c Rq1_a vq0_rows vq0_variables vq0_a vq0_b vq0_c vq1_rows vq1_variables vq1_a vq1_b vq1_c) H → va_D A (w_Pb_copy T q0 q0_a q0_b q0_c Rq0_a q1 q1_a q1_b q1_c Rq1_a vq0_rows vq0_variables vq0_a vq0_b vq0_c vq1_rows vq1_variables vq1_a vq1_b vq1_c) → va_S A s.heap H locs → lv_has ls 3 [(0, .ref q0), (1, .ref q1), (2, .int x2)] → s_Pb_copy_L18 vq0_rows vq0_variables vq0_a vq0_b vq0_c vq1_rows vq1_variables vq1_a vq1_b vq1_c x2 = some rm → W p l e (rmk 1 80) s m args below meth c H locs 0 0 Q (F0 m 18 ls []) := by
    intro vq0_rows vq0_variables vq0_a vq0_b vq0_c x2 H locs ls hP hD hS hl h
    unfold s_Pb_copy_L18 at h
    obtain ⟨ul18, hul18, h⟩ := bi_some h
    refine loopO_W (Wh := fun (st : (Nat → Nat → UInt64) × Int32) => ∀ (H : Heap) (locs : List Loc) (ls : Array Slot), va_P D CL (w_Pb_copy T q0 q0_a q0_b q0_c Rq0_a q1 q1_a q1_b q1_c Rq1_a vq0_rows vq0_variables st.1 vq0_b vq0_c vq1_rows vq1_variables vq1_a vq1_b vq1_c) H → va_D A (w_Pb_copy T q0 q0_a q0_b q0_c Rq0_a q1 q1_a q1_b q1_c Rq1_a vq0_rows vq0_variables st.1 vq0_b vq0_c vq1_rows vq1_variables vq1_a vq1_b vq1_c) → va_S A s.heap H locs → lv_has ls 3 [(0, .ref q0), (1, .ref q1), (2, .int st.2)] → W p l e (rmk 1 80) s m args below meth c H locs 0 0 Q (F0 m 18 ls [])) (Wx := fun (e1 : (Nat → Nat → UInt64)) => ∀ (H : Heap) (locs : List Loc) (ls : Array Slot), va_P D CL (w_Pb_copy T q0 q0_a q0_b q0_c Rq0_a q1 q1_a q1_b q1_c Rq1_a vq0_rows vq0_variables e1 vq0_b vq0_c vq1_rows vq1_variables vq1_a vq1_b vq1_c) H → va_D A (w_Pb_copy T q0 q0_a q0_b q0_c Rq0_a q1 q1_a q1_b q1_c Rq1_a vq0_rows vq0_variables e1 vq0_b vq0_c vq1_rows vq1_variables vq1_a vq1_b vq1_c) → va_S A s.heap H locs → lv_has ls 3 [(0, .ref q0), (1, .ref q1)] → W p l e (rmk 1 80) s m args below meth c H locs 0 0 Q (F0 m 48 ls [])) ?_ 2000 _ ul18 hul18 ?_ H locs ls hP hD hS hl
    · intro st rb18 h kc18 kx18 H locs ls hP hD hS hl
      obtain ⟨vq0_a, x2⟩ := st
      have h : s_Pb_copy_B18 vq0_rows vq0_variables vq0_b vq0_c vq1_rows vq1_variables vq1_a vq1_b vq1_c vq0_a x2 = some rb18 := h
      unfold s_Pb_copy_B18 at h
      refine lv_iload_n hx hb d_Pb_copy_18 rfl (lv_at hl 2 rfl) ?_
      refine lv_iconst (v := 5) hx hb d_Pb_copy_19 (by decide) ?_
      refine lv_icmp_ge (tgt := 48) hx hb d_Pb_copy_20 (by decide) (fun c1 => ?_) (fun c1 => ?_)
      · have h := it_t c1 h
        exact kx18 _ (Option.some.inj h).symm H locs ls hP hD hS (lv_sub hl [0, 1] rfl)
      · have h := it_f c1 h
        refine lv_aload_n hx hb d_Pb_copy_23 rfl (lv_at hl 1 rfl) ?_
        refine va_get (D := D) (ci := 0) (v := .ref q1_a) (C := "ConeForge$Problem") (T := FPb) (N := 5) hx hb hts iPb hown hK hP 9 rfl rfl 2 (by decide) (hts _ (bgc bw131)) (fun _ h9 => h9) rfl d_Pb_copy_24 ?_
        refine lv_iload_n hx hb d_Pb_copy_27 rfl (lv_at hl 2 rfl) ?_
        obtain ⟨g2, h⟩ := gd_some h
        refine va_aldg (f := Rq1_a) hx hb hK hP 10 3 rfl rfl (inb_in g2) d_Pb_copy_28 ?_
        refine lv_iconst (v := 0) hx hb d_Pb_copy_29 (by decide) ?_
        refine lv_aload_n hx hb d_Pb_copy_30 rfl (lv_at hl 0 rfl) ?_
        refine va_get (D := D) (ci := 0) (v := .ref q0_a) (C := "ConeForge$Problem") (T := FPb) (N := 5) hx hb hts iPb hown hK hP 0 rfl rfl 2 (by decide) (hts _ (bgc bw131)) (fun _ h9 => h9) rfl d_Pb_copy_31 ?_
        refine lv_iload_n hx hb d_Pb_copy_34 rfl (lv_at hl 2 rfl) ?_
        obtain ⟨g3, h⟩ := gd_some h
        refine va_aldg (f := Rq0_a) hx hb hK hP 1 3 rfl rfl (inb_in g3) d_Pb_copy_35 ?_
        refine lv_iconst (v := 0) hx hb d_Pb_copy_36 (by decide) ?_
        refine lv_bipush (v := 8) hx hb d_Pb_copy_37 (by decide) ?_
        refine va_copyd (f := vq1_a x2.toNatClampNeg) (g := vq0_a x2.toNatClampNeg) (sp := 0) (dp := 0) (n := 8) (ty := .double) hx hb (hml.trans hl.1.symm) hown (hts _ (bgc bw547)) (hts _ (bgc bw549)) (hts _ (bgc bw548)) (hts _ (bgc bw113)) hK hP hD hS (11 + x2.toNatClampNeg) (2 + x2.toNatClampNeg) 0 0 (gk5 (P := fun k => (w_Pb_copy T q0 q0_a q0_b q0_c Rq0_a q1 q1_a q1_b q1_c Rq1_a vq0_rows vq0_variables vq0_a vq0_b vq0_c vq1_rows vq1_variables vq1_a vq1_b vq1_c)[11 + k]? = some (Rq1_a k, .inl (T 0, 8, .inr (.inr (.inr (.inl (vq1_a k))))))) rfl rfl rfl rfl rfl _ (inb_lt g2)) (gk5 (P := fun k => (w_Pb_copy T q0 q0_a q0_b q0_c Rq0_a q1 q1_a q1_b q1_c Rq1_a vq0_rows vq0_variables vq0_a vq0_b vq0_c vq1_rows vq1_variables vq1_a vq1_b vq1_c)[2 + k]? = some (Rq0_a k, .inl (T 0, 8, .inr (.inr (.inr (.inl (vq0_a k))))))) rfl rfl rfl rfl rfl _ (inb_lt g3)) rfl rfl rfl (by decide) (by decide) (by decide) (by decide) (by decide) (fun _ _ => rfl) (Nat.le_of_ble_eq_true rfl) (Nat.le_of_ble_eq_true rfl) d_Pb_copy_39 (fun H locs hP hD hS => ?_)
        have e4 : ∀ zz : Nat → UInt64, (w_Pb_copy T q0 q0_a q0_b q0_c Rq0_a q1 q1_a q1_b q1_c Rq1_a vq0_rows vq0_variables vq0_a vq0_b vq0_c vq1_rows vq1_variables vq1_a vq1_b vq1_c).set (2 + x2.toNatClampNeg) (Rq0_a x2.toNatClampNeg, .inl (T 0, 8, .inr (.inr (.inr (.inl zz))))) = (w_Pb_copy T q0 q0_a q0_b q0_c Rq0_a q1 q1_a q1_b q1_c Rq1_a vq0_rows vq0_variables (gset vq0_a x2.toNatClampNeg zz) vq0_b vq0_c vq1_rows vq1_variables vq1_a vq1_b vq1_c) := fun zz => gk5 (P := fun k => (w_Pb_copy T q0 q0_a q0_b q0_c Rq0_a q1 q1_a q1_b q1_c Rq1_a vq0_rows vq0_variables vq0_a vq0_b vq0_c vq1_rows vq1_variables vq1_a vq1_b vq1_c).set (2 + k) (Rq0_a k, .inl (T 0, 8, .inr (.inr (.inr (.inl zz))))) = (w_Pb_copy T q0 q0_a q0_b q0_c Rq0_a q1 q1_a q1_b q1_c Rq1_a vq0_rows vq0_variables (gset vq0_a k zz) vq0_b vq0_c vq1_rows vq1_variables vq1_a vq1_b vq1_c)) rfl rfl rfl rfl rfl _ (inb_lt g3)
        have hP : va_P D CL (w_Pb_copy T q0 q0_a q0_b q0_c Rq0_a q1 q1_a q1_b q1_c Rq1_a vq0_rows vq0_variables (gset vq0_a x2.toNatClampNeg (va_cpy (vq1_a x2.toNatClampNeg) (vq0_a x2.toNatClampNeg) (0 : Int32).toNatClampNeg (0 : Int32).toNatClampNeg (8 : Int32).toNatClampNeg)) vq0_b vq0_c vq1_rows vq1_variables vq1_a vq1_b vq1_c) H := (e4 _) ▸ hP
        have hD : va_D A (w_Pb_copy T q0 q0_a q0_b q0_c Rq0_a q1 q1_a q1_b q1_c Rq1_a vq0_rows vq0_variables (gset vq0_a x2.toNatClampNeg (va_cpy (vq1_a x2.toNatClampNeg) (vq0_a x2.toNatClampNeg) (0 : Int32).toNatClampNeg (0 : Int32).toNatClampNeg (8 : Int32).toNatClampNeg)) vq0_b vq0_c vq1_rows vq1_variables vq1_a vq1_b vq1_c) := (e4 _) ▸ hD
        refine lv_iinc (v := x2 + 1) (lv' := [(2, .int (x2 + 1)), (0, .ref q0), (1, .ref q1)]) hx hb d_Pb_copy_42 hl (k := 2) rfl rfl (by decide) rfl (fun ls hl => ?_)
        refine lv_goto (tgt := 18) hx hb d_Pb_copy_45 (by decide) ?_
        exact kc18 _ (Option.some.inj h).symm H locs ls hP hD hS (lv_sub hl [1, 2, 0] rfl)
    · intro H locs ls hP hD hS hl
      refine lv_aload_n hx hb d_Pb_copy_48 rfl (lv_at hl 1 rfl) ?_
      refine va_get (D := D) (ci := 0) (v := .ref q1_b) (C := "ConeForge$Problem") (T := FPb) (N := 5) hx hb hts iPb hown hK hP 9 rfl rfl 3 (by decide) (hts _ (bgc bw132)) (fun _ h9 => h9) rfl d_Pb_copy_49 ?_
      refine lv_iconst (v := 0) hx hb d_Pb_copy_52 (by decide) ?_
      refine lv_aload_n hx hb d_Pb_copy_53 rfl (lv_at hl 0 rfl) ?_
      refine va_get (D := D) (ci := 0) (v := .ref q0_b) (C := "ConeForge$Problem") (T := FPb) (N := 5) hx hb hts iPb hown hK hP 0 rfl rfl 3 (by decide) (hts _ (bgc bw132)) (fun _ h9 => h9) rfl d_Pb_copy_54 ?_
      refine lv_iconst (v := 0) hx hb d_Pb_copy_57 (by decide) ?_
      refine lv_iconst (v := 5) hx hb d_Pb_copy_58 (by decide) ?_
      refine va_copyd (f := vq1_b) (g := vq0_b) (sp := 0) (dp := 0) (n := 5) (ty := .double) hx hb (hml.trans hl.1.symm) hown (hts _ (bgc bw547)) (hts _ (bgc bw549)) (hts _ (bgc bw548)) (hts _ (bgc bw113)) hK hP hD hS 16 7 0 0 rfl rfl rfl rfl rfl (by decide) (by decide) (by decide) (by decide) (by decide) (fun _ _ => rfl) (Nat.le_of_ble_eq_true rfl) (Nat.le_of_ble_eq_true rfl) d_Pb_copy_59 (fun H locs hP hD hS => ?_)
      have hP : va_P D CL (w_Pb_copy T q0 q0_a q0_b q0_c Rq0_a q1 q1_a q1_b q1_c Rq1_a vq0_rows vq0_variables ul18 (va_cpy vq1_b vq0_b (0 : Int32).toNatClampNeg (0 : Int32).toNatClampNeg (5 : Int32).toNatClampNeg) vq0_c vq1_rows vq1_variables vq1_a vq1_b vq1_c) H := hP
      have hD : va_D A (w_Pb_copy T q0 q0_a q0_b q0_c Rq0_a q1 q1_a q1_b q1_c Rq1_a vq0_rows vq0_variables ul18 (va_cpy vq1_b vq0_b (0 : Int32).toNatClampNeg (0 : Int32).toNatClampNeg (5 : Int32).toNatClampNeg) vq0_c vq1_rows vq1_variables vq1_a vq1_b vq1_c) := hD
      refine lv_aload_n hx hb d_Pb_copy_62 rfl (lv_at hl 1 rfl) ?_
      refine va_get (D := D) (ci := 0) (v := .ref q1_c) (C := "ConeForge$Problem") (T := FPb) (N := 5) hx hb hts iPb hown hK hP 9 rfl rfl 4 (by decide) (hts _ (bgc bw133)) (fun _ h9 => h9) rfl d_Pb_copy_63 ?_
      refine lv_iconst (v := 0) hx hb d_Pb_copy_66 (by decide) ?_
      refine lv_aload_n hx hb d_Pb_copy_67 rfl (lv_at hl 0 rfl) ?_
      refine va_get (D := D) (ci := 0) (v := .ref q0_c) (C := "ConeForge$Problem") (T := FPb) (N := 5) hx hb hts iPb hown hK hP 0 rfl rfl 4 (by decide) (hts _ (bgc bw133)) (fun _ h9 => h9) rfl d_Pb_copy_68 ?_
      refine lv_iconst (v := 0) hx hb d_Pb_copy_71 (by decide) ?_
      refine lv_bipush (v := 8) hx hb d_Pb_copy_72 (by decide) ?_
      refine va_copyd (f := vq1_c) (g := vq0_c) (sp := 0) (dp := 0) (n := 8) (ty := .double) hx hb (hml.trans hl.1.symm) hown (hts _ (bgc bw547)) (hts _ (bgc bw549)) (hts _ (bgc bw548)) (hts _ (bgc bw113)) hK hP hD hS 17 8 0 0 rfl rfl rfl rfl rfl (by decide) (by decide) (by decide) (by decide) (by decide) (fun _ _ => rfl) (Nat.le_of_ble_eq_true rfl) (Nat.le_of_ble_eq_true rfl) d_Pb_copy_74 (fun H locs hP hD hS => ?_)
      have hP : va_P D CL (w_Pb_copy T q0 q0_a q0_b q0_c Rq0_a q1 q1_a q1_b q1_c Rq1_a vq0_rows vq0_variables ul18 (va_cpy vq1_b vq0_b (0 : Int32).toNatClampNeg (0 : Int32).toNatClampNeg (5 : Int32).toNatClampNeg) (va_cpy vq1_c vq0_c (0 : Int32).toNatClampNeg (0 : Int32).toNatClampNeg (8 : Int32).toNatClampNeg) vq1_rows vq1_variables vq1_a vq1_b vq1_c) H := hP
      have hD : va_D A (w_Pb_copy T q0 q0_a q0_b q0_c Rq0_a q1 q1_a q1_b q1_c Rq1_a vq0_rows vq0_variables ul18 (va_cpy vq1_b vq0_b (0 : Int32).toNatClampNeg (0 : Int32).toNatClampNeg (5 : Int32).toNatClampNeg) (va_cpy vq1_c vq0_c (0 : Int32).toNatClampNeg (0 : Int32).toNatClampNeg (8 : Int32).toNatClampNeg) vq1_rows vq1_variables vq1_a vq1_b vq1_c) := hD
      exact rtV hx hb hr hlocks hQ (Option.some.inj h) hP hS d_Pb_copy_77 rfl
  unfold s_Pb_copy at h
  refine lv_aload_n hx hb d_Pb_copy_0 rfl (lv_at hl 0 rfl) ?_
  refine lv_aload_n hx hb d_Pb_copy_1 rfl (lv_at hl 1 rfl) ?_
  refine va_get (D := D) (ci := 0) (v := .int vq1_rows) (C := "ConeForge$Problem") (T := FPb) (N := 5) hx hb hts iPb hown hK hP 9 rfl rfl 0 (by decide) (hts _ (bgc bw129)) (fun _ h9 => h9) rfl d_Pb_copy_2 ?_
  refine va_put (D := D) (ci := 0) (v := .int vq1_rows) (ty := .int) (C := "ConeForge$Problem") (T := FPb) (N := 5) hx hb hts iPb tPb tPb_ok nmPb hown hK hP hD hS 0 rfl rfl 0 (by decide) (hts _ (bgc bw129)) (fun _ h9 => h9) rfl (by decide +kernel) rfl rfl (Nat.le_of_ble_eq_true rfl) d_Pb_copy_5 (fun H locs hP hD hS => ?_)
  have hP : va_P D CL (w_Pb_copy T q0 q0_a q0_b q0_c Rq0_a q1 q1_a q1_b q1_c Rq1_a vq1_rows vq0_variables vq0_a vq0_b vq0_c vq1_rows vq1_variables vq1_a vq1_b vq1_c) H := hP
  have hD : va_D A (w_Pb_copy T q0 q0_a q0_b q0_c Rq0_a q1 q1_a q1_b q1_c Rq1_a vq1_rows vq0_variables vq0_a vq0_b vq0_c vq1_rows vq1_variables vq1_a vq1_b vq1_c) := hD
  refine lv_aload_n hx hb d_Pb_copy_8 rfl (lv_at hl 0 rfl) ?_
  refine lv_aload_n hx hb d_Pb_copy_9 rfl (lv_at hl 1 rfl) ?_
  refine va_get (D := D) (ci := 0) (v := .int vq1_variables) (C := "ConeForge$Problem") (T := FPb) (N := 5) hx hb hts iPb hown hK hP 9 rfl rfl 1 (by decide) (hts _ (bgc bw130)) (fun _ h9 => h9) rfl d_Pb_copy_10 ?_
  refine va_put (D := D) (ci := 0) (v := .int vq1_variables) (ty := .int) (C := "ConeForge$Problem") (T := FPb) (N := 5) hx hb hts iPb tPb tPb_ok nmPb hown hK hP hD hS 0 rfl rfl 1 (by decide) (hts _ (bgc bw130)) (fun _ h9 => h9) rfl (by decide +kernel) rfl rfl (Nat.le_of_ble_eq_true rfl) d_Pb_copy_13 (fun H locs hP hD hS => ?_)
  have hP : va_P D CL (w_Pb_copy T q0 q0_a q0_b q0_c Rq0_a q1 q1_a q1_b q1_c Rq1_a vq1_rows vq1_variables vq0_a vq0_b vq0_c vq1_rows vq1_variables vq1_a vq1_b vq1_c) H := hP
  have hD : va_D A (w_Pb_copy T q0 q0_a q0_b q0_c Rq0_a q1 q1_a q1_b q1_c Rq1_a vq1_rows vq1_variables vq0_a vq0_b vq0_c vq1_rows vq1_variables vq1_a vq1_b vq1_c) := hD
  refine lv_iconst (v := 0) hx hb d_Pb_copy_16 (by decide) ?_
  refine lv_istore_n (lv' := [(2, .int 0), (0, .ref q0), (1, .ref q1)]) hx hb d_Pb_copy_17 rfl hl (by decide) rfl (fun ls hl => ?_)
  exact L18 vq1_rows vq1_variables vq0_a vq0_b vq0_c 0 H locs ls hP hD hS (lv_sub hl [1, 2, 0] rfl) h
theorem d_Pb_lessRow_0 : decode prog_5_method_6_code 0 = .ok (.dload_n 1, 1) := by decide +kernel
theorem d_Pb_lessRow_1 : decode prog_5_method_6_code 1 = .ok (.dstore 5, 2) := by decide +kernel
theorem d_Pb_lessRow_3 : decode prog_5_method_6_code 3 = .ok (.iconst 0, 1) := by decide +kernel
theorem d_Pb_lessRow_4 : decode prog_5_method_6_code 4 = .ok (.istore 7, 2) := by decide +kernel
theorem d_Pb_lessRow_6 : decode prog_5_method_6_code 6 = .ok (.iload 7, 2) := by decide +kernel
theorem d_Pb_lessRow_8 : decode prog_5_method_6_code 8 = .ok (.aload_n 0, 1) := by decide +kernel
theorem d_Pb_lessRow_9 : decode prog_5_method_6_code 9 = .ok (.getfield 15, 3) := by decide +kernel
theorem d_Pb_lessRow_12 : decode prog_5_method_6_code 12 = .ok (.if_icmp .ge 29, 3) := by decide +kernel
theorem d_Pb_lessRow_15 : decode prog_5_method_6_code 15 = .ok (.dload 5, 2) := by decide +kernel
theorem d_Pb_lessRow_17 : decode prog_5_method_6_code 17 = .ok (.aload_n 0, 1) := by decide +kernel
theorem d_Pb_lessRow_18 : decode prog_5_method_6_code 18 = .ok (.getfield 20, 3) := by decide +kernel
theorem d_Pb_lessRow_21 : decode prog_5_method_6_code 21 = .ok (.iload_n 3, 1) := by decide +kernel
theorem d_Pb_lessRow_22 : decode prog_5_method_6_code 22 = .ok (.aaload, 1) := by decide +kernel
theorem d_Pb_lessRow_23 : decode prog_5_method_6_code 23 = .ok (.iload 7, 2) := by decide +kernel
theorem d_Pb_lessRow_25 : decode prog_5_method_6_code 25 = .ok (.daload, 1) := by decide +kernel
theorem d_Pb_lessRow_26 : decode prog_5_method_6_code 26 = .ok (.aload 4, 2) := by decide +kernel
theorem d_Pb_lessRow_28 : decode prog_5_method_6_code 28 = .ok (.iload 7, 2) := by decide +kernel
theorem d_Pb_lessRow_30 : decode prog_5_method_6_code 30 = .ok (.daload, 1) := by decide +kernel
theorem d_Pb_lessRow_31 : decode prog_5_method_6_code 31 = .ok (.dmul, 1) := by decide +kernel
theorem d_Pb_lessRow_32 : decode prog_5_method_6_code 32 = .ok (.dsub, 1) := by decide +kernel
theorem d_Pb_lessRow_33 : decode prog_5_method_6_code 33 = .ok (.dstore 5, 2) := by decide +kernel
theorem d_Pb_lessRow_35 : decode prog_5_method_6_code 35 = .ok (.iinc 7 1, 3) := by decide +kernel
theorem d_Pb_lessRow_38 : decode prog_5_method_6_code 38 = .ok (.goto (-32), 3) := by decide +kernel
theorem d_Pb_lessRow_41 : decode prog_5_method_6_code 41 = .ok (.dload 5, 2) := by decide +kernel
theorem d_Pb_lessRow_43 : decode prog_5_method_6_code 43 = .ok (.dreturn, 1) := by decide +kernel
abbrev w_Pb_lessRow (T : Nat → ClassId) (q0 : Nat) (q0_a : Nat) (q0_b : Nat) (q0_c : Nat) (Rq0_a : Nat → Nat) (q3 : Nat) (n3 : Nat) (vq0_rows : Int32) (vq0_variables : Int32) (vq0_a : Nat → Nat → UInt64) (vq3 : Nat → UInt64) : va_W := [(q0, .inr (0, [.int vq0_rows, .int vq0_variables, .ref q0_a, .ref q0_b, .ref q0_c])), (q0_a, .inl (T 3, 5, .inr (.inr (.inr (.inr (fun i => some (Rq0_a i))))))), (Rq0_a 0, .inl (T 0, 8, .inr (.inr (.inr (.inl (vq0_a 0)))))), (Rq0_a 1, .inl (T 0, 8, .inr (.inr (.inr (.inl (vq0_a 1)))))), (Rq0_a 2, .inl (T 0, 8, .inr (.inr (.inr (.inl (vq0_a 2)))))), (Rq0_a 3, .inl (T 0, 8, .inr (.inr (.inr (.inl (vq0_a 3)))))), (Rq0_a 4, .inl (T 0, 8, .inr (.inr (.inr (.inl (vq0_a 4)))))), (q3, .inl (T 0, n3, .inr (.inr (.inr (.inl vq3)))))]
def s_Pb_lessRow_B6 (n3 : Nat) (vq0_rows : Int32) (vq0_variables : Int32) (vq0_a : Nat → Nat → UInt64) (vq3 : Nat → UInt64) (x3 : Int32) (x5 : UInt64) (x7 : Int32) : Option ((UInt64 × Int32) ⊕ (UInt64)) :=
  if vq0_variables ≤ x7 then (some (.inr x5)) else (gd (inb x3 5) <| gd (inb x7 8) <| gd (inb x7 n3) <| gd (isn (FP.dmul (vq0_a x3.toNatClampNeg x7.toNatClampNeg) (vq3 x7.toNatClampNeg))) <| gd (isn (FP.dsub x5 (FP.dmul (vq0_a x3.toNatClampNeg x7.toNatClampNeg) (vq3 x7.toNatClampNeg)))) <| some (.inl (FP.dsub x5 (FP.dmul (vq0_a x3.toNatClampNeg x7.toNatClampNeg) (vq3 x7.toNatClampNeg)), x7 + 1)))
def s_Pb_lessRow_L6 (n3 : Nat) (vq0_rows : Int32) (vq0_variables : Int32) (vq0_a : Nat → Nat → UInt64) (vq3 : Nat → UInt64) (x3 : Int32) (x5 : UInt64) (x7 : Int32) : Option (UInt64) :=
  (loopO (fun (st : UInt64 × Int32) => s_Pb_lessRow_B6 n3 vq0_rows vq0_variables vq0_a vq3 x3 st.1 st.2) 2000 (x5, x7)).bind fun ul6 => some ul6
def s_Pb_lessRow (n3 : Nat) (vq0_rows : Int32) (vq0_variables : Int32) (vq0_a : Nat → Nat → UInt64) (vq3 : Nat → UInt64) (x1 : UInt64) (x3 : Int32) : Option (UInt64) :=
  s_Pb_lessRow_L6 n3 vq0_rows vq0_variables vq0_a vq3 x3 x1 0
set_option maxHeartbeats 40000000 in
set_option maxRecDepth 100000 in
theorem c_Pb_lessRow (l : Launch) (D : va_G) (T : Nat → ClassId) (q0 : Nat) (q0_a : Nat) (q0_b : Nat) (q0_c : Nat) (Rq0_a : Nat → Nat) (q3 : Nat) (n3 : Nat) (vq0_rows : Int32) (vq0_variables : Int32) (vq0_a : Nat → Nat → UInt64) (vq3 : Nat → UInt64) (x1 : UInt64) (x3 : Int32) (rm : UInt64) (h : s_Pb_lessRow n3 vq0_rows vq0_variables vq0_a vq3 x1 x3 = some rm) : CtD l y_Pb_lessRow (Cond.code y_Pb_lessRow prog_5_method_6_code 8 (some .double) :: BIG) 0 0 D T [.ref q0, .double x1, .int x3, .ref q3] (w_Pb_lessRow T q0 q0_a q0_b q0_c Rq0_a q3 n3 vq0_rows vq0_variables vq0_a vq3) (fun r => r) (fun r => (w_Pb_lessRow T q0 q0_a q0_b q0_c Rq0_a q3 n3 vq0_rows vq0_variables vq0_a vq3)) rm := by
  refine cf_entry (y := y_Pb_lessRow) (cc := prog_5_method_6_code) (nL := 8) (ret := (some .double)) (fr := 0) (lo := 0) (T := T) (av := [.ref q0, .double x1, .int x3, .ref q3]) (w := (w_Pb_lessRow T q0 q0_a q0_b q0_c Rq0_a q3 n3 vq0_rows vq0_variables vq0_a vq3)) (Qc := cfQd D (fun r => r) (fun r => (w_Pb_lessRow T q0 q0_a q0_b q0_c Rq0_a q3 n3 vq0_rows vq0_variables vq0_a vq3)) rm) (by decide) rfl (Nat.le_of_ble_eq_true rfl) ?_
  intro p e s m args below meth c A Q H locs ls hx hb hr hlocks hml hown hts hNW hK hA hQ hP hD hS hl
  have hown : s.vm.findClass "ConeForge$Problem" = some m.cls := hown
  have hl : lv_has ls 8 [(0, .ref q0), (1, .double x1), (3, .int x3), (4, .ref q3)] := hl
  have L6 : ∀ (x3 : Int32) (x5 : UInt64) (x7 : Int32), ∀ (H : Heap) (locs : List Loc) (ls : Array Slot), va_P D CL (w_Pb_lessRow T q0 q0_a q0_b q0_c Rq0_a q3 n3 vq0_rows vq0_variables vq0_a vq3) H → va_D A (w_Pb_lessRow T q0 q0_a q0_b q0_c Rq0_a q3 n3 vq0_rows vq0_variables vq0_a vq3) → va_S A s.heap H locs → lv_has ls 8 [(0, .ref q0), (3, .int x3), (4, .ref q3), (5, .double x5), (7, .int x7)] → s_Pb_lessRow_L6 n3 vq0_rows vq0_variables vq0_a vq3 x3 x5 x7 = some rm → W p l e (rmk 0 0) s m args below meth c H locs 0 0 Q (F0 m 6 ls []) := by
    intro x3 x5 x7 H locs ls hP hD hS hl h
    unfold s_Pb_lessRow_L6 at h
    obtain ⟨ul6, hul6, h⟩ := bi_some h
    refine loopO_W (Wh := fun (st : UInt64 × Int32) => ∀ (H : Heap) (locs : List Loc) (ls : Array Slot), va_P D CL (w_Pb_lessRow T q0 q0_a q0_b q0_c Rq0_a q3 n3 vq0_rows vq0_variables vq0_a vq3) H → va_D A (w_Pb_lessRow T q0 q0_a q0_b q0_c Rq0_a q3 n3 vq0_rows vq0_variables vq0_a vq3) → va_S A s.heap H locs → lv_has ls 8 [(0, .ref q0), (3, .int x3), (4, .ref q3), (5, .double st.1), (7, .int st.2)] → W p l e (rmk 0 0) s m args below meth c H locs 0 0 Q (F0 m 6 ls [])) (Wx := fun (e1 : UInt64) => ∀ (H : Heap) (locs : List Loc) (ls : Array Slot), va_P D CL (w_Pb_lessRow T q0 q0_a q0_b q0_c Rq0_a q3 n3 vq0_rows vq0_variables vq0_a vq3) H → va_D A (w_Pb_lessRow T q0 q0_a q0_b q0_c Rq0_a q3 n3 vq0_rows vq0_variables vq0_a vq3) → va_S A s.heap H locs → lv_has ls 8 [(5, .double e1)] → W p l e (rmk 0 0) s m args below meth c H locs 0 0 Q (F0 m 41 ls [])) ?_ 2000 _ ul6 hul6 ?_ H locs ls hP hD hS hl
    · intro st rb6 h kc6 kx6 H locs ls hP hD hS hl
      obtain ⟨x5, x7⟩ := st
      have h : s_Pb_lessRow_B6 n3 vq0_rows vq0_variables vq0_a vq3 x3 x5 x7 = some rb6 := h
      unfold s_Pb_lessRow_B6 at h
      refine lv_iload hx hb d_Pb_lessRow_6 (lv_at hl 4 rfl) ?_
      refine lv_aload_n hx hb d_Pb_lessRow_8 rfl (lv_at hl 0 rfl) ?_
      refine va_get (D := D) (ci := 0) (v := .int vq0_variables) (C := "ConeForge$Problem") (T := FPb) (N := 5) hx hb hts iPb hown hK hP 0 rfl rfl 1 (by decide) (hts _ (bgc bw130)) (fun _ h9 => h9) rfl d_Pb_lessRow_9 ?_
      refine lv_icmp_ge (tgt := 41) hx hb d_Pb_lessRow_12 (by decide) (fun c1 => ?_) (fun c1 => ?_)
      · have h := it_t c1 h
        exact kx6 _ (Option.some.inj h).symm H locs ls hP hD hS (lv_sub hl [3] rfl)
      · have h := it_f c1 h
        refine lv_dload hx hb d_Pb_lessRow_15 (lv_at hl 3 rfl) ?_
        refine lv_aload_n hx hb d_Pb_lessRow_17 rfl (lv_at hl 0 rfl) ?_
        refine va_get (D := D) (ci := 0) (v := .ref q0_a) (C := "ConeForge$Problem") (T := FPb) (N := 5) hx hb hts iPb hown hK hP 0 rfl rfl 2 (by decide) (hts _ (bgc bw131)) (fun _ h9 => h9) rfl d_Pb_lessRow_18 ?_
        refine lv_iload_n hx hb d_Pb_lessRow_21 rfl (lv_at hl 1 rfl) ?_
        obtain ⟨g2, h⟩ := gd_some h
        refine va_aldg (f := Rq0_a) hx hb hK hP 1 3 rfl rfl (inb_in g2) d_Pb_lessRow_22 ?_
        refine lv_iload hx hb d_Pb_lessRow_23 (lv_at hl 4 rfl) ?_
        obtain ⟨g3, h⟩ := gd_some h
        refine va_dald hx hb hK hP (2 + x3.toNatClampNeg) 0 (gk5 (P := fun k => (w_Pb_lessRow T q0 q0_a q0_b q0_c Rq0_a q3 n3 vq0_rows vq0_variables vq0_a vq3)[2 + k]? = some (Rq0_a k, .inl (T 0, 8, .inr (.inr (.inr (.inl (vq0_a k))))))) rfl rfl rfl rfl rfl _ (inb_lt g2)) rfl (inb_in g3) d_Pb_lessRow_25 ?_
        refine lv_aload hx hb d_Pb_lessRow_26 (lv_at hl 2 rfl) ?_
        refine lv_iload hx hb d_Pb_lessRow_28 (lv_at hl 4 rfl) ?_
        obtain ⟨g4, h⟩ := gd_some h
        refine va_dald hx hb hK hP 7 0 rfl rfl (inb_in g4) d_Pb_lessRow_30 ?_
        obtain ⟨g5, h⟩ := gd_some h
        refine lv_dmul hx hb d_Pb_lessRow_31 (isn_n g5) ?_
        obtain ⟨g6, h⟩ := gd_some h
        refine lv_dsub hx hb d_Pb_lessRow_32 (isn_n g6) ?_
        refine lv_dstore (lv' := [(5, .double (FP.dsub x5 (FP.dmul (vq0_a x3.toNatClampNeg x7.toNatClampNeg) (vq3 x7.toNatClampNeg)))), (0, .ref q0), (3, .int x3), (4, .ref q3), (7, .int x7)]) hx hb d_Pb_lessRow_33 hl (by decide) rfl (fun ls hl => ?_)
        refine lv_iinc (v := x7 + 1) (lv' := [(7, .int (x7 + 1)), (5, .double (FP.dsub x5 (FP.dmul (vq0_a x3.toNatClampNeg x7.toNatClampNeg) (vq3 x7.toNatClampNeg)))), (0, .ref q0), (3, .int x3), (4, .ref q3)]) hx hb d_Pb_lessRow_35 hl (k := 4) rfl rfl (by decide) rfl (fun ls hl => ?_)
        refine lv_goto (tgt := 6) hx hb d_Pb_lessRow_38 (by decide) ?_
        exact kc6 _ (Option.some.inj h).symm H locs ls hP hD hS (lv_sub hl [2, 3, 4, 1, 0] rfl)
    · intro H locs ls hP hD hS hl
      refine lv_dload hx hb d_Pb_lessRow_41 (lv_at hl 0 rfl) ?_
      exact rtD hx hb hr hlocks hQ (Option.some.inj h) hP hS d_Pb_lessRow_43 rfl rfl
  unfold s_Pb_lessRow at h
  refine lv_dload_n hx hb d_Pb_lessRow_0 rfl (lv_at hl 1 rfl) ?_
  refine lv_dstore (lv' := [(5, .double x1), (0, .ref q0), (1, .double x1), (3, .int x3), (4, .ref q3)]) hx hb d_Pb_lessRow_1 hl (by decide) rfl (fun ls hl => ?_)
  refine lv_iconst (v := 0) hx hb d_Pb_lessRow_3 (by decide) ?_
  refine lv_istore (lv' := [(7, .int 0), (5, .double x1), (0, .ref q0), (1, .double x1), (3, .int x3), (4, .ref q3)]) hx hb d_Pb_lessRow_4 hl (by decide) rfl (fun ls hl => ?_)
  exact L6 x3 x1 0 H locs ls hP hD hS (lv_sub hl [2, 4, 5, 1, 0] rfl) h
theorem d_Pb_lessColumn_0 : decode prog_5_method_8_code 0 = .ok (.dload_n 1, 1) := by decide +kernel
theorem d_Pb_lessColumn_1 : decode prog_5_method_8_code 1 = .ok (.dstore 5, 2) := by decide +kernel
theorem d_Pb_lessColumn_3 : decode prog_5_method_8_code 3 = .ok (.iconst 0, 1) := by decide +kernel
theorem d_Pb_lessColumn_4 : decode prog_5_method_8_code 4 = .ok (.istore 7, 2) := by decide +kernel
theorem d_Pb_lessColumn_6 : decode prog_5_method_8_code 6 = .ok (.iload 7, 2) := by decide +kernel
theorem d_Pb_lessColumn_8 : decode prog_5_method_8_code 8 = .ok (.aload_n 0, 1) := by decide +kernel
theorem d_Pb_lessColumn_9 : decode prog_5_method_8_code 9 = .ok (.getfield 9, 3) := by decide +kernel
theorem d_Pb_lessColumn_12 : decode prog_5_method_8_code 12 = .ok (.if_icmp .ge 29, 3) := by decide +kernel
theorem d_Pb_lessColumn_15 : decode prog_5_method_8_code 15 = .ok (.dload 5, 2) := by decide +kernel
theorem d_Pb_lessColumn_17 : decode prog_5_method_8_code 17 = .ok (.aload_n 0, 1) := by decide +kernel
theorem d_Pb_lessColumn_18 : decode prog_5_method_8_code 18 = .ok (.getfield 20, 3) := by decide +kernel
theorem d_Pb_lessColumn_21 : decode prog_5_method_8_code 21 = .ok (.iload 7, 2) := by decide +kernel
theorem d_Pb_lessColumn_23 : decode prog_5_method_8_code 23 = .ok (.aaload, 1) := by decide +kernel
theorem d_Pb_lessColumn_24 : decode prog_5_method_8_code 24 = .ok (.iload_n 3, 1) := by decide +kernel
theorem d_Pb_lessColumn_25 : decode prog_5_method_8_code 25 = .ok (.daload, 1) := by decide +kernel
theorem d_Pb_lessColumn_26 : decode prog_5_method_8_code 26 = .ok (.aload 4, 2) := by decide +kernel
theorem d_Pb_lessColumn_28 : decode prog_5_method_8_code 28 = .ok (.iload 7, 2) := by decide +kernel
theorem d_Pb_lessColumn_30 : decode prog_5_method_8_code 30 = .ok (.daload, 1) := by decide +kernel
theorem d_Pb_lessColumn_31 : decode prog_5_method_8_code 31 = .ok (.dmul, 1) := by decide +kernel
theorem d_Pb_lessColumn_32 : decode prog_5_method_8_code 32 = .ok (.dsub, 1) := by decide +kernel
theorem d_Pb_lessColumn_33 : decode prog_5_method_8_code 33 = .ok (.dstore 5, 2) := by decide +kernel
theorem d_Pb_lessColumn_35 : decode prog_5_method_8_code 35 = .ok (.iinc 7 1, 3) := by decide +kernel
theorem d_Pb_lessColumn_38 : decode prog_5_method_8_code 38 = .ok (.goto (-32), 3) := by decide +kernel
theorem d_Pb_lessColumn_41 : decode prog_5_method_8_code 41 = .ok (.dload 5, 2) := by decide +kernel
theorem d_Pb_lessColumn_43 : decode prog_5_method_8_code 43 = .ok (.dreturn, 1) := by decide +kernel
abbrev w_Pb_lessColumn (T : Nat → ClassId) (q0 : Nat) (q0_a : Nat) (q0_b : Nat) (q0_c : Nat) (Rq0_a : Nat → Nat) (q3 : Nat) (n3 : Nat) (vq0_rows : Int32) (vq0_variables : Int32) (vq0_a : Nat → Nat → UInt64) (vq3 : Nat → UInt64) : va_W := [(q0, .inr (0, [.int vq0_rows, .int vq0_variables, .ref q0_a, .ref q0_b, .ref q0_c])), (q0_a, .inl (T 3, 5, .inr (.inr (.inr (.inr (fun i => some (Rq0_a i))))))), (Rq0_a 0, .inl (T 0, 8, .inr (.inr (.inr (.inl (vq0_a 0)))))), (Rq0_a 1, .inl (T 0, 8, .inr (.inr (.inr (.inl (vq0_a 1)))))), (Rq0_a 2, .inl (T 0, 8, .inr (.inr (.inr (.inl (vq0_a 2)))))), (Rq0_a 3, .inl (T 0, 8, .inr (.inr (.inr (.inl (vq0_a 3)))))), (Rq0_a 4, .inl (T 0, 8, .inr (.inr (.inr (.inl (vq0_a 4)))))), (q3, .inl (T 0, n3, .inr (.inr (.inr (.inl vq3)))))]
def s_Pb_lessColumn_B6 (n3 : Nat) (vq0_rows : Int32) (vq0_variables : Int32) (vq0_a : Nat → Nat → UInt64) (vq3 : Nat → UInt64) (x3 : Int32) (x5 : UInt64) (x7 : Int32) : Option ((UInt64 × Int32) ⊕ (UInt64)) :=
  if vq0_rows ≤ x7 then (some (.inr x5)) else (gd (inb x7 5) <| gd (inb x3 8) <| gd (inb x7 n3) <| gd (isn (FP.dmul (vq0_a x7.toNatClampNeg x3.toNatClampNeg) (vq3 x7.toNatClampNeg))) <| gd (isn (FP.dsub x5 (FP.dmul (vq0_a x7.toNatClampNeg x3.toNatClampNeg) (vq3 x7.toNatClampNeg)))) <| some (.inl (FP.dsub x5 (FP.dmul (vq0_a x7.toNatClampNeg x3.toNatClampNeg) (vq3 x7.toNatClampNeg)), x7 + 1)))
def s_Pb_lessColumn_L6 (n3 : Nat) (vq0_rows : Int32) (vq0_variables : Int32) (vq0_a : Nat → Nat → UInt64) (vq3 : Nat → UInt64) (x3 : Int32) (x5 : UInt64) (x7 : Int32) : Option (UInt64) :=
  (loopO (fun (st : UInt64 × Int32) => s_Pb_lessColumn_B6 n3 vq0_rows vq0_variables vq0_a vq3 x3 st.1 st.2) 2000 (x5, x7)).bind fun ul6 => some ul6
def s_Pb_lessColumn (n3 : Nat) (vq0_rows : Int32) (vq0_variables : Int32) (vq0_a : Nat → Nat → UInt64) (vq3 : Nat → UInt64) (x1 : UInt64) (x3 : Int32) : Option (UInt64) :=
  s_Pb_lessColumn_L6 n3 vq0_rows vq0_variables vq0_a vq3 x3 x1 0
set_option maxHeartbeats 40000000 in
set_option maxRecDepth 100000 in
theorem c_Pb_lessColumn (l : Launch) (D : va_G) (T : Nat → ClassId) (q0 : Nat) (q0_a : Nat) (q0_b : Nat) (q0_c : Nat) (Rq0_a : Nat → Nat) (q3 : Nat) (n3 : Nat) (vq0_rows : Int32) (vq0_variables : Int32) (vq0_a : Nat → Nat → UInt64) (vq3 : Nat → UInt64) (x1 : UInt64) (x3 : Int32) (rm : UInt64) (h : s_Pb_lessColumn n3 vq0_rows vq0_variables vq0_a vq3 x1 x3 = some rm) : CtD l y_Pb_lessColumn (Cond.code y_Pb_lessColumn prog_5_method_8_code 8 (some .double) :: BIG) 0 0 D T [.ref q0, .double x1, .int x3, .ref q3] (w_Pb_lessColumn T q0 q0_a q0_b q0_c Rq0_a q3 n3 vq0_rows vq0_variables vq0_a vq3) (fun r => r) (fun r => (w_Pb_lessColumn T q0 q0_a q0_b q0_c Rq0_a q3 n3 vq0_rows vq0_variables vq0_a vq3)) rm := by
  refine cf_entry (y := y_Pb_lessColumn) (cc := prog_5_method_8_code) (nL := 8) (ret := (some .double)) (fr := 0) (lo := 0) (T := T) (av := [.ref q0, .double x1, .int x3, .ref q3]) (w := (w_Pb_lessColumn T q0 q0_a q0_b q0_c Rq0_a q3 n3 vq0_rows vq0_variables vq0_a vq3)) (Qc := cfQd D (fun r => r) (fun r => (w_Pb_lessColumn T q0 q0_a q0_b q0_c Rq0_a q3 n3 vq0_rows vq0_variables vq0_a vq3)) rm) (by decide) rfl (Nat.le_of_ble_eq_true rfl) ?_
  intro p e s m args below meth c A Q H locs ls hx hb hr hlocks hml hown hts hNW hK hA hQ hP hD hS hl
  have hown : s.vm.findClass "ConeForge$Problem" = some m.cls := hown
  have hl : lv_has ls 8 [(0, .ref q0), (1, .double x1), (3, .int x3), (4, .ref q3)] := hl
  have L6 : ∀ (x3 : Int32) (x5 : UInt64) (x7 : Int32), ∀ (H : Heap) (locs : List Loc) (ls : Array Slot), va_P D CL (w_Pb_lessColumn T q0 q0_a q0_b q0_c Rq0_a q3 n3 vq0_rows vq0_variables vq0_a vq3) H → va_D A (w_Pb_lessColumn T q0 q0_a q0_b q0_c Rq0_a q3 n3 vq0_rows vq0_variables vq0_a vq3) → va_S A s.heap H locs → lv_has ls 8 [(0, .ref q0), (3, .int x3), (4, .ref q3), (5, .double x5), (7, .int x7)] → s_Pb_lessColumn_L6 n3 vq0_rows vq0_variables vq0_a vq3 x3 x5 x7 = some rm → W p l e (rmk 0 0) s m args below meth c H locs 0 0 Q (F0 m 6 ls []) := by
    intro x3 x5 x7 H locs ls hP hD hS hl h
    unfold s_Pb_lessColumn_L6 at h
    obtain ⟨ul6, hul6, h⟩ := bi_some h
    refine loopO_W (Wh := fun (st : UInt64 × Int32) => ∀ (H : Heap) (locs : List Loc) (ls : Array Slot), va_P D CL (w_Pb_lessColumn T q0 q0_a q0_b q0_c Rq0_a q3 n3 vq0_rows vq0_variables vq0_a vq3) H → va_D A (w_Pb_lessColumn T q0 q0_a q0_b q0_c Rq0_a q3 n3 vq0_rows vq0_variables vq0_a vq3) → va_S A s.heap H locs → lv_has ls 8 [(0, .ref q0), (3, .int x3), (4, .ref q3), (5, .double st.1), (7, .int st.2)] → W p l e (rmk 0 0) s m args below meth c H locs 0 0 Q (F0 m 6 ls [])) (Wx := fun (e1 : UInt64) => ∀ (H : Heap) (locs : List Loc) (ls : Array Slot), va_P D CL (w_Pb_lessColumn T q0 q0_a q0_b q0_c Rq0_a q3 n3 vq0_rows vq0_variables vq0_a vq3) H → va_D A (w_Pb_lessColumn T q0 q0_a q0_b q0_c Rq0_a q3 n3 vq0_rows vq0_variables vq0_a vq3) → va_S A s.heap H locs → lv_has ls 8 [(5, .double e1)] → W p l e (rmk 0 0) s m args below meth c H locs 0 0 Q (F0 m 41 ls [])) ?_ 2000 _ ul6 hul6 ?_ H locs ls hP hD hS hl
    · intro st rb6 h kc6 kx6 H locs ls hP hD hS hl
      obtain ⟨x5, x7⟩ := st
      have h : s_Pb_lessColumn_B6 n3 vq0_rows vq0_variables vq0_a vq3 x3 x5 x7 = some rb6 := h
      unfold s_Pb_lessColumn_B6 at h
      refine lv_iload hx hb d_Pb_lessColumn_6 (lv_at hl 4 rfl) ?_
      refine lv_aload_n hx hb d_Pb_lessColumn_8 rfl (lv_at hl 0 rfl) ?_
      refine va_get (D := D) (ci := 0) (v := .int vq0_rows) (C := "ConeForge$Problem") (T := FPb) (N := 5) hx hb hts iPb hown hK hP 0 rfl rfl 0 (by decide) (hts _ (bgc bw129)) (fun _ h9 => h9) rfl d_Pb_lessColumn_9 ?_
      refine lv_icmp_ge (tgt := 41) hx hb d_Pb_lessColumn_12 (by decide) (fun c1 => ?_) (fun c1 => ?_)
      · have h := it_t c1 h
        exact kx6 _ (Option.some.inj h).symm H locs ls hP hD hS (lv_sub hl [3] rfl)
      · have h := it_f c1 h
        refine lv_dload hx hb d_Pb_lessColumn_15 (lv_at hl 3 rfl) ?_
        refine lv_aload_n hx hb d_Pb_lessColumn_17 rfl (lv_at hl 0 rfl) ?_
        refine va_get (D := D) (ci := 0) (v := .ref q0_a) (C := "ConeForge$Problem") (T := FPb) (N := 5) hx hb hts iPb hown hK hP 0 rfl rfl 2 (by decide) (hts _ (bgc bw131)) (fun _ h9 => h9) rfl d_Pb_lessColumn_18 ?_
        refine lv_iload hx hb d_Pb_lessColumn_21 (lv_at hl 4 rfl) ?_
        obtain ⟨g2, h⟩ := gd_some h
        refine va_aldg (f := Rq0_a) hx hb hK hP 1 3 rfl rfl (inb_in g2) d_Pb_lessColumn_23 ?_
        refine lv_iload_n hx hb d_Pb_lessColumn_24 rfl (lv_at hl 1 rfl) ?_
        obtain ⟨g3, h⟩ := gd_some h
        refine va_dald hx hb hK hP (2 + x7.toNatClampNeg) 0 (gk5 (P := fun k => (w_Pb_lessColumn T q0 q0_a q0_b q0_c Rq0_a q3 n3 vq0_rows vq0_variables vq0_a vq3)[2 + k]? = some (Rq0_a k, .inl (T 0, 8, .inr (.inr (.inr (.inl (vq0_a k))))))) rfl rfl rfl rfl rfl _ (inb_lt g2)) rfl (inb_in g3) d_Pb_lessColumn_25 ?_
        refine lv_aload hx hb d_Pb_lessColumn_26 (lv_at hl 2 rfl) ?_
        refine lv_iload hx hb d_Pb_lessColumn_28 (lv_at hl 4 rfl) ?_
        obtain ⟨g4, h⟩ := gd_some h
        refine va_dald hx hb hK hP 7 0 rfl rfl (inb_in g4) d_Pb_lessColumn_30 ?_
        obtain ⟨g5, h⟩ := gd_some h
        refine lv_dmul hx hb d_Pb_lessColumn_31 (isn_n g5) ?_
        obtain ⟨g6, h⟩ := gd_some h
        refine lv_dsub hx hb d_Pb_lessColumn_32 (isn_n g6) ?_
        refine lv_dstore (lv' := [(5, .double (FP.dsub x5 (FP.dmul (vq0_a x7.toNatClampNeg x3.toNatClampNeg) (vq3 x7.toNatClampNeg)))), (0, .ref q0), (3, .int x3), (4, .ref q3), (7, .int x7)]) hx hb d_Pb_lessColumn_33 hl (by decide) rfl (fun ls hl => ?_)
        refine lv_iinc (v := x7 + 1) (lv' := [(7, .int (x7 + 1)), (5, .double (FP.dsub x5 (FP.dmul (vq0_a x7.toNatClampNeg x3.toNatClampNeg) (vq3 x7.toNatClampNeg)))), (0, .ref q0), (3, .int x3), (4, .ref q3)]) hx hb d_Pb_lessColumn_35 hl (k := 4) rfl rfl (by decide) rfl (fun ls hl => ?_)
        refine lv_goto (tgt := 6) hx hb d_Pb_lessColumn_38 (by decide) ?_
        exact kc6 _ (Option.some.inj h).symm H locs ls hP hD hS (lv_sub hl [2, 3, 4, 1, 0] rfl)
    · intro H locs ls hP hD hS hl
      refine lv_dload hx hb d_Pb_lessColumn_41 (lv_at hl 0 rfl) ?_
      exact rtD hx hb hr hlocks hQ (Option.some.inj h) hP hS d_Pb_lessColumn_43 rfl rfl
  unfold s_Pb_lessColumn at h
  refine lv_dload_n hx hb d_Pb_lessColumn_0 rfl (lv_at hl 1 rfl) ?_
  refine lv_dstore (lv' := [(5, .double x1), (0, .ref q0), (1, .double x1), (3, .int x3), (4, .ref q3)]) hx hb d_Pb_lessColumn_1 hl (by decide) rfl (fun ls hl => ?_)
  refine lv_iconst (v := 0) hx hb d_Pb_lessColumn_3 (by decide) ?_
  refine lv_istore (lv' := [(7, .int 0), (5, .double x1), (0, .ref q0), (1, .double x1), (3, .int x3), (4, .ref q3)]) hx hb d_Pb_lessColumn_4 hl (by decide) rfl (fun ls hl => ?_)
  exact L6 x3 x1 0 H locs ls hP hD hS (lv_sub hl [2, 4, 5, 1, 0] rfl) h
theorem d_Pb_product_0 : decode prog_5_method_11_code 0 = .ok (.dconst 0, 1) := by decide +kernel
theorem d_Pb_product_1 : decode prog_5_method_11_code 1 = .ok (.dstore_n 3, 1) := by decide +kernel
theorem d_Pb_product_2 : decode prog_5_method_11_code 2 = .ok (.iconst 0, 1) := by decide +kernel
theorem d_Pb_product_3 : decode prog_5_method_11_code 3 = .ok (.istore 5, 2) := by decide +kernel
theorem d_Pb_product_5 : decode prog_5_method_11_code 5 = .ok (.iload 5, 2) := by decide +kernel
theorem d_Pb_product_7 : decode prog_5_method_11_code 7 = .ok (.iload_n 2, 1) := by decide +kernel
theorem d_Pb_product_8 : decode prog_5_method_11_code 8 = .ok (.if_icmp .ge 21, 3) := by decide +kernel
theorem d_Pb_product_11 : decode prog_5_method_11_code 11 = .ok (.dload_n 3, 1) := by decide +kernel
theorem d_Pb_product_12 : decode prog_5_method_11_code 12 = .ok (.aload_n 0, 1) := by decide +kernel
theorem d_Pb_product_13 : decode prog_5_method_11_code 13 = .ok (.iload 5, 2) := by decide +kernel
theorem d_Pb_product_15 : decode prog_5_method_11_code 15 = .ok (.daload, 1) := by decide +kernel
theorem d_Pb_product_16 : decode prog_5_method_11_code 16 = .ok (.aload_n 1, 1) := by decide +kernel
theorem d_Pb_product_17 : decode prog_5_method_11_code 17 = .ok (.iload 5, 2) := by decide +kernel
theorem d_Pb_product_19 : decode prog_5_method_11_code 19 = .ok (.daload, 1) := by decide +kernel
theorem d_Pb_product_20 : decode prog_5_method_11_code 20 = .ok (.dmul, 1) := by decide +kernel
theorem d_Pb_product_21 : decode prog_5_method_11_code 21 = .ok (.dadd, 1) := by decide +kernel
theorem d_Pb_product_22 : decode prog_5_method_11_code 22 = .ok (.dstore_n 3, 1) := by decide +kernel
theorem d_Pb_product_23 : decode prog_5_method_11_code 23 = .ok (.iinc 5 1, 3) := by decide +kernel
theorem d_Pb_product_26 : decode prog_5_method_11_code 26 = .ok (.goto (-21), 3) := by decide +kernel
theorem d_Pb_product_29 : decode prog_5_method_11_code 29 = .ok (.dload_n 3, 1) := by decide +kernel
theorem d_Pb_product_30 : decode prog_5_method_11_code 30 = .ok (.dreturn, 1) := by decide +kernel
abbrev w_Pb_product (T : Nat → ClassId) (q0 : Nat) (q1 : Nat) (n0 : Nat) (n1 : Nat) (vq0 : Nat → UInt64) (vq1 : Nat → UInt64) : va_W := [(q0, .inl (T 0, n0, .inr (.inr (.inr (.inl vq0))))), (q1, .inl (T 0, n1, .inr (.inr (.inr (.inl vq1)))))]
def s_Pb_product_B5 (n0 : Nat) (n1 : Nat) (vq0 : Nat → UInt64) (vq1 : Nat → UInt64) (x2 : Int32) (x3 : UInt64) (x5 : Int32) : Option ((UInt64 × Int32) ⊕ (UInt64)) :=
  if x2 ≤ x5 then (some (.inr x3)) else (gd (inb x5 n0) <| gd (inb x5 n1) <| gd (isn (FP.dmul (vq0 x5.toNatClampNeg) (vq1 x5.toNatClampNeg))) <| gd (isn (FP.dadd x3 (FP.dmul (vq0 x5.toNatClampNeg) (vq1 x5.toNatClampNeg)))) <| some (.inl (FP.dadd x3 (FP.dmul (vq0 x5.toNatClampNeg) (vq1 x5.toNatClampNeg)), x5 + 1)))
def s_Pb_product_L5 (n0 : Nat) (n1 : Nat) (vq0 : Nat → UInt64) (vq1 : Nat → UInt64) (x2 : Int32) (x3 : UInt64) (x5 : Int32) : Option (UInt64) :=
  (loopO (fun (st : UInt64 × Int32) => s_Pb_product_B5 n0 n1 vq0 vq1 x2 st.1 st.2) 2000 (x3, x5)).bind fun ul5 => some ul5
def s_Pb_product (n0 : Nat) (n1 : Nat) (vq0 : Nat → UInt64) (vq1 : Nat → UInt64) (x2 : Int32) : Option (UInt64) :=
  s_Pb_product_L5 n0 n1 vq0 vq1 x2 FP.dconst0 0
set_option maxHeartbeats 40000000 in
set_option maxRecDepth 100000 in
theorem c_Pb_product (l : Launch) (D : va_G) (T : Nat → ClassId) (q0 : Nat) (q1 : Nat) (n0 : Nat) (n1 : Nat) (vq0 : Nat → UInt64) (vq1 : Nat → UInt64) (x2 : Int32) (rm : UInt64) (h : s_Pb_product n0 n1 vq0 vq1 x2 = some rm) : CtD l y_Pb_product (Cond.code y_Pb_product prog_5_method_11_code 6 (some .double) :: BIG) 0 0 D T [.ref q0, .ref q1, .int x2] (w_Pb_product T q0 q1 n0 n1 vq0 vq1) (fun r => r) (fun r => (w_Pb_product T q0 q1 n0 n1 vq0 vq1)) rm := by
  refine cf_entry (y := y_Pb_product) (cc := prog_5_method_11_code) (nL := 6) (ret := (some .double)) (fr := 0) (lo := 0) (T := T) (av := [.ref q0, .ref q1, .int x2]) (w := (w_Pb_product T q0 q1 n0 n1 vq0 vq1)) (Qc := cfQd D (fun r => r) (fun r => (w_Pb_product T q0 q1 n0 n1 vq0 vq1)) rm) (by decide) rfl (Nat.le_of_ble_eq_true rfl) ?_
  intro p e s m args below meth c A Q H locs ls hx hb hr hlocks hml hown hts hNW hK hA hQ hP hD hS hl
  have hown : s.vm.findClass "ConeForge$Problem" = some m.cls := hown
  have hl : lv_has ls 6 [(0, .ref q0), (1, .ref q1), (2, .int x2)] := hl
  have L5 : ∀ (x2 : Int32) (x3 : UInt64) (x5 : Int32), ∀ (H : Heap) (locs : List Loc) (ls : Array Slot), va_P D CL (w_Pb_product T q0 q1 n0 n1 vq0 vq1) H → va_D A (w_Pb_product T q0 q1 n0 n1 vq0 vq1) → va_S A s.heap H locs → lv_has ls 6 [(0, .ref q0), (1, .ref q1), (2, .int x2), (3, .double x3), (5, .int x5)] → s_Pb_product_L5 n0 n1 vq0 vq1 x2 x3 x5 = some rm → W p l e (rmk 0 0) s m args below meth c H locs 0 0 Q (F0 m 5 ls []) := by
    intro x2 x3 x5 H locs ls hP hD hS hl h
    unfold s_Pb_product_L5 at h
    obtain ⟨ul5, hul5, h⟩ := bi_some h
    refine loopO_W (Wh := fun (st : UInt64 × Int32) => ∀ (H : Heap) (locs : List Loc) (ls : Array Slot), va_P D CL (w_Pb_product T q0 q1 n0 n1 vq0 vq1) H → va_D A (w_Pb_product T q0 q1 n0 n1 vq0 vq1) → va_S A s.heap H locs → lv_has ls 6 [(0, .ref q0), (1, .ref q1), (2, .int x2), (3, .double st.1), (5, .int st.2)] → W p l e (rmk 0 0) s m args below meth c H locs 0 0 Q (F0 m 5 ls [])) (Wx := fun (e1 : UInt64) => ∀ (H : Heap) (locs : List Loc) (ls : Array Slot), va_P D CL (w_Pb_product T q0 q1 n0 n1 vq0 vq1) H → va_D A (w_Pb_product T q0 q1 n0 n1 vq0 vq1) → va_S A s.heap H locs → lv_has ls 6 [(3, .double e1)] → W p l e (rmk 0 0) s m args below meth c H locs 0 0 Q (F0 m 29 ls [])) ?_ 2000 _ ul5 hul5 ?_ H locs ls hP hD hS hl
    · intro st rb5 h kc5 kx5 H locs ls hP hD hS hl
      obtain ⟨x3, x5⟩ := st
      have h : s_Pb_product_B5 n0 n1 vq0 vq1 x2 x3 x5 = some rb5 := h
      unfold s_Pb_product_B5 at h
      refine lv_iload hx hb d_Pb_product_5 (lv_at hl 4 rfl) ?_
      refine lv_iload_n hx hb d_Pb_product_7 rfl (lv_at hl 2 rfl) ?_
      refine lv_icmp_ge (tgt := 29) hx hb d_Pb_product_8 (by decide) (fun c1 => ?_) (fun c1 => ?_)
      · have h := it_t c1 h
        exact kx5 _ (Option.some.inj h).symm H locs ls hP hD hS (lv_sub hl [3] rfl)
      · have h := it_f c1 h
        refine lv_dload_n hx hb d_Pb_product_11 rfl (lv_at hl 3 rfl) ?_
        refine lv_aload_n hx hb d_Pb_product_12 rfl (lv_at hl 0 rfl) ?_
        refine lv_iload hx hb d_Pb_product_13 (lv_at hl 4 rfl) ?_
        obtain ⟨g2, h⟩ := gd_some h
        refine va_dald hx hb hK hP 0 0 rfl rfl (inb_in g2) d_Pb_product_15 ?_
        refine lv_aload_n hx hb d_Pb_product_16 rfl (lv_at hl 1 rfl) ?_
        refine lv_iload hx hb d_Pb_product_17 (lv_at hl 4 rfl) ?_
        obtain ⟨g3, h⟩ := gd_some h
        refine va_dald hx hb hK hP 1 0 rfl rfl (inb_in g3) d_Pb_product_19 ?_
        obtain ⟨g4, h⟩ := gd_some h
        refine lv_dmul hx hb d_Pb_product_20 (isn_n g4) ?_
        obtain ⟨g5, h⟩ := gd_some h
        refine lv_dadd hx hb d_Pb_product_21 (isn_n g5) ?_
        refine lv_dstore_n (lv' := [(3, .double (FP.dadd x3 (FP.dmul (vq0 x5.toNatClampNeg) (vq1 x5.toNatClampNeg)))), (0, .ref q0), (1, .ref q1), (2, .int x2), (5, .int x5)]) hx hb d_Pb_product_22 rfl hl (by decide) rfl (fun ls hl => ?_)
        refine lv_iinc (v := x5 + 1) (lv' := [(5, .int (x5 + 1)), (3, .double (FP.dadd x3 (FP.dmul (vq0 x5.toNatClampNeg) (vq1 x5.toNatClampNeg)))), (0, .ref q0), (1, .ref q1), (2, .int x2)]) hx hb d_Pb_product_23 hl (k := 4) rfl rfl (by decide) rfl (fun ls hl => ?_)
        refine lv_goto (tgt := 5) hx hb d_Pb_product_26 (by decide) ?_
        exact kc5 _ (Option.some.inj h).symm H locs ls hP hD hS (lv_sub hl [2, 3, 4, 1, 0] rfl)
    · intro H locs ls hP hD hS hl
      refine lv_dload_n hx hb d_Pb_product_29 rfl (lv_at hl 0 rfl) ?_
      exact rtD hx hb hr hlocks hQ (Option.some.inj h) hP hS d_Pb_product_30 rfl rfl
  unfold s_Pb_product at h
  refine lv_dconst0 hx hb d_Pb_product_0 ?_
  refine lv_dstore_n (lv' := [(3, .double FP.dconst0), (0, .ref q0), (1, .ref q1), (2, .int x2)]) hx hb d_Pb_product_1 rfl hl (by decide) rfl (fun ls hl => ?_)
  refine lv_iconst (v := 0) hx hb d_Pb_product_2 (by decide) ?_
  refine lv_istore (lv' := [(5, .int 0), (3, .double FP.dconst0), (0, .ref q0), (1, .ref q1), (2, .int x2)]) hx hb d_Pb_product_3 hl (by decide) rfl (fun ls hl => ?_)
  exact L5 x2 FP.dconst0 0 H locs ls hP hD hS (lv_sub hl [2, 3, 4, 1, 0] rfl) h
theorem d_Pb_costOf_0 : decode prog_5_method_9_code 0 = .ok (.aload_n 0, 1) := by decide +kernel
theorem d_Pb_costOf_1 : decode prog_5_method_9_code 1 = .ok (.getfield 27, 3) := by decide +kernel
theorem d_Pb_costOf_4 : decode prog_5_method_9_code 4 = .ok (.aload_n 1, 1) := by decide +kernel
theorem d_Pb_costOf_5 : decode prog_5_method_9_code 5 = .ok (.aload_n 0, 1) := by decide +kernel
theorem d_Pb_costOf_6 : decode prog_5_method_9_code 6 = .ok (.getfield 15, 3) := by decide +kernel
theorem d_Pb_costOf_9 : decode prog_5_method_9_code 9 = .ok (.invokestatic 42, 3) := by decide +kernel
theorem d_Pb_costOf_12 : decode prog_5_method_9_code 12 = .ok (.dreturn, 1) := by decide +kernel
abbrev w_Pb_costOf (T : Nat → ClassId) (q0 : Nat) (q0_a : Nat) (q0_b : Nat) (q0_c : Nat) (q1 : Nat) (n1 : Nat) (vq0_rows : Int32) (vq0_variables : Int32) (vq0_c : Nat → UInt64) (vq1 : Nat → UInt64) : va_W := [(q0, .inr (0, [.int vq0_rows, .int vq0_variables, .ref q0_a, .ref q0_b, .ref q0_c])), (q0_c, .inl (T 0, 8, .inr (.inr (.inr (.inl vq0_c))))), (q1, .inl (T 0, n1, .inr (.inr (.inr (.inl vq1)))))]
def s_Pb_costOf (n1 : Nat) (vq0_rows : Int32) (vq0_variables : Int32) (vq0_c : Nat → UInt64) (vq1 : Nat → UInt64) : Option (UInt64) :=
  (s_Pb_product 8 n1 vq0_c vq1 vq0_variables).bind fun u1 => some u1
set_option maxRecDepth 100000 in
theorem j_Pb_costOf_9 (T : Nat → ClassId) (q0 : Nat) (q0_a : Nat) (q0_b : Nat) (q0_c : Nat) (q1 : Nat) (n1 : Nat) (vq0_rows : Int32) (vq0_variables : Int32) (vq0_c : Nat → UInt64) (vq1 : Nat → UInt64) : ([1, 2].map (fun (i : Nat) => (w_Pb_costOf T q0 q0_a q0_b q0_c q1 n1 vq0_rows vq0_variables vq0_c vq1)[i]?) = (w_Pb_product T q0_c q1 8 n1 vq0_c vq1).map some) ∧ ([1, 2].map (fun (i : Nat) => (w_Pb_costOf T q0 q0_a q0_b q0_c q1 n1 vq0_rows vq0_variables vq0_c vq1)[i]?) = (w_Pb_product T q0_c q1 8 n1 vq0_c vq1).map some) ∧ ([0].map (fun (i : Nat) => (w_Pb_costOf T q0 q0_a q0_b q0_c q1 n1 vq0_rows vq0_variables vq0_c vq1)[i]?) = [0].map (fun (i : Nat) => (w_Pb_costOf T q0 q0_a q0_b q0_c q1 n1 vq0_rows vq0_variables vq0_c vq1)[i]?)) ∧ (w_Pb_product T q0_c q1 8 n1 vq0_c vq1).map Prod.fst = (w_Pb_product T q0_c q1 8 n1 vq0_c vq1).map Prod.fst ∧ (w_Pb_costOf T q0 q0_a q0_b q0_c q1 n1 vq0_rows vq0_variables vq0_c vq1).length = 3 :=
  ⟨rfl, rfl, Eq.trans (b := ([some (q0, .inr (0, [.int vq0_rows, .int vq0_variables, .ref q0_a, .ref q0_b, .ref q0_c]))] : List (Option (Nat × va_E)))) rfl rfl, rfl, rfl⟩
set_option maxHeartbeats 40000000 in
set_option maxRecDepth 100000 in
theorem c_Pb_costOf (l : Launch) (D : va_G) (T : Nat → ClassId) (q0 : Nat) (q0_a : Nat) (q0_b : Nat) (q0_c : Nat) (q1 : Nat) (n1 : Nat) (vq0_rows : Int32) (vq0_variables : Int32) (vq0_c : Nat → UInt64) (vq1 : Nat → UInt64) (rm : UInt64) (h : s_Pb_costOf n1 vq0_rows vq0_variables vq0_c vq1 = some rm) : CtD l y_Pb_costOf (Cond.code y_Pb_costOf prog_5_method_9_code 2 (some .double) :: BIG) 1 25 D T [.ref q0, .ref q1] (w_Pb_costOf T q0 q0_a q0_b q0_c q1 n1 vq0_rows vq0_variables vq0_c vq1) (fun r => r) (fun r => (w_Pb_costOf T q0 q0_a q0_b q0_c q1 n1 vq0_rows vq0_variables vq0_c vq1)) rm := by
  refine cf_entry (y := y_Pb_costOf) (cc := prog_5_method_9_code) (nL := 2) (ret := (some .double)) (fr := 1) (lo := 25) (T := T) (av := [.ref q0, .ref q1]) (w := (w_Pb_costOf T q0 q0_a q0_b q0_c q1 n1 vq0_rows vq0_variables vq0_c vq1)) (Qc := cfQd D (fun r => r) (fun r => (w_Pb_costOf T q0 q0_a q0_b q0_c q1 n1 vq0_rows vq0_variables vq0_c vq1)) rm) (by decide) rfl (Nat.le_of_ble_eq_true rfl) ?_
  intro p e s m args below meth c A Q H locs ls hx hb hr hlocks hml hown hts hNW hK hA hQ hP hD hS hl
  have hown : s.vm.findClass "ConeForge$Problem" = some m.cls := hown
  have hl : lv_has ls 2 [(0, .ref q0), (1, .ref q1)] := hl
  unfold s_Pb_costOf at h
  refine lv_aload_n hx hb d_Pb_costOf_0 rfl (lv_at hl 0 rfl) ?_
  refine va_get (D := D) (ci := 0) (v := .ref q0_c) (C := "ConeForge$Problem") (T := FPb) (N := 5) hx hb hts iPb hown hK hP 0 rfl rfl 4 (by decide) (hts _ (bgc bw133)) (fun _ h9 => h9) rfl d_Pb_costOf_1 ?_
  refine lv_aload_n hx hb d_Pb_costOf_4 rfl (lv_at hl 1 rfl) ?_
  refine lv_aload_n hx hb d_Pb_costOf_5 rfl (lv_at hl 0 rfl) ?_
  refine va_get (D := D) (ci := 0) (v := .int vq0_variables) (C := "ConeForge$Problem") (T := FPb) (N := 5) hx hb hts iPb hown hK hP 0 rfl rfl 1 (by decide) (hts _ (bgc bw130)) (fun _ h9 => h9) rfl d_Pb_costOf_6 ?_
  obtain ⟨u1, hu1, h⟩ := bi_some h
  have jj2 := j_Pb_costOf_9 T q0 q0_a q0_b q0_c q1 n1 vq0_rows vq0_variables vq0_c vq1
  refine kD2 (v := u1) (wc := (w_Pb_product T q0_c q1 8 n1 vq0_c vq1)) (wc' := (w_Pb_product T q0_c q1 8 n1 vq0_c vq1)) (w_Pb_costOf T q0 q0_a q0_b q0_c q1 n1 vq0_rows vq0_variables vq0_c vq1) (runOS (As := [.ref q0_c, .ref q1, .int vq0_variables]) (rest := []) ((c_Pb_product l D T q0_c q1 8 n1 vq0_c vq1 vq0_variables u1 hu1) H.size) ⟨hx, hb, hml, hown, hts⟩ (cwOS bw573 bw566 bw98 bw567 dd_Pb_product hts ⟨Nat.le_of_ble_eq_true rfl, Nat.le_of_ble_eq_true rfl⟩)  hNW hK hP hD [1, 2] jj2.1 (by decide) rfl hl.1 rfl (lv_room (Nat.le_of_ble_eq_true rfl)) d_Pb_costOf_9 ⟨Nat.le_of_ble_eq_true rfl, Nat.le_of_ble_eq_true rfl⟩) hP hD hS hA [1, 2] [0] jj2.1 jj2.2.1 jj2.2.2.1 (N := 3) jj2.2.2.2.2 (by decide) jj2.2.2.2.1 (fun H locs hP hD hS => ?_)
  exact rtD hx hb hr hlocks hQ (Option.some.inj h) hP hS d_Pb_costOf_12 rfl rfl
theorem d_Pb_plusRow_0 : decode prog_5_method_5_code 0 = .ok (.dload_n 1, 1) := by decide +kernel
theorem d_Pb_plusRow_1 : decode prog_5_method_5_code 1 = .ok (.dstore 5, 2) := by decide +kernel
theorem d_Pb_plusRow_3 : decode prog_5_method_5_code 3 = .ok (.iconst 0, 1) := by decide +kernel
theorem d_Pb_plusRow_4 : decode prog_5_method_5_code 4 = .ok (.istore 7, 2) := by decide +kernel
theorem d_Pb_plusRow_6 : decode prog_5_method_5_code 6 = .ok (.iload 7, 2) := by decide +kernel
theorem d_Pb_plusRow_8 : decode prog_5_method_5_code 8 = .ok (.aload_n 0, 1) := by decide +kernel
theorem d_Pb_plusRow_9 : decode prog_5_method_5_code 9 = .ok (.getfield 15, 3) := by decide +kernel
theorem d_Pb_plusRow_12 : decode prog_5_method_5_code 12 = .ok (.if_icmp .ge 29, 3) := by decide +kernel
theorem d_Pb_plusRow_15 : decode prog_5_method_5_code 15 = .ok (.dload 5, 2) := by decide +kernel
theorem d_Pb_plusRow_17 : decode prog_5_method_5_code 17 = .ok (.aload_n 0, 1) := by decide +kernel
theorem d_Pb_plusRow_18 : decode prog_5_method_5_code 18 = .ok (.getfield 20, 3) := by decide +kernel
theorem d_Pb_plusRow_21 : decode prog_5_method_5_code 21 = .ok (.iload_n 3, 1) := by decide +kernel
theorem d_Pb_plusRow_22 : decode prog_5_method_5_code 22 = .ok (.aaload, 1) := by decide +kernel
theorem d_Pb_plusRow_23 : decode prog_5_method_5_code 23 = .ok (.iload 7, 2) := by decide +kernel
theorem d_Pb_plusRow_25 : decode prog_5_method_5_code 25 = .ok (.daload, 1) := by decide +kernel
theorem d_Pb_plusRow_26 : decode prog_5_method_5_code 26 = .ok (.aload 4, 2) := by decide +kernel
theorem d_Pb_plusRow_28 : decode prog_5_method_5_code 28 = .ok (.iload 7, 2) := by decide +kernel
theorem d_Pb_plusRow_30 : decode prog_5_method_5_code 30 = .ok (.daload, 1) := by decide +kernel
theorem d_Pb_plusRow_31 : decode prog_5_method_5_code 31 = .ok (.dmul, 1) := by decide +kernel
theorem d_Pb_plusRow_32 : decode prog_5_method_5_code 32 = .ok (.dadd, 1) := by decide +kernel
theorem d_Pb_plusRow_33 : decode prog_5_method_5_code 33 = .ok (.dstore 5, 2) := by decide +kernel
theorem d_Pb_plusRow_35 : decode prog_5_method_5_code 35 = .ok (.iinc 7 1, 3) := by decide +kernel
theorem d_Pb_plusRow_38 : decode prog_5_method_5_code 38 = .ok (.goto (-32), 3) := by decide +kernel
theorem d_Pb_plusRow_41 : decode prog_5_method_5_code 41 = .ok (.dload 5, 2) := by decide +kernel
theorem d_Pb_plusRow_43 : decode prog_5_method_5_code 43 = .ok (.dreturn, 1) := by decide +kernel
abbrev w_Pb_plusRow (T : Nat → ClassId) (q0 : Nat) (q0_a : Nat) (q0_b : Nat) (q0_c : Nat) (Rq0_a : Nat → Nat) (q3 : Nat) (n3 : Nat) (vq0_rows : Int32) (vq0_variables : Int32) (vq0_a : Nat → Nat → UInt64) (vq3 : Nat → UInt64) : va_W := [(q0, .inr (0, [.int vq0_rows, .int vq0_variables, .ref q0_a, .ref q0_b, .ref q0_c])), (q0_a, .inl (T 3, 5, .inr (.inr (.inr (.inr (fun i => some (Rq0_a i))))))), (Rq0_a 0, .inl (T 0, 8, .inr (.inr (.inr (.inl (vq0_a 0)))))), (Rq0_a 1, .inl (T 0, 8, .inr (.inr (.inr (.inl (vq0_a 1)))))), (Rq0_a 2, .inl (T 0, 8, .inr (.inr (.inr (.inl (vq0_a 2)))))), (Rq0_a 3, .inl (T 0, 8, .inr (.inr (.inr (.inl (vq0_a 3)))))), (Rq0_a 4, .inl (T 0, 8, .inr (.inr (.inr (.inl (vq0_a 4)))))), (q3, .inl (T 0, n3, .inr (.inr (.inr (.inl vq3)))))]
def s_Pb_plusRow_B6 (n3 : Nat) (vq0_rows : Int32) (vq0_variables : Int32) (vq0_a : Nat → Nat → UInt64) (vq3 : Nat → UInt64) (x3 : Int32) (x5 : UInt64) (x7 : Int32) : Option ((UInt64 × Int32) ⊕ (UInt64)) :=
  if vq0_variables ≤ x7 then (some (.inr x5)) else (gd (inb x3 5) <| gd (inb x7 8) <| gd (inb x7 n3) <| gd (isn (FP.dmul (vq0_a x3.toNatClampNeg x7.toNatClampNeg) (vq3 x7.toNatClampNeg))) <| gd (isn (FP.dadd x5 (FP.dmul (vq0_a x3.toNatClampNeg x7.toNatClampNeg) (vq3 x7.toNatClampNeg)))) <| some (.inl (FP.dadd x5 (FP.dmul (vq0_a x3.toNatClampNeg x7.toNatClampNeg) (vq3 x7.toNatClampNeg)), x7 + 1)))
def s_Pb_plusRow_L6 (n3 : Nat) (vq0_rows : Int32) (vq0_variables : Int32) (vq0_a : Nat → Nat → UInt64) (vq3 : Nat → UInt64) (x3 : Int32) (x5 : UInt64) (x7 : Int32) : Option (UInt64) :=
  (loopO (fun (st : UInt64 × Int32) => s_Pb_plusRow_B6 n3 vq0_rows vq0_variables vq0_a vq3 x3 st.1 st.2) 2000 (x5, x7)).bind fun ul6 => some ul6
def s_Pb_plusRow (n3 : Nat) (vq0_rows : Int32) (vq0_variables : Int32) (vq0_a : Nat → Nat → UInt64) (vq3 : Nat → UInt64) (x1 : UInt64) (x3 : Int32) : Option (UInt64) :=
  s_Pb_plusRow_L6 n3 vq0_rows vq0_variables vq0_a vq3 x3 x1 0
set_option maxHeartbeats 40000000 in
set_option maxRecDepth 100000 in
theorem c_Pb_plusRow (l : Launch) (D : va_G) (T : Nat → ClassId) (q0 : Nat) (q0_a : Nat) (q0_b : Nat) (q0_c : Nat) (Rq0_a : Nat → Nat) (q3 : Nat) (n3 : Nat) (vq0_rows : Int32) (vq0_variables : Int32) (vq0_a : Nat → Nat → UInt64) (vq3 : Nat → UInt64) (x1 : UInt64) (x3 : Int32) (rm : UInt64) (h : s_Pb_plusRow n3 vq0_rows vq0_variables vq0_a vq3 x1 x3 = some rm) : CtD l y_Pb_plusRow (Cond.code y_Pb_plusRow prog_5_method_5_code 8 (some .double) :: BIG) 0 0 D T [.ref q0, .double x1, .int x3, .ref q3] (w_Pb_plusRow T q0 q0_a q0_b q0_c Rq0_a q3 n3 vq0_rows vq0_variables vq0_a vq3) (fun r => r) (fun r => (w_Pb_plusRow T q0 q0_a q0_b q0_c Rq0_a q3 n3 vq0_rows vq0_variables vq0_a vq3)) rm := by
  refine cf_entry (y := y_Pb_plusRow) (cc := prog_5_method_5_code) (nL := 8) (ret := (some .double)) (fr := 0) (lo := 0) (T := T) (av := [.ref q0, .double x1, .int x3, .ref q3]) (w := (w_Pb_plusRow T q0 q0_a q0_b q0_c Rq0_a q3 n3 vq0_rows vq0_variables vq0_a vq3)) (Qc := cfQd D (fun r => r) (fun r => (w_Pb_plusRow T q0 q0_a q0_b q0_c Rq0_a q3 n3 vq0_rows vq0_variables vq0_a vq3)) rm) (by decide) rfl (Nat.le_of_ble_eq_true rfl) ?_
  intro p e s m args below meth c A Q H locs ls hx hb hr hlocks hml hown hts hNW hK hA hQ hP hD hS hl
  have hown : s.vm.findClass "ConeForge$Problem" = some m.cls := hown
  have hl : lv_has ls 8 [(0, .ref q0), (1, .double x1), (3, .int x3), (4, .ref q3)] := hl
  have L6 : ∀ (x3 : Int32) (x5 : UInt64) (x7 : Int32), ∀ (H : Heap) (locs : List Loc) (ls : Array Slot), va_P D CL (w_Pb_plusRow T q0 q0_a q0_b q0_c Rq0_a q3 n3 vq0_rows vq0_variables vq0_a vq3) H → va_D A (w_Pb_plusRow T q0 q0_a q0_b q0_c Rq0_a q3 n3 vq0_rows vq0_variables vq0_a vq3) → va_S A s.heap H locs → lv_has ls 8 [(0, .ref q0), (3, .int x3), (4, .ref q3), (5, .double x5), (7, .int x7)] → s_Pb_plusRow_L6 n3 vq0_rows vq0_variables vq0_a vq3 x3 x5 x7 = some rm → W p l e (rmk 0 0) s m args below meth c H locs 0 0 Q (F0 m 6 ls []) := by
    intro x3 x5 x7 H locs ls hP hD hS hl h
    unfold s_Pb_plusRow_L6 at h
    obtain ⟨ul6, hul6, h⟩ := bi_some h
    refine loopO_W (Wh := fun (st : UInt64 × Int32) => ∀ (H : Heap) (locs : List Loc) (ls : Array Slot), va_P D CL (w_Pb_plusRow T q0 q0_a q0_b q0_c Rq0_a q3 n3 vq0_rows vq0_variables vq0_a vq3) H → va_D A (w_Pb_plusRow T q0 q0_a q0_b q0_c Rq0_a q3 n3 vq0_rows vq0_variables vq0_a vq3) → va_S A s.heap H locs → lv_has ls 8 [(0, .ref q0), (3, .int x3), (4, .ref q3), (5, .double st.1), (7, .int st.2)] → W p l e (rmk 0 0) s m args below meth c H locs 0 0 Q (F0 m 6 ls [])) (Wx := fun (e1 : UInt64) => ∀ (H : Heap) (locs : List Loc) (ls : Array Slot), va_P D CL (w_Pb_plusRow T q0 q0_a q0_b q0_c Rq0_a q3 n3 vq0_rows vq0_variables vq0_a vq3) H → va_D A (w_Pb_plusRow T q0 q0_a q0_b q0_c Rq0_a q3 n3 vq0_rows vq0_variables vq0_a vq3) → va_S A s.heap H locs → lv_has ls 8 [(5, .double e1)] → W p l e (rmk 0 0) s m args below meth c H locs 0 0 Q (F0 m 41 ls [])) ?_ 2000 _ ul6 hul6 ?_ H locs ls hP hD hS hl
    · intro st rb6 h kc6 kx6 H locs ls hP hD hS hl
      obtain ⟨x5, x7⟩ := st
      have h : s_Pb_plusRow_B6 n3 vq0_rows vq0_variables vq0_a vq3 x3 x5 x7 = some rb6 := h
      unfold s_Pb_plusRow_B6 at h
      refine lv_iload hx hb d_Pb_plusRow_6 (lv_at hl 4 rfl) ?_
      refine lv_aload_n hx hb d_Pb_plusRow_8 rfl (lv_at hl 0 rfl) ?_
      refine va_get (D := D) (ci := 0) (v := .int vq0_variables) (C := "ConeForge$Problem") (T := FPb) (N := 5) hx hb hts iPb hown hK hP 0 rfl rfl 1 (by decide) (hts _ (bgc bw130)) (fun _ h9 => h9) rfl d_Pb_plusRow_9 ?_
      refine lv_icmp_ge (tgt := 41) hx hb d_Pb_plusRow_12 (by decide) (fun c1 => ?_) (fun c1 => ?_)
      · have h := it_t c1 h
        exact kx6 _ (Option.some.inj h).symm H locs ls hP hD hS (lv_sub hl [3] rfl)
      · have h := it_f c1 h
        refine lv_dload hx hb d_Pb_plusRow_15 (lv_at hl 3 rfl) ?_
        refine lv_aload_n hx hb d_Pb_plusRow_17 rfl (lv_at hl 0 rfl) ?_
        refine va_get (D := D) (ci := 0) (v := .ref q0_a) (C := "ConeForge$Problem") (T := FPb) (N := 5) hx hb hts iPb hown hK hP 0 rfl rfl 2 (by decide) (hts _ (bgc bw131)) (fun _ h9 => h9) rfl d_Pb_plusRow_18 ?_
        refine lv_iload_n hx hb d_Pb_plusRow_21 rfl (lv_at hl 1 rfl) ?_
        obtain ⟨g2, h⟩ := gd_some h
        refine va_aldg (f := Rq0_a) hx hb hK hP 1 3 rfl rfl (inb_in g2) d_Pb_plusRow_22 ?_
        refine lv_iload hx hb d_Pb_plusRow_23 (lv_at hl 4 rfl) ?_
        obtain ⟨g3, h⟩ := gd_some h
        refine va_dald hx hb hK hP (2 + x3.toNatClampNeg) 0 (gk5 (P := fun k => (w_Pb_plusRow T q0 q0_a q0_b q0_c Rq0_a q3 n3 vq0_rows vq0_variables vq0_a vq3)[2 + k]? = some (Rq0_a k, .inl (T 0, 8, .inr (.inr (.inr (.inl (vq0_a k))))))) rfl rfl rfl rfl rfl _ (inb_lt g2)) rfl (inb_in g3) d_Pb_plusRow_25 ?_
        refine lv_aload hx hb d_Pb_plusRow_26 (lv_at hl 2 rfl) ?_
        refine lv_iload hx hb d_Pb_plusRow_28 (lv_at hl 4 rfl) ?_
        obtain ⟨g4, h⟩ := gd_some h
        refine va_dald hx hb hK hP 7 0 rfl rfl (inb_in g4) d_Pb_plusRow_30 ?_
        obtain ⟨g5, h⟩ := gd_some h
        refine lv_dmul hx hb d_Pb_plusRow_31 (isn_n g5) ?_
        obtain ⟨g6, h⟩ := gd_some h
        refine lv_dadd hx hb d_Pb_plusRow_32 (isn_n g6) ?_
        refine lv_dstore (lv' := [(5, .double (FP.dadd x5 (FP.dmul (vq0_a x3.toNatClampNeg x7.toNatClampNeg) (vq3 x7.toNatClampNeg)))), (0, .ref q0), (3, .int x3), (4, .ref q3), (7, .int x7)]) hx hb d_Pb_plusRow_33 hl (by decide) rfl (fun ls hl => ?_)
        refine lv_iinc (v := x7 + 1) (lv' := [(7, .int (x7 + 1)), (5, .double (FP.dadd x5 (FP.dmul (vq0_a x3.toNatClampNeg x7.toNatClampNeg) (vq3 x7.toNatClampNeg)))), (0, .ref q0), (3, .int x3), (4, .ref q3)]) hx hb d_Pb_plusRow_35 hl (k := 4) rfl rfl (by decide) rfl (fun ls hl => ?_)
        refine lv_goto (tgt := 6) hx hb d_Pb_plusRow_38 (by decide) ?_
        exact kc6 _ (Option.some.inj h).symm H locs ls hP hD hS (lv_sub hl [2, 3, 4, 1, 0] rfl)
    · intro H locs ls hP hD hS hl
      refine lv_dload hx hb d_Pb_plusRow_41 (lv_at hl 0 rfl) ?_
      exact rtD hx hb hr hlocks hQ (Option.some.inj h) hP hS d_Pb_plusRow_43 rfl rfl
  unfold s_Pb_plusRow at h
  refine lv_dload_n hx hb d_Pb_plusRow_0 rfl (lv_at hl 1 rfl) ?_
  refine lv_dstore (lv' := [(5, .double x1), (0, .ref q0), (1, .double x1), (3, .int x3), (4, .ref q3)]) hx hb d_Pb_plusRow_1 hl (by decide) rfl (fun ls hl => ?_)
  refine lv_iconst (v := 0) hx hb d_Pb_plusRow_3 (by decide) ?_
  refine lv_istore (lv' := [(7, .int 0), (5, .double x1), (0, .ref q0), (1, .double x1), (3, .int x3), (4, .ref q3)]) hx hb d_Pb_plusRow_4 hl (by decide) rfl (fun ls hl => ?_)
  exact L6 x3 x1 0 H locs ls hP hD hS (lv_sub hl [2, 4, 5, 1, 0] rfl) h
theorem d_Pb_worthOf_0 : decode prog_5_method_10_code 0 = .ok (.aload_n 0, 1) := by decide +kernel
theorem d_Pb_worthOf_1 : decode prog_5_method_10_code 1 = .ok (.getfield 23, 3) := by decide +kernel
theorem d_Pb_worthOf_4 : decode prog_5_method_10_code 4 = .ok (.aload_n 1, 1) := by decide +kernel
theorem d_Pb_worthOf_5 : decode prog_5_method_10_code 5 = .ok (.aload_n 0, 1) := by decide +kernel
theorem d_Pb_worthOf_6 : decode prog_5_method_10_code 6 = .ok (.getfield 9, 3) := by decide +kernel
theorem d_Pb_worthOf_9 : decode prog_5_method_10_code 9 = .ok (.invokestatic 42, 3) := by decide +kernel
theorem d_Pb_worthOf_12 : decode prog_5_method_10_code 12 = .ok (.dreturn, 1) := by decide +kernel
abbrev w_Pb_worthOf (T : Nat → ClassId) (q0 : Nat) (q0_a : Nat) (q0_b : Nat) (q0_c : Nat) (q1 : Nat) (n1 : Nat) (vq0_rows : Int32) (vq0_variables : Int32) (vq0_b : Nat → UInt64) (vq1 : Nat → UInt64) : va_W := [(q0, .inr (0, [.int vq0_rows, .int vq0_variables, .ref q0_a, .ref q0_b, .ref q0_c])), (q0_b, .inl (T 0, 5, .inr (.inr (.inr (.inl vq0_b))))), (q1, .inl (T 0, n1, .inr (.inr (.inr (.inl vq1)))))]
def s_Pb_worthOf (n1 : Nat) (vq0_rows : Int32) (vq0_variables : Int32) (vq0_b : Nat → UInt64) (vq1 : Nat → UInt64) : Option (UInt64) :=
  (s_Pb_product 5 n1 vq0_b vq1 vq0_rows).bind fun u1 => some u1
set_option maxRecDepth 100000 in
theorem j_Pb_worthOf_9 (T : Nat → ClassId) (q0 : Nat) (q0_a : Nat) (q0_b : Nat) (q0_c : Nat) (q1 : Nat) (n1 : Nat) (vq0_rows : Int32) (vq0_variables : Int32) (vq0_b : Nat → UInt64) (vq1 : Nat → UInt64) : ([1, 2].map (fun (i : Nat) => (w_Pb_worthOf T q0 q0_a q0_b q0_c q1 n1 vq0_rows vq0_variables vq0_b vq1)[i]?) = (w_Pb_product T q0_b q1 5 n1 vq0_b vq1).map some) ∧ ([1, 2].map (fun (i : Nat) => (w_Pb_worthOf T q0 q0_a q0_b q0_c q1 n1 vq0_rows vq0_variables vq0_b vq1)[i]?) = (w_Pb_product T q0_b q1 5 n1 vq0_b vq1).map some) ∧ ([0].map (fun (i : Nat) => (w_Pb_worthOf T q0 q0_a q0_b q0_c q1 n1 vq0_rows vq0_variables vq0_b vq1)[i]?) = [0].map (fun (i : Nat) => (w_Pb_worthOf T q0 q0_a q0_b q0_c q1 n1 vq0_rows vq0_variables vq0_b vq1)[i]?)) ∧ (w_Pb_product T q0_b q1 5 n1 vq0_b vq1).map Prod.fst = (w_Pb_product T q0_b q1 5 n1 vq0_b vq1).map Prod.fst ∧ (w_Pb_worthOf T q0 q0_a q0_b q0_c q1 n1 vq0_rows vq0_variables vq0_b vq1).length = 3 :=
  ⟨rfl, rfl, Eq.trans (b := ([some (q0, .inr (0, [.int vq0_rows, .int vq0_variables, .ref q0_a, .ref q0_b, .ref q0_c]))] : List (Option (Nat × va_E)))) rfl rfl, rfl, rfl⟩
set_option maxHeartbeats 40000000 in
set_option maxRecDepth 100000 in
theorem c_Pb_worthOf (l : Launch) (D : va_G) (T : Nat → ClassId) (q0 : Nat) (q0_a : Nat) (q0_b : Nat) (q0_c : Nat) (q1 : Nat) (n1 : Nat) (vq0_rows : Int32) (vq0_variables : Int32) (vq0_b : Nat → UInt64) (vq1 : Nat → UInt64) (rm : UInt64) (h : s_Pb_worthOf n1 vq0_rows vq0_variables vq0_b vq1 = some rm) : CtD l y_Pb_worthOf (Cond.code y_Pb_worthOf prog_5_method_10_code 2 (some .double) :: BIG) 1 25 D T [.ref q0, .ref q1] (w_Pb_worthOf T q0 q0_a q0_b q0_c q1 n1 vq0_rows vq0_variables vq0_b vq1) (fun r => r) (fun r => (w_Pb_worthOf T q0 q0_a q0_b q0_c q1 n1 vq0_rows vq0_variables vq0_b vq1)) rm := by
  refine cf_entry (y := y_Pb_worthOf) (cc := prog_5_method_10_code) (nL := 2) (ret := (some .double)) (fr := 1) (lo := 25) (T := T) (av := [.ref q0, .ref q1]) (w := (w_Pb_worthOf T q0 q0_a q0_b q0_c q1 n1 vq0_rows vq0_variables vq0_b vq1)) (Qc := cfQd D (fun r => r) (fun r => (w_Pb_worthOf T q0 q0_a q0_b q0_c q1 n1 vq0_rows vq0_variables vq0_b vq1)) rm) (by decide) rfl (Nat.le_of_ble_eq_true rfl) ?_
  intro p e s m args below meth c A Q H locs ls hx hb hr hlocks hml hown hts hNW hK hA hQ hP hD hS hl
  have hown : s.vm.findClass "ConeForge$Problem" = some m.cls := hown
  have hl : lv_has ls 2 [(0, .ref q0), (1, .ref q1)] := hl
  unfold s_Pb_worthOf at h
  refine lv_aload_n hx hb d_Pb_worthOf_0 rfl (lv_at hl 0 rfl) ?_
  refine va_get (D := D) (ci := 0) (v := .ref q0_b) (C := "ConeForge$Problem") (T := FPb) (N := 5) hx hb hts iPb hown hK hP 0 rfl rfl 3 (by decide) (hts _ (bgc bw132)) (fun _ h9 => h9) rfl d_Pb_worthOf_1 ?_
  refine lv_aload_n hx hb d_Pb_worthOf_4 rfl (lv_at hl 1 rfl) ?_
  refine lv_aload_n hx hb d_Pb_worthOf_5 rfl (lv_at hl 0 rfl) ?_
  refine va_get (D := D) (ci := 0) (v := .int vq0_rows) (C := "ConeForge$Problem") (T := FPb) (N := 5) hx hb hts iPb hown hK hP 0 rfl rfl 0 (by decide) (hts _ (bgc bw129)) (fun _ h9 => h9) rfl d_Pb_worthOf_6 ?_
  obtain ⟨u1, hu1, h⟩ := bi_some h
  have jj2 := j_Pb_worthOf_9 T q0 q0_a q0_b q0_c q1 n1 vq0_rows vq0_variables vq0_b vq1
  refine kD2 (v := u1) (wc := (w_Pb_product T q0_b q1 5 n1 vq0_b vq1)) (wc' := (w_Pb_product T q0_b q1 5 n1 vq0_b vq1)) (w_Pb_worthOf T q0 q0_a q0_b q0_c q1 n1 vq0_rows vq0_variables vq0_b vq1) (runOS (As := [.ref q0_b, .ref q1, .int vq0_rows]) (rest := []) ((c_Pb_product l D T q0_b q1 5 n1 vq0_b vq1 vq0_rows u1 hu1) H.size) ⟨hx, hb, hml, hown, hts⟩ (cwOS bw573 bw566 bw98 bw567 dd_Pb_product hts ⟨Nat.le_of_ble_eq_true rfl, Nat.le_of_ble_eq_true rfl⟩)  hNW hK hP hD [1, 2] jj2.1 (by decide) rfl hl.1 rfl (lv_room (Nat.le_of_ble_eq_true rfl)) d_Pb_worthOf_9 ⟨Nat.le_of_ble_eq_true rfl, Nat.le_of_ble_eq_true rfl⟩) hP hD hS hA [1, 2] [0] jj2.1 jj2.2.1 jj2.2.2.1 (N := 3) jj2.2.2.2.2 (by decide) jj2.2.2.2.1 (fun H locs hP hD hS => ?_)
  exact rtD hx hb hr hlocks hQ (Option.some.inj h) hP hS d_Pb_worthOf_12 rfl rfl
theorem d_Pb_plusColumn_0 : decode prog_5_method_7_code 0 = .ok (.dload_n 1, 1) := by decide +kernel
theorem d_Pb_plusColumn_1 : decode prog_5_method_7_code 1 = .ok (.dstore 5, 2) := by decide +kernel
theorem d_Pb_plusColumn_3 : decode prog_5_method_7_code 3 = .ok (.iconst 0, 1) := by decide +kernel
theorem d_Pb_plusColumn_4 : decode prog_5_method_7_code 4 = .ok (.istore 7, 2) := by decide +kernel
theorem d_Pb_plusColumn_6 : decode prog_5_method_7_code 6 = .ok (.iload 7, 2) := by decide +kernel
theorem d_Pb_plusColumn_8 : decode prog_5_method_7_code 8 = .ok (.aload_n 0, 1) := by decide +kernel
theorem d_Pb_plusColumn_9 : decode prog_5_method_7_code 9 = .ok (.getfield 9, 3) := by decide +kernel
theorem d_Pb_plusColumn_12 : decode prog_5_method_7_code 12 = .ok (.if_icmp .ge 29, 3) := by decide +kernel
theorem d_Pb_plusColumn_15 : decode prog_5_method_7_code 15 = .ok (.dload 5, 2) := by decide +kernel
theorem d_Pb_plusColumn_17 : decode prog_5_method_7_code 17 = .ok (.aload_n 0, 1) := by decide +kernel
theorem d_Pb_plusColumn_18 : decode prog_5_method_7_code 18 = .ok (.getfield 20, 3) := by decide +kernel
theorem d_Pb_plusColumn_21 : decode prog_5_method_7_code 21 = .ok (.iload 7, 2) := by decide +kernel
theorem d_Pb_plusColumn_23 : decode prog_5_method_7_code 23 = .ok (.aaload, 1) := by decide +kernel
theorem d_Pb_plusColumn_24 : decode prog_5_method_7_code 24 = .ok (.iload_n 3, 1) := by decide +kernel
theorem d_Pb_plusColumn_25 : decode prog_5_method_7_code 25 = .ok (.daload, 1) := by decide +kernel
theorem d_Pb_plusColumn_26 : decode prog_5_method_7_code 26 = .ok (.aload 4, 2) := by decide +kernel
theorem d_Pb_plusColumn_28 : decode prog_5_method_7_code 28 = .ok (.iload 7, 2) := by decide +kernel
theorem d_Pb_plusColumn_30 : decode prog_5_method_7_code 30 = .ok (.daload, 1) := by decide +kernel
theorem d_Pb_plusColumn_31 : decode prog_5_method_7_code 31 = .ok (.dmul, 1) := by decide +kernel
theorem d_Pb_plusColumn_32 : decode prog_5_method_7_code 32 = .ok (.dadd, 1) := by decide +kernel
theorem d_Pb_plusColumn_33 : decode prog_5_method_7_code 33 = .ok (.dstore 5, 2) := by decide +kernel
theorem d_Pb_plusColumn_35 : decode prog_5_method_7_code 35 = .ok (.iinc 7 1, 3) := by decide +kernel
theorem d_Pb_plusColumn_38 : decode prog_5_method_7_code 38 = .ok (.goto (-32), 3) := by decide +kernel
theorem d_Pb_plusColumn_41 : decode prog_5_method_7_code 41 = .ok (.dload 5, 2) := by decide +kernel
theorem d_Pb_plusColumn_43 : decode prog_5_method_7_code 43 = .ok (.dreturn, 1) := by decide +kernel
abbrev w_Pb_plusColumn (T : Nat → ClassId) (q0 : Nat) (q0_a : Nat) (q0_b : Nat) (q0_c : Nat) (Rq0_a : Nat → Nat) (q3 : Nat) (n3 : Nat) (vq0_rows : Int32) (vq0_variables : Int32) (vq0_a : Nat → Nat → UInt64) (vq3 : Nat → UInt64) : va_W := [(q0, .inr (0, [.int vq0_rows, .int vq0_variables, .ref q0_a, .ref q0_b, .ref q0_c])), (q0_a, .inl (T 3, 5, .inr (.inr (.inr (.inr (fun i => some (Rq0_a i))))))), (Rq0_a 0, .inl (T 0, 8, .inr (.inr (.inr (.inl (vq0_a 0)))))), (Rq0_a 1, .inl (T 0, 8, .inr (.inr (.inr (.inl (vq0_a 1)))))), (Rq0_a 2, .inl (T 0, 8, .inr (.inr (.inr (.inl (vq0_a 2)))))), (Rq0_a 3, .inl (T 0, 8, .inr (.inr (.inr (.inl (vq0_a 3)))))), (Rq0_a 4, .inl (T 0, 8, .inr (.inr (.inr (.inl (vq0_a 4)))))), (q3, .inl (T 0, n3, .inr (.inr (.inr (.inl vq3)))))]
def s_Pb_plusColumn_B6 (n3 : Nat) (vq0_rows : Int32) (vq0_variables : Int32) (vq0_a : Nat → Nat → UInt64) (vq3 : Nat → UInt64) (x3 : Int32) (x5 : UInt64) (x7 : Int32) : Option ((UInt64 × Int32) ⊕ (UInt64)) :=
  if vq0_rows ≤ x7 then (some (.inr x5)) else (gd (inb x7 5) <| gd (inb x3 8) <| gd (inb x7 n3) <| gd (isn (FP.dmul (vq0_a x7.toNatClampNeg x3.toNatClampNeg) (vq3 x7.toNatClampNeg))) <| gd (isn (FP.dadd x5 (FP.dmul (vq0_a x7.toNatClampNeg x3.toNatClampNeg) (vq3 x7.toNatClampNeg)))) <| some (.inl (FP.dadd x5 (FP.dmul (vq0_a x7.toNatClampNeg x3.toNatClampNeg) (vq3 x7.toNatClampNeg)), x7 + 1)))
def s_Pb_plusColumn_L6 (n3 : Nat) (vq0_rows : Int32) (vq0_variables : Int32) (vq0_a : Nat → Nat → UInt64) (vq3 : Nat → UInt64) (x3 : Int32) (x5 : UInt64) (x7 : Int32) : Option (UInt64) :=
  (loopO (fun (st : UInt64 × Int32) => s_Pb_plusColumn_B6 n3 vq0_rows vq0_variables vq0_a vq3 x3 st.1 st.2) 2000 (x5, x7)).bind fun ul6 => some ul6
def s_Pb_plusColumn (n3 : Nat) (vq0_rows : Int32) (vq0_variables : Int32) (vq0_a : Nat → Nat → UInt64) (vq3 : Nat → UInt64) (x1 : UInt64) (x3 : Int32) : Option (UInt64) :=
  s_Pb_plusColumn_L6 n3 vq0_rows vq0_variables vq0_a vq3 x3 x1 0
set_option maxHeartbeats 40000000 in
set_option maxRecDepth 100000 in
theorem c_Pb_plusColumn (l : Launch) (D : va_G) (T : Nat → ClassId) (q0 : Nat) (q0_a : Nat) (q0_b : Nat) (q0_c : Nat) (Rq0_a : Nat → Nat) (q3 : Nat) (n3 : Nat) (vq0_rows : Int32) (vq0_variables : Int32) (vq0_a : Nat → Nat → UInt64) (vq3 : Nat → UInt64) (x1 : UInt64) (x3 : Int32) (rm : UInt64) (h : s_Pb_plusColumn n3 vq0_rows vq0_variables vq0_a vq3 x1 x3 = some rm) : CtD l y_Pb_plusColumn (Cond.code y_Pb_plusColumn prog_5_method_7_code 8 (some .double) :: BIG) 0 0 D T [.ref q0, .double x1, .int x3, .ref q3] (w_Pb_plusColumn T q0 q0_a q0_b q0_c Rq0_a q3 n3 vq0_rows vq0_variables vq0_a vq3) (fun r => r) (fun r => (w_Pb_plusColumn T q0 q0_a q0_b q0_c Rq0_a q3 n3 vq0_rows vq0_variables vq0_a vq3)) rm := by
  refine cf_entry (y := y_Pb_plusColumn) (cc := prog_5_method_7_code) (nL := 8) (ret := (some .double)) (fr := 0) (lo := 0) (T := T) (av := [.ref q0, .double x1, .int x3, .ref q3]) (w := (w_Pb_plusColumn T q0 q0_a q0_b q0_c Rq0_a q3 n3 vq0_rows vq0_variables vq0_a vq3)) (Qc := cfQd D (fun r => r) (fun r => (w_Pb_plusColumn T q0 q0_a q0_b q0_c Rq0_a q3 n3 vq0_rows vq0_variables vq0_a vq3)) rm) (by decide) rfl (Nat.le_of_ble_eq_true rfl) ?_
  intro p e s m args below meth c A Q H locs ls hx hb hr hlocks hml hown hts hNW hK hA hQ hP hD hS hl
  have hown : s.vm.findClass "ConeForge$Problem" = some m.cls := hown
  have hl : lv_has ls 8 [(0, .ref q0), (1, .double x1), (3, .int x3), (4, .ref q3)] := hl
  have L6 : ∀ (x3 : Int32) (x5 : UInt64) (x7 : Int32), ∀ (H : Heap) (locs : List Loc) (ls : Array Slot), va_P D CL (w_Pb_plusColumn T q0 q0_a q0_b q0_c Rq0_a q3 n3 vq0_rows vq0_variables vq0_a vq3) H → va_D A (w_Pb_plusColumn T q0 q0_a q0_b q0_c Rq0_a q3 n3 vq0_rows vq0_variables vq0_a vq3) → va_S A s.heap H locs → lv_has ls 8 [(0, .ref q0), (3, .int x3), (4, .ref q3), (5, .double x5), (7, .int x7)] → s_Pb_plusColumn_L6 n3 vq0_rows vq0_variables vq0_a vq3 x3 x5 x7 = some rm → W p l e (rmk 0 0) s m args below meth c H locs 0 0 Q (F0 m 6 ls []) := by
    intro x3 x5 x7 H locs ls hP hD hS hl h
    unfold s_Pb_plusColumn_L6 at h
    obtain ⟨ul6, hul6, h⟩ := bi_some h
    refine loopO_W (Wh := fun (st : UInt64 × Int32) => ∀ (H : Heap) (locs : List Loc) (ls : Array Slot), va_P D CL (w_Pb_plusColumn T q0 q0_a q0_b q0_c Rq0_a q3 n3 vq0_rows vq0_variables vq0_a vq3) H → va_D A (w_Pb_plusColumn T q0 q0_a q0_b q0_c Rq0_a q3 n3 vq0_rows vq0_variables vq0_a vq3) → va_S A s.heap H locs → lv_has ls 8 [(0, .ref q0), (3, .int x3), (4, .ref q3), (5, .double st.1), (7, .int st.2)] → W p l e (rmk 0 0) s m args below meth c H locs 0 0 Q (F0 m 6 ls [])) (Wx := fun (e1 : UInt64) => ∀ (H : Heap) (locs : List Loc) (ls : Array Slot), va_P D CL (w_Pb_plusColumn T q0 q0_a q0_b q0_c Rq0_a q3 n3 vq0_rows vq0_variables vq0_a vq3) H → va_D A (w_Pb_plusColumn T q0 q0_a q0_b q0_c Rq0_a q3 n3 vq0_rows vq0_variables vq0_a vq3) → va_S A s.heap H locs → lv_has ls 8 [(5, .double e1)] → W p l e (rmk 0 0) s m args below meth c H locs 0 0 Q (F0 m 41 ls [])) ?_ 2000 _ ul6 hul6 ?_ H locs ls hP hD hS hl
    · intro st rb6 h kc6 kx6 H locs ls hP hD hS hl
      obtain ⟨x5, x7⟩ := st
      have h : s_Pb_plusColumn_B6 n3 vq0_rows vq0_variables vq0_a vq3 x3 x5 x7 = some rb6 := h
      unfold s_Pb_plusColumn_B6 at h
      refine lv_iload hx hb d_Pb_plusColumn_6 (lv_at hl 4 rfl) ?_
      refine lv_aload_n hx hb d_Pb_plusColumn_8 rfl (lv_at hl 0 rfl) ?_
      refine va_get (D := D) (ci := 0) (v := .int vq0_rows) (C := "ConeForge$Problem") (T := FPb) (N := 5) hx hb hts iPb hown hK hP 0 rfl rfl 0 (by decide) (hts _ (bgc bw129)) (fun _ h9 => h9) rfl d_Pb_plusColumn_9 ?_
      refine lv_icmp_ge (tgt := 41) hx hb d_Pb_plusColumn_12 (by decide) (fun c1 => ?_) (fun c1 => ?_)
      · have h := it_t c1 h
        exact kx6 _ (Option.some.inj h).symm H locs ls hP hD hS (lv_sub hl [3] rfl)
      · have h := it_f c1 h
        refine lv_dload hx hb d_Pb_plusColumn_15 (lv_at hl 3 rfl) ?_
        refine lv_aload_n hx hb d_Pb_plusColumn_17 rfl (lv_at hl 0 rfl) ?_
        refine va_get (D := D) (ci := 0) (v := .ref q0_a) (C := "ConeForge$Problem") (T := FPb) (N := 5) hx hb hts iPb hown hK hP 0 rfl rfl 2 (by decide) (hts _ (bgc bw131)) (fun _ h9 => h9) rfl d_Pb_plusColumn_18 ?_
        refine lv_iload hx hb d_Pb_plusColumn_21 (lv_at hl 4 rfl) ?_
        obtain ⟨g2, h⟩ := gd_some h
        refine va_aldg (f := Rq0_a) hx hb hK hP 1 3 rfl rfl (inb_in g2) d_Pb_plusColumn_23 ?_
        refine lv_iload_n hx hb d_Pb_plusColumn_24 rfl (lv_at hl 1 rfl) ?_
        obtain ⟨g3, h⟩ := gd_some h
        refine va_dald hx hb hK hP (2 + x7.toNatClampNeg) 0 (gk5 (P := fun k => (w_Pb_plusColumn T q0 q0_a q0_b q0_c Rq0_a q3 n3 vq0_rows vq0_variables vq0_a vq3)[2 + k]? = some (Rq0_a k, .inl (T 0, 8, .inr (.inr (.inr (.inl (vq0_a k))))))) rfl rfl rfl rfl rfl _ (inb_lt g2)) rfl (inb_in g3) d_Pb_plusColumn_25 ?_
        refine lv_aload hx hb d_Pb_plusColumn_26 (lv_at hl 2 rfl) ?_
        refine lv_iload hx hb d_Pb_plusColumn_28 (lv_at hl 4 rfl) ?_
        obtain ⟨g4, h⟩ := gd_some h
        refine va_dald hx hb hK hP 7 0 rfl rfl (inb_in g4) d_Pb_plusColumn_30 ?_
        obtain ⟨g5, h⟩ := gd_some h
        refine lv_dmul hx hb d_Pb_plusColumn_31 (isn_n g5) ?_
        obtain ⟨g6, h⟩ := gd_some h
        refine lv_dadd hx hb d_Pb_plusColumn_32 (isn_n g6) ?_
        refine lv_dstore (lv' := [(5, .double (FP.dadd x5 (FP.dmul (vq0_a x7.toNatClampNeg x3.toNatClampNeg) (vq3 x7.toNatClampNeg)))), (0, .ref q0), (3, .int x3), (4, .ref q3), (7, .int x7)]) hx hb d_Pb_plusColumn_33 hl (by decide) rfl (fun ls hl => ?_)
        refine lv_iinc (v := x7 + 1) (lv' := [(7, .int (x7 + 1)), (5, .double (FP.dadd x5 (FP.dmul (vq0_a x7.toNatClampNeg x3.toNatClampNeg) (vq3 x7.toNatClampNeg)))), (0, .ref q0), (3, .int x3), (4, .ref q3)]) hx hb d_Pb_plusColumn_35 hl (k := 4) rfl rfl (by decide) rfl (fun ls hl => ?_)
        refine lv_goto (tgt := 6) hx hb d_Pb_plusColumn_38 (by decide) ?_
        exact kc6 _ (Option.some.inj h).symm H locs ls hP hD hS (lv_sub hl [2, 3, 4, 1, 0] rfl)
    · intro H locs ls hP hD hS hl
      refine lv_dload hx hb d_Pb_plusColumn_41 (lv_at hl 0 rfl) ?_
      exact rtD hx hb hr hlocks hQ (Option.some.inj h) hP hS d_Pb_plusColumn_43 rfl rfl
  unfold s_Pb_plusColumn at h
  refine lv_dload_n hx hb d_Pb_plusColumn_0 rfl (lv_at hl 1 rfl) ?_
  refine lv_dstore (lv' := [(5, .double x1), (0, .ref q0), (1, .double x1), (3, .int x3), (4, .ref q3)]) hx hb d_Pb_plusColumn_1 hl (by decide) rfl (fun ls hl => ?_)
  refine lv_iconst (v := 0) hx hb d_Pb_plusColumn_3 (by decide) ?_
  refine lv_istore (lv' := [(7, .int 0), (5, .double x1), (0, .ref q0), (1, .double x1), (3, .int x3), (4, .ref q3)]) hx hb d_Pb_plusColumn_4 hl (by decide) rfl (fun ls hl => ?_)
  exact L6 x3 x1 0 H locs ls hP hD hS (lv_sub hl [2, 4, 5, 1, 0] rfl) h
theorem d_Pb_nonZeros_0 : decode prog_5_method_4_code 0 = .ok (.iconst 0, 1) := by decide +kernel
theorem d_Pb_nonZeros_1 : decode prog_5_method_4_code 1 = .ok (.istore_n 1, 1) := by decide +kernel
theorem d_Pb_nonZeros_2 : decode prog_5_method_4_code 2 = .ok (.iconst 0, 1) := by decide +kernel
theorem d_Pb_nonZeros_3 : decode prog_5_method_4_code 3 = .ok (.istore_n 2, 1) := by decide +kernel
theorem d_Pb_nonZeros_4 : decode prog_5_method_4_code 4 = .ok (.iload_n 2, 1) := by decide +kernel
theorem d_Pb_nonZeros_5 : decode prog_5_method_4_code 5 = .ok (.aload_n 0, 1) := by decide +kernel
theorem d_Pb_nonZeros_6 : decode prog_5_method_4_code 6 = .ok (.getfield 9, 3) := by decide +kernel
theorem d_Pb_nonZeros_9 : decode prog_5_method_4_code 9 = .ok (.if_icmp .ge 46, 3) := by decide +kernel
theorem d_Pb_nonZeros_12 : decode prog_5_method_4_code 12 = .ok (.iconst 0, 1) := by decide +kernel
theorem d_Pb_nonZeros_13 : decode prog_5_method_4_code 13 = .ok (.istore_n 3, 1) := by decide +kernel
theorem d_Pb_nonZeros_14 : decode prog_5_method_4_code 14 = .ok (.iload_n 3, 1) := by decide +kernel
theorem d_Pb_nonZeros_15 : decode prog_5_method_4_code 15 = .ok (.aload_n 0, 1) := by decide +kernel
theorem d_Pb_nonZeros_16 : decode prog_5_method_4_code 16 = .ok (.getfield 15, 3) := by decide +kernel
theorem d_Pb_nonZeros_19 : decode prog_5_method_4_code 19 = .ok (.if_icmp .ge 30, 3) := by decide +kernel
theorem d_Pb_nonZeros_22 : decode prog_5_method_4_code 22 = .ok (.iload_n 1, 1) := by decide +kernel
theorem d_Pb_nonZeros_23 : decode prog_5_method_4_code 23 = .ok (.aload_n 0, 1) := by decide +kernel
theorem d_Pb_nonZeros_24 : decode prog_5_method_4_code 24 = .ok (.getfield 20, 3) := by decide +kernel
theorem d_Pb_nonZeros_27 : decode prog_5_method_4_code 27 = .ok (.iload_n 2, 1) := by decide +kernel
theorem d_Pb_nonZeros_28 : decode prog_5_method_4_code 28 = .ok (.aaload, 1) := by decide +kernel
theorem d_Pb_nonZeros_29 : decode prog_5_method_4_code 29 = .ok (.iload_n 3, 1) := by decide +kernel
theorem d_Pb_nonZeros_30 : decode prog_5_method_4_code 30 = .ok (.daload, 1) := by decide +kernel
theorem d_Pb_nonZeros_31 : decode prog_5_method_4_code 31 = .ok (.dconst 0, 1) := by decide +kernel
theorem d_Pb_nonZeros_32 : decode prog_5_method_4_code 32 = .ok (.dcmp .l, 1) := by decide +kernel
theorem d_Pb_nonZeros_33 : decode prog_5_method_4_code 33 = .ok (.ifCond .eq 7, 3) := by decide +kernel
theorem d_Pb_nonZeros_36 : decode prog_5_method_4_code 36 = .ok (.iconst 1, 1) := by decide +kernel
theorem d_Pb_nonZeros_37 : decode prog_5_method_4_code 37 = .ok (.goto 4, 3) := by decide +kernel
theorem d_Pb_nonZeros_40 : decode prog_5_method_4_code 40 = .ok (.iconst 0, 1) := by decide +kernel
theorem d_Pb_nonZeros_41 : decode prog_5_method_4_code 41 = .ok (.iadd, 1) := by decide +kernel
theorem d_Pb_nonZeros_42 : decode prog_5_method_4_code 42 = .ok (.istore_n 1, 1) := by decide +kernel
theorem d_Pb_nonZeros_43 : decode prog_5_method_4_code 43 = .ok (.iinc 3 1, 3) := by decide +kernel
theorem d_Pb_nonZeros_46 : decode prog_5_method_4_code 46 = .ok (.goto (-32), 3) := by decide +kernel
theorem d_Pb_nonZeros_49 : decode prog_5_method_4_code 49 = .ok (.iinc 2 1, 3) := by decide +kernel
theorem d_Pb_nonZeros_52 : decode prog_5_method_4_code 52 = .ok (.goto (-48), 3) := by decide +kernel
theorem d_Pb_nonZeros_55 : decode prog_5_method_4_code 55 = .ok (.iload_n 1, 1) := by decide +kernel
theorem d_Pb_nonZeros_56 : decode prog_5_method_4_code 56 = .ok (.ireturn, 1) := by decide +kernel
abbrev w_Pb_nonZeros (T : Nat → ClassId) (q0 : Nat) (q0_a : Nat) (q0_b : Nat) (q0_c : Nat) (Rq0_a : Nat → Nat) (vq0_rows : Int32) (vq0_variables : Int32) (vq0_a : Nat → Nat → UInt64) : va_W := [(q0, .inr (0, [.int vq0_rows, .int vq0_variables, .ref q0_a, .ref q0_b, .ref q0_c])), (q0_a, .inl (T 3, 5, .inr (.inr (.inr (.inr (fun i => some (Rq0_a i))))))), (Rq0_a 0, .inl (T 0, 8, .inr (.inr (.inr (.inl (vq0_a 0)))))), (Rq0_a 1, .inl (T 0, 8, .inr (.inr (.inr (.inl (vq0_a 1)))))), (Rq0_a 2, .inl (T 0, 8, .inr (.inr (.inr (.inl (vq0_a 2)))))), (Rq0_a 3, .inl (T 0, 8, .inr (.inr (.inr (.inl (vq0_a 3)))))), (Rq0_a 4, .inl (T 0, 8, .inr (.inr (.inr (.inl (vq0_a 4))))))]
def s_Pb_nonZeros_J41 (vq0_rows : Int32) (vq0_variables : Int32) (vq0_a : Nat → Nat → UInt64) (x2 : Int32) (x3 : Int32) (y0 : Int32) (y1 : Int32) : Option ((Int32 × Int32) ⊕ (Int32)) :=
  some (.inl (y0 + y1, x3 + 1))
def s_Pb_nonZeros_B14 (vq0_rows : Int32) (vq0_variables : Int32) (vq0_a : Nat → Nat → UInt64) (x2 : Int32) (x1 : Int32) (x3 : Int32) : Option ((Int32 × Int32) ⊕ (Int32)) :=
  if vq0_variables ≤ x3 then (some (.inr x1)) else (gd (inb x2 5) <| gd (inb x3 8) <| if (Op.cmpValue (FP.dcmp (vq0_a x2.toNatClampNeg x3.toNatClampNeg) FP.dconst0) .l) = 0 then (s_Pb_nonZeros_J41 vq0_rows vq0_variables vq0_a x2 x3 x1 0) else (s_Pb_nonZeros_J41 vq0_rows vq0_variables vq0_a x2 x3 x1 1))
def s_Pb_nonZeros_L14 (vq0_rows : Int32) (vq0_variables : Int32) (vq0_a : Nat → Nat → UInt64) (x1 : Int32) (x2 : Int32) (x3 : Int32) : Option ((Int32 × Int32) ⊕ (Int32)) :=
  (loopO (fun (st : Int32 × Int32) => s_Pb_nonZeros_B14 vq0_rows vq0_variables vq0_a x2 st.1 st.2) 2000 (x1, x3)).bind fun ul14 => some (.inl (ul14, x2 + 1))
def s_Pb_nonZeros_B4 (vq0_rows : Int32) (vq0_variables : Int32) (vq0_a : Nat → Nat → UInt64) (x1 : Int32) (x2 : Int32) : Option ((Int32 × Int32) ⊕ (Int32)) :=
  if vq0_rows ≤ x2 then (some (.inr x1)) else (s_Pb_nonZeros_L14 vq0_rows vq0_variables vq0_a x1 x2 0)
def s_Pb_nonZeros_L4 (vq0_rows : Int32) (vq0_variables : Int32) (vq0_a : Nat → Nat → UInt64) (x1 : Int32) (x2 : Int32) : Option (Int32) :=
  (loopO (fun (st : Int32 × Int32) => s_Pb_nonZeros_B4 vq0_rows vq0_variables vq0_a st.1 st.2) 2000 (x1, x2)).bind fun ul4 => some ul4
def s_Pb_nonZeros (vq0_rows : Int32) (vq0_variables : Int32) (vq0_a : Nat → Nat → UInt64) : Option (Int32) :=
  s_Pb_nonZeros_L4 vq0_rows vq0_variables vq0_a 0 0
set_option maxHeartbeats 40000000 in
set_option maxRecDepth 100000 in
theorem c_Pb_nonZeros (l : Launch) (D : va_G) (T : Nat → ClassId) (q0 : Nat) (q0_a : Nat) (q0_b : Nat) (q0_c : Nat) (Rq0_a : Nat → Nat) (vq0_rows : Int32) (vq0_variables : Int32) (vq0_a : Nat → Nat → UInt64) (rm : Int32) (h : s_Pb_nonZeros vq0_rows vq0_variables vq0_a = some rm) : CtI l y_Pb_nonZeros (Cond.code y_Pb_nonZeros prog_5_method_4_code 4 (some .int) :: BIG) 0 0 D T [.ref q0] (w_Pb_nonZeros T q0 q0_a q0_b q0_c Rq0_a vq0_rows vq0_variables vq0_a) (fun r => r) (fun r => (w_Pb_nonZeros T q0 q0_a q0_b q0_c Rq0_a vq0_rows vq0_variables vq0_a)) rm := by
  refine cf_entry (y := y_Pb_nonZeros) (cc := prog_5_method_4_code) (nL := 4) (ret := (some .int)) (fr := 0) (lo := 0) (T := T) (av := [.ref q0]) (w := (w_Pb_nonZeros T q0 q0_a q0_b q0_c Rq0_a vq0_rows vq0_variables vq0_a)) (Qc := cfQi D (fun r => r) (fun r => (w_Pb_nonZeros T q0 q0_a q0_b q0_c Rq0_a vq0_rows vq0_variables vq0_a)) rm) (by decide) rfl (Nat.le_of_ble_eq_true rfl) ?_
  intro p e s m args below meth c A Q H locs ls hx hb hr hlocks hml hown hts hNW hK hA hQ hP hD hS hl
  have hown : s.vm.findClass "ConeForge$Problem" = some m.cls := hown
  have hl : lv_has ls 4 [(0, .ref q0)] := hl
  have L4 : ∀ (x1 : Int32) (x2 : Int32), ∀ (H : Heap) (locs : List Loc) (ls : Array Slot), va_P D CL (w_Pb_nonZeros T q0 q0_a q0_b q0_c Rq0_a vq0_rows vq0_variables vq0_a) H → va_D A (w_Pb_nonZeros T q0 q0_a q0_b q0_c Rq0_a vq0_rows vq0_variables vq0_a) → va_S A s.heap H locs → lv_has ls 4 [(0, .ref q0), (1, .int x1), (2, .int x2)] → s_Pb_nonZeros_L4 vq0_rows vq0_variables vq0_a x1 x2 = some rm → W p l e (rmk 0 0) s m args below meth c H locs 0 0 Q (F0 m 4 ls []) := by
    intro x1 x2 H locs ls hP hD hS hl h
    unfold s_Pb_nonZeros_L4 at h
    obtain ⟨ul4, hul4, h⟩ := bi_some h
    refine loopO_W (Wh := fun (st : Int32 × Int32) => ∀ (H : Heap) (locs : List Loc) (ls : Array Slot), va_P D CL (w_Pb_nonZeros T q0 q0_a q0_b q0_c Rq0_a vq0_rows vq0_variables vq0_a) H → va_D A (w_Pb_nonZeros T q0 q0_a q0_b q0_c Rq0_a vq0_rows vq0_variables vq0_a) → va_S A s.heap H locs → lv_has ls 4 [(0, .ref q0), (1, .int st.1), (2, .int st.2)] → W p l e (rmk 0 0) s m args below meth c H locs 0 0 Q (F0 m 4 ls [])) (Wx := fun (e1 : Int32) => ∀ (H : Heap) (locs : List Loc) (ls : Array Slot), va_P D CL (w_Pb_nonZeros T q0 q0_a q0_b q0_c Rq0_a vq0_rows vq0_variables vq0_a) H → va_D A (w_Pb_nonZeros T q0 q0_a q0_b q0_c Rq0_a vq0_rows vq0_variables vq0_a) → va_S A s.heap H locs → lv_has ls 4 [(1, .int e1)] → W p l e (rmk 0 0) s m args below meth c H locs 0 0 Q (F0 m 55 ls [])) ?_ 2000 _ ul4 hul4 ?_ H locs ls hP hD hS hl
    · intro st rb4 h kc4 kx4 H locs ls hP hD hS hl
      obtain ⟨x1, x2⟩ := st
      have h : s_Pb_nonZeros_B4 vq0_rows vq0_variables vq0_a x1 x2 = some rb4 := h
      have L14 : ∀ (x1 : Int32) (x2 : Int32) (x3 : Int32), ∀ (H : Heap) (locs : List Loc) (ls : Array Slot), va_P D CL (w_Pb_nonZeros T q0 q0_a q0_b q0_c Rq0_a vq0_rows vq0_variables vq0_a) H → va_D A (w_Pb_nonZeros T q0 q0_a q0_b q0_c Rq0_a vq0_rows vq0_variables vq0_a) → va_S A s.heap H locs → lv_has ls 4 [(0, .ref q0), (1, .int x1), (2, .int x2), (3, .int x3)] → s_Pb_nonZeros_L14 vq0_rows vq0_variables vq0_a x1 x2 x3 = some rb4 → W p l e (rmk 0 0) s m args below meth c H locs 0 0 Q (F0 m 14 ls []) := by
        intro x1 x2 x3 H locs ls hP hD hS hl h
        unfold s_Pb_nonZeros_L14 at h
        obtain ⟨ul14, hul14, h⟩ := bi_some h
        refine loopO_W (Wh := fun (st : Int32 × Int32) => ∀ (H : Heap) (locs : List Loc) (ls : Array Slot), va_P D CL (w_Pb_nonZeros T q0 q0_a q0_b q0_c Rq0_a vq0_rows vq0_variables vq0_a) H → va_D A (w_Pb_nonZeros T q0 q0_a q0_b q0_c Rq0_a vq0_rows vq0_variables vq0_a) → va_S A s.heap H locs → lv_has ls 4 [(0, .ref q0), (1, .int st.1), (2, .int x2), (3, .int st.2)] → W p l e (rmk 0 0) s m args below meth c H locs 0 0 Q (F0 m 14 ls [])) (Wx := fun (e1 : Int32) => ∀ (H : Heap) (locs : List Loc) (ls : Array Slot), va_P D CL (w_Pb_nonZeros T q0 q0_a q0_b q0_c Rq0_a vq0_rows vq0_variables vq0_a) H → va_D A (w_Pb_nonZeros T q0 q0_a q0_b q0_c Rq0_a vq0_rows vq0_variables vq0_a) → va_S A s.heap H locs → lv_has ls 4 [(0, .ref q0), (1, .int e1), (2, .int x2)] → W p l e (rmk 0 0) s m args below meth c H locs 0 0 Q (F0 m 49 ls [])) ?_ 2000 _ ul14 hul14 ?_ H locs ls hP hD hS hl
        · intro st rb14 h kc14 kx14 H locs ls hP hD hS hl
          obtain ⟨x1, x3⟩ := st
          have h : s_Pb_nonZeros_B14 vq0_rows vq0_variables vq0_a x2 x1 x3 = some rb14 := h
          have J41 : ∀ (x3 : Int32) (y0 : Int32) (y1 : Int32), ∀ (H : Heap) (locs : List Loc) (ls : Array Slot), va_P D CL (w_Pb_nonZeros T q0 q0_a q0_b q0_c Rq0_a vq0_rows vq0_variables vq0_a) H → va_D A (w_Pb_nonZeros T q0 q0_a q0_b q0_c Rq0_a vq0_rows vq0_variables vq0_a) → va_S A s.heap H locs → lv_has ls 4 [(0, .ref q0), (2, .int x2), (3, .int x3)] → s_Pb_nonZeros_J41 vq0_rows vq0_variables vq0_a x2 x3 y0 y1 = some rb14 → W p l e (rmk 0 0) s m args below meth c H locs 0 0 Q (F0 m 41 ls [.int y1, .int y0]) := by
            intro x3 y0 y1 H locs ls hP hD hS hl h
            unfold s_Pb_nonZeros_J41 at h
            refine lv_iadd hx hb d_Pb_nonZeros_41 ?_
            refine lv_istore_n (lv' := [(1, .int (y0 + y1)), (0, .ref q0), (2, .int x2), (3, .int x3)]) hx hb d_Pb_nonZeros_42 rfl hl (by decide) rfl (fun ls hl => ?_)
            refine lv_iinc (v := x3 + 1) (lv' := [(3, .int (x3 + 1)), (1, .int (y0 + y1)), (0, .ref q0), (2, .int x2)]) hx hb d_Pb_nonZeros_43 hl (k := 3) rfl rfl (by decide) rfl (fun ls hl => ?_)
            refine lv_goto (tgt := 14) hx hb d_Pb_nonZeros_46 (by decide) ?_
            exact kc14 _ (Option.some.inj h).symm H locs ls hP hD hS (lv_sub hl [2, 1, 3, 0] rfl)
          unfold s_Pb_nonZeros_B14 at h
          refine lv_iload_n hx hb d_Pb_nonZeros_14 rfl (lv_at hl 3 rfl) ?_
          refine lv_aload_n hx hb d_Pb_nonZeros_15 rfl (lv_at hl 0 rfl) ?_
          refine va_get (D := D) (ci := 0) (v := .int vq0_variables) (C := "ConeForge$Problem") (T := FPb) (N := 5) hx hb hts iPb hown hK hP 0 rfl rfl 1 (by decide) (hts _ (bgc bw130)) (fun _ h9 => h9) rfl d_Pb_nonZeros_16 ?_
          refine lv_icmp_ge (tgt := 49) hx hb d_Pb_nonZeros_19 (by decide) (fun c1 => ?_) (fun c1 => ?_)
          · have h := it_t c1 h
            exact kx14 _ (Option.some.inj h).symm H locs ls hP hD hS (lv_sub hl [0, 1, 2] rfl)
          · have h := it_f c1 h
            refine lv_iload_n hx hb d_Pb_nonZeros_22 rfl (lv_at hl 1 rfl) ?_
            refine lv_aload_n hx hb d_Pb_nonZeros_23 rfl (lv_at hl 0 rfl) ?_
            refine va_get (D := D) (ci := 0) (v := .ref q0_a) (C := "ConeForge$Problem") (T := FPb) (N := 5) hx hb hts iPb hown hK hP 0 rfl rfl 2 (by decide) (hts _ (bgc bw131)) (fun _ h9 => h9) rfl d_Pb_nonZeros_24 ?_
            refine lv_iload_n hx hb d_Pb_nonZeros_27 rfl (lv_at hl 2 rfl) ?_
            obtain ⟨g2, h⟩ := gd_some h
            refine va_aldg (f := Rq0_a) hx hb hK hP 1 3 rfl rfl (inb_in g2) d_Pb_nonZeros_28 ?_
            refine lv_iload_n hx hb d_Pb_nonZeros_29 rfl (lv_at hl 3 rfl) ?_
            obtain ⟨g3, h⟩ := gd_some h
            refine va_dald hx hb hK hP (2 + x2.toNatClampNeg) 0 (gk5 (P := fun k => (w_Pb_nonZeros T q0 q0_a q0_b q0_c Rq0_a vq0_rows vq0_variables vq0_a)[2 + k]? = some (Rq0_a k, .inl (T 0, 8, .inr (.inr (.inr (.inl (vq0_a k))))))) rfl rfl rfl rfl rfl _ (inb_lt g2)) rfl (inb_in g3) d_Pb_nonZeros_30 ?_
            refine lv_dconst0 hx hb d_Pb_nonZeros_31 ?_
            refine lv_dcmp hx hb d_Pb_nonZeros_32 ?_
            refine lv_if_eq (tgt := 40) hx hb d_Pb_nonZeros_33 (by decide) (fun c4 => ?_) (fun c4 => ?_)
            · have h := it_t c4 h
              refine lv_iconst (v := 0) hx hb d_Pb_nonZeros_40 (by decide) ?_
              exact J41 x3 x1 0 H locs ls hP hD hS (lv_sub hl [0, 2, 3] rfl) h
            · have h := it_f c4 h
              refine lv_iconst (v := 1) hx hb d_Pb_nonZeros_36 (by decide) ?_
              refine lv_goto (tgt := 41) hx hb d_Pb_nonZeros_37 (by decide) ?_
              exact J41 x3 x1 1 H locs ls hP hD hS (lv_sub hl [0, 2, 3] rfl) h
        · intro H locs ls hP hD hS hl
          refine lv_iinc (v := x2 + 1) (lv' := [(2, .int (x2 + 1)), (0, .ref q0), (1, .int ul14)]) hx hb d_Pb_nonZeros_49 hl (k := 2) rfl rfl (by decide) rfl (fun ls hl => ?_)
          refine lv_goto (tgt := 4) hx hb d_Pb_nonZeros_52 (by decide) ?_
          exact kc4 _ (Option.some.inj h).symm H locs ls hP hD hS (lv_sub hl [1, 2, 0] rfl)
      unfold s_Pb_nonZeros_B4 at h
      refine lv_iload_n hx hb d_Pb_nonZeros_4 rfl (lv_at hl 2 rfl) ?_
      refine lv_aload_n hx hb d_Pb_nonZeros_5 rfl (lv_at hl 0 rfl) ?_
      refine va_get (D := D) (ci := 0) (v := .int vq0_rows) (C := "ConeForge$Problem") (T := FPb) (N := 5) hx hb hts iPb hown hK hP 0 rfl rfl 0 (by decide) (hts _ (bgc bw129)) (fun _ h9 => h9) rfl d_Pb_nonZeros_6 ?_
      refine lv_icmp_ge (tgt := 55) hx hb d_Pb_nonZeros_9 (by decide) (fun c5 => ?_) (fun c5 => ?_)
      · have h := it_t c5 h
        exact kx4 _ (Option.some.inj h).symm H locs ls hP hD hS (lv_sub hl [1] rfl)
      · have h := it_f c5 h
        refine lv_iconst (v := 0) hx hb d_Pb_nonZeros_12 (by decide) ?_
        refine lv_istore_n (lv' := [(3, .int 0), (0, .ref q0), (1, .int x1), (2, .int x2)]) hx hb d_Pb_nonZeros_13 rfl hl (by decide) rfl (fun ls hl => ?_)
        exact L14 x1 x2 0 H locs ls hP hD hS (lv_sub hl [1, 2, 3, 0] rfl) h
    · intro H locs ls hP hD hS hl
      refine lv_iload_n hx hb d_Pb_nonZeros_55 rfl (lv_at hl 0 rfl) ?_
      exact rtI hx hb hr hlocks hQ (Option.some.inj h) hP hS d_Pb_nonZeros_56 rfl rfl
  unfold s_Pb_nonZeros at h
  refine lv_iconst (v := 0) hx hb d_Pb_nonZeros_0 (by decide) ?_
  refine lv_istore_n (lv' := [(1, .int 0), (0, .ref q0)]) hx hb d_Pb_nonZeros_1 rfl hl (by decide) rfl (fun ls hl => ?_)
  refine lv_iconst (v := 0) hx hb d_Pb_nonZeros_2 (by decide) ?_
  refine lv_istore_n (lv' := [(2, .int 0), (1, .int 0), (0, .ref q0)]) hx hb d_Pb_nonZeros_3 rfl hl (by decide) rfl (fun ls hl => ?_)
  exact L4 0 0 H locs ls hP hD hS (lv_sub hl [2, 1, 0] rfl) h
