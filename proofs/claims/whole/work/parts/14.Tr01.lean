theorem d_Tr_byteOf_0 : decode prog_8_method_2_code 0 = .ok (.lload_n 0, 1) := by decide +kernel
theorem d_Tr_byteOf_1 : decode prog_8_method_2_code 1 = .ok (.bipush 56, 2) := by decide +kernel
theorem d_Tr_byteOf_3 : decode prog_8_method_2_code 3 = .ok (.bipush 8, 2) := by decide +kernel
theorem d_Tr_byteOf_5 : decode prog_8_method_2_code 5 = .ok (.iload_n 2, 1) := by decide +kernel
theorem d_Tr_byteOf_6 : decode prog_8_method_2_code 6 = .ok (.imul, 1) := by decide +kernel
theorem d_Tr_byteOf_7 : decode prog_8_method_2_code 7 = .ok (.isub, 1) := by decide +kernel
theorem d_Tr_byteOf_8 : decode prog_8_method_2_code 8 = .ok (.lushr, 1) := by decide +kernel
theorem d_Tr_byteOf_9 : decode prog_8_method_2_code 9 = .ok (.ldc2_w 45, 3) := by decide +kernel
theorem d_Tr_byteOf_12 : decode prog_8_method_2_code 12 = .ok (.land, 1) := by decide +kernel
theorem d_Tr_byteOf_13 : decode prog_8_method_2_code 13 = .ok (.l2i, 1) := by decide +kernel
theorem d_Tr_byteOf_14 : decode prog_8_method_2_code 14 = .ok (.ireturn, 1) := by decide +kernel
abbrev w_Tr_byteOf (T : Nat → ClassId)   : va_W := []
def s_Tr_byteOf (x0 : Int64) (x2 : Int32) : Option (Int32) :=
  some ((((x0.toUInt64 >>> ((56 - (8 * x2)).toInt64.toUInt64 &&& Int64.toUInt64 63)).toInt64) &&& 255).toInt32)
set_option maxHeartbeats 40000000 in
set_option maxRecDepth 100000 in
theorem c_Tr_byteOf (l : Launch) (D : va_G) (T : Nat → ClassId) (x0 : Int64) (x2 : Int32) (rm : Int32) (h : s_Tr_byteOf x0 x2 = some rm) : CtI l y_Tr_byteOf (Cond.code y_Tr_byteOf prog_8_method_2_code 3 (some .int) :: BIG) 0 0 D T [.long x0, .int x2] (w_Tr_byteOf T  ) (fun r => r) (fun r => (w_Tr_byteOf T  )) rm := by
  refine cf_entry (y := y_Tr_byteOf) (cc := prog_8_method_2_code) (nL := 3) (ret := (some .int)) (fr := 0) (lo := 0) (T := T) (av := [.long x0, .int x2]) (w := (w_Tr_byteOf T  )) (Qc := cfQi D (fun r => r) (fun r => (w_Tr_byteOf T  )) rm) (by decide) rfl (Nat.le_of_ble_eq_true rfl) ?_
  intro p e s m args below meth c A Q H locs ls hx hb hr hlocks hml hown hts hNW hK hA hQ hP hD hS hl
  have hown : s.vm.findClass "ConeForge$TextReader" = some m.cls := hown
  have hl : lv_has ls 3 [(0, .long x0), (2, .int x2)] := hl
  unfold s_Tr_byteOf at h
  refine lv_lload_n hx hb d_Tr_byteOf_0 rfl (lv_at hl 0 rfl) ?_
  refine lv_bipush (v := 56) hx hb d_Tr_byteOf_1 (by decide) ?_
  refine lv_bipush (v := 8) hx hb d_Tr_byteOf_3 (by decide) ?_
  refine lv_iload_n hx hb d_Tr_byteOf_5 rfl (lv_at hl 1 rfl) ?_
  refine lv_imul hx hb d_Tr_byteOf_6 ?_
  refine lv_isub hx hb d_Tr_byteOf_7 ?_
  refine lv_lushr (v := (x0.toUInt64 >>> ((56 - (8 * x2)).toInt64.toUInt64 &&& Int64.toUInt64 63)).toInt64) hx hb d_Tr_byteOf_8 rfl ?_
  refine lv_ldc2 (v := 255) hx hb hown (hts _ (bgc bw482)) d_Tr_byteOf_9 ?_
  refine lv_land hx hb d_Tr_byteOf_12 ?_
  refine lv_l2i (v := (((x0.toUInt64 >>> ((56 - (8 * x2)).toInt64.toUInt64 &&& Int64.toUInt64 63)).toInt64) &&& 255).toInt32) hx hb d_Tr_byteOf_13 rfl ?_
  exact rtI hx hb hr hlocks hQ (Option.some.inj h) hP hS d_Tr_byteOf_14 rfl rfl
theorem d_Tr_isReadable_0 : decode prog_8_method_3_code 0 = .ok (.iconst 0, 1) := by decide +kernel
theorem d_Tr_isReadable_1 : decode prog_8_method_3_code 1 = .ok (.istore_n 2, 1) := by decide +kernel
theorem d_Tr_isReadable_2 : decode prog_8_method_3_code 2 = .ok (.iload_n 2, 1) := by decide +kernel
theorem d_Tr_isReadable_3 : decode prog_8_method_3_code 3 = .ok (.bipush 8, 2) := by decide +kernel
theorem d_Tr_isReadable_5 : decode prog_8_method_3_code 5 = .ok (.if_icmp .ge 39, 3) := by decide +kernel
theorem d_Tr_isReadable_8 : decode prog_8_method_3_code 8 = .ok (.lload_n 0, 1) := by decide +kernel
theorem d_Tr_isReadable_9 : decode prog_8_method_3_code 9 = .ok (.iload_n 2, 1) := by decide +kernel
theorem d_Tr_isReadable_10 : decode prog_8_method_3_code 10 = .ok (.invokestatic 47, 3) := by decide +kernel
theorem d_Tr_isReadable_13 : decode prog_8_method_3_code 13 = .ok (.istore_n 3, 1) := by decide +kernel
theorem d_Tr_isReadable_14 : decode prog_8_method_3_code 14 = .ok (.iload_n 3, 1) := by decide +kernel
theorem d_Tr_isReadable_15 : decode prog_8_method_3_code 15 = .ok (.ifCond .eq 23, 3) := by decide +kernel
theorem d_Tr_isReadable_18 : decode prog_8_method_3_code 18 = .ok (.iload_n 3, 1) := by decide +kernel
theorem d_Tr_isReadable_19 : decode prog_8_method_3_code 19 = .ok (.bipush 10, 2) := by decide +kernel
theorem d_Tr_isReadable_21 : decode prog_8_method_3_code 21 = .ok (.if_icmp .eq 17, 3) := by decide +kernel
theorem d_Tr_isReadable_24 : decode prog_8_method_3_code 24 = .ok (.iload_n 3, 1) := by decide +kernel
theorem d_Tr_isReadable_25 : decode prog_8_method_3_code 25 = .ok (.bipush 32, 2) := by decide +kernel
theorem d_Tr_isReadable_27 : decode prog_8_method_3_code 27 = .ok (.if_icmp .lt 9, 3) := by decide +kernel
theorem d_Tr_isReadable_30 : decode prog_8_method_3_code 30 = .ok (.iload_n 3, 1) := by decide +kernel
theorem d_Tr_isReadable_31 : decode prog_8_method_3_code 31 = .ok (.bipush 126, 2) := by decide +kernel
theorem d_Tr_isReadable_33 : decode prog_8_method_3_code 33 = .ok (.if_icmp .le 5, 3) := by decide +kernel
theorem d_Tr_isReadable_36 : decode prog_8_method_3_code 36 = .ok (.iconst 0, 1) := by decide +kernel
theorem d_Tr_isReadable_37 : decode prog_8_method_3_code 37 = .ok (.ireturn, 1) := by decide +kernel
theorem d_Tr_isReadable_38 : decode prog_8_method_3_code 38 = .ok (.iinc 2 1, 3) := by decide +kernel
theorem d_Tr_isReadable_41 : decode prog_8_method_3_code 41 = .ok (.goto (-39), 3) := by decide +kernel
theorem d_Tr_isReadable_44 : decode prog_8_method_3_code 44 = .ok (.iconst 1, 1) := by decide +kernel
theorem d_Tr_isReadable_45 : decode prog_8_method_3_code 45 = .ok (.ireturn, 1) := by decide +kernel
abbrev w_Tr_isReadable (T : Nat → ClassId)   : va_W := []
def s_Tr_isReadable_J38 (x0 : Int64) (x2 : Int32) : Option ((Int32) ⊕ ((Unit) ⊕ (Int32))) :=
  some (.inl (x2 + 1))
def s_Tr_isReadable_B2 (x0 : Int64) (x2 : Int32) : Option ((Int32) ⊕ ((Unit) ⊕ (Int32))) :=
  if 8 ≤ x2 then (some (.inr (.inl ()))) else ((s_Tr_byteOf x0 x2).bind fun u2 => if u2 = 0 then (s_Tr_isReadable_J38 x0 x2) else (if u2 = 10 then (s_Tr_isReadable_J38 x0 x2) else (if u2 < 32 then (gd (isb 0) <| some (.inr (.inr 0))) else (if u2 ≤ 126 then (s_Tr_isReadable_J38 x0 x2) else (gd (isb 0) <| some (.inr (.inr 0)))))))
def s_Tr_isReadable_L2 (x0 : Int64) (x2 : Int32) : Option (Int32) :=
  (loopO (fun (st : Int32) => s_Tr_isReadable_B2 x0 st) 2000 x2).bind fun ul2 => Sum.elim (fun wl2 => gd (isb 1) <| some 1) (fun wl2 => some wl2) ul2
def s_Tr_isReadable (x0 : Int64) : Option (Int32) :=
  s_Tr_isReadable_L2 x0 0
set_option maxRecDepth 100000 in
theorem j_Tr_isReadable_10 (T : Nat → ClassId)  : ([].map (fun (i : Nat) => (w_Tr_isReadable T  )[i]?) = (w_Tr_byteOf T  ).map some) ∧ ([].map (fun (i : Nat) => (w_Tr_isReadable T  )[i]?) = (w_Tr_byteOf T  ).map some) ∧ ([].map (fun (i : Nat) => (w_Tr_isReadable T  )[i]?) = [].map (fun (i : Nat) => (w_Tr_isReadable T  )[i]?)) ∧ (w_Tr_byteOf T  ).map Prod.fst = (w_Tr_byteOf T  ).map Prod.fst ∧ (w_Tr_isReadable T  ).length = 0 :=
  ⟨rfl, rfl, Eq.trans (b := ([] : List (Option (Nat × va_E)))) rfl rfl, rfl, rfl⟩
set_option maxHeartbeats 40000000 in
set_option maxRecDepth 100000 in
theorem c_Tr_isReadable (l : Launch) (D : va_G) (T : Nat → ClassId) (x0 : Int64) (rm : Int32) (h : s_Tr_isReadable x0 = some rm) : CtI l y_Tr_isReadable (Cond.code y_Tr_isReadable prog_8_method_3_code 4 (some .boolean) :: BIG) 1 22 D T [.long x0] (w_Tr_isReadable T  ) (fun r => r) (fun r => (w_Tr_isReadable T  )) rm := by
  refine cf_entry (y := y_Tr_isReadable) (cc := prog_8_method_3_code) (nL := 4) (ret := (some .boolean)) (fr := 1) (lo := 22) (T := T) (av := [.long x0]) (w := (w_Tr_isReadable T  )) (Qc := cfQi D (fun r => r) (fun r => (w_Tr_isReadable T  )) rm) (by decide) rfl (Nat.le_of_ble_eq_true rfl) ?_
  intro p e s m args below meth c A Q H locs ls hx hb hr hlocks hml hown hts hNW hK hA hQ hP hD hS hl
  have hown : s.vm.findClass "ConeForge$TextReader" = some m.cls := hown
  have hl : lv_has ls 4 [(0, .long x0)] := hl
  have L2 : ∀ (x0 : Int64) (x2 : Int32), ∀ (H : Heap) (locs : List Loc) (ls : Array Slot), va_P D CL (w_Tr_isReadable T  ) H → va_D A (w_Tr_isReadable T  ) → va_S A s.heap H locs → lv_has ls 4 [(0, .long x0), (2, .int x2)] → s_Tr_isReadable_L2 x0 x2 = some rm → W p l e (rmk 1 22) s m args below meth c H locs 0 0 Q (F0 m 2 ls []) := by
    intro x0 x2 H locs ls hP hD hS hl h
    unfold s_Tr_isReadable_L2 at h
    obtain ⟨ul2, hul2, h⟩ := bi_some h
    refine loopO_W (Wh := fun (st : Int32) => ∀ (H : Heap) (locs : List Loc) (ls : Array Slot), va_P D CL (w_Tr_isReadable T  ) H → va_D A (w_Tr_isReadable T  ) → va_S A s.heap H locs → lv_has ls 4 [(0, .long x0), (2, .int st)] → W p l e (rmk 1 22) s m args below meth c H locs 0 0 Q (F0 m 2 ls [])) (Wx := fun (e0 : (Unit) ⊕ (Int32)) => Sum.elim (fun (e1 : Unit) => ∀ (H : Heap) (locs : List Loc) (ls : Array Slot), va_P D CL (w_Tr_isReadable T  ) H → va_D A (w_Tr_isReadable T  ) → va_S A s.heap H locs → lv_has ls 4 [] → W p l e (rmk 1 22) s m args below meth c H locs 0 0 Q (F0 m 44 ls [])) (fun e2 => e2 = rm) e0) ?_ 2000 _ ul2 hul2 ?_ H locs ls hP hD hS hl
    · intro st rb2 h kc2 kx2 H locs ls hP hD hS hl
      obtain ⟨x2, rfl⟩ : ∃ z, z = st := ⟨_, rfl⟩
      have h : s_Tr_isReadable_B2 x0 x2 = some rb2 := h
      have J38 : ∀ (x2 : Int32), ∀ (H : Heap) (locs : List Loc) (ls : Array Slot), va_P D CL (w_Tr_isReadable T  ) H → va_D A (w_Tr_isReadable T  ) → va_S A s.heap H locs → lv_has ls 4 [(0, .long x0), (2, .int x2)] → s_Tr_isReadable_J38 x0 x2 = some rb2 → W p l e (rmk 1 22) s m args below meth c H locs 0 0 Q (F0 m 38 ls []) := by
        intro x2 H locs ls hP hD hS hl h
        unfold s_Tr_isReadable_J38 at h
        refine lv_iinc (v := x2 + 1) (lv' := [(2, .int (x2 + 1)), (0, .long x0)]) hx hb d_Tr_isReadable_38 hl (k := 1) rfl rfl (by decide) rfl (fun ls hl => ?_)
        refine lv_goto (tgt := 2) hx hb d_Tr_isReadable_41 (by decide) ?_
        exact kc2 _ (Option.some.inj h).symm H locs ls hP hD hS (lv_sub hl [1, 0] rfl)
      unfold s_Tr_isReadable_B2 at h
      refine lv_iload_n hx hb d_Tr_isReadable_2 rfl (lv_at hl 1 rfl) ?_
      refine lv_bipush (v := 8) hx hb d_Tr_isReadable_3 (by decide) ?_
      refine lv_icmp_ge (tgt := 44) hx hb d_Tr_isReadable_5 (by decide) (fun c1 => ?_) (fun c1 => ?_)
      · have h := it_t c1 h
        exact kx2 _ (Option.some.inj h).symm H locs ls hP hD hS (lv_sub hl [] rfl)
      · have h := it_f c1 h
        refine lv_lload_n hx hb d_Tr_isReadable_8 rfl (lv_at hl 0 rfl) ?_
        refine lv_iload_n hx hb d_Tr_isReadable_9 rfl (lv_at hl 1 rfl) ?_
        obtain ⟨u2, hu2, h⟩ := bi_some h
        have jj3 := j_Tr_isReadable_10 T 
        refine kI2 (v := u2) (wc := (w_Tr_byteOf T  )) (wc' := (w_Tr_byteOf T  )) (w_Tr_isReadable T  ) (runOS (As := [.long x0, .int x2]) (rest := []) ((c_Tr_byteOf l D T   x0 x2 u2 hu2) H.size) ⟨hx, hb, hml, hown, hts⟩ (cwOS bw479 bw480 bw101 bw481 dd_Tr_byteOf hts ⟨Nat.le_of_ble_eq_true rfl, Nat.le_of_ble_eq_true rfl⟩)  hNW hK hP hD [] jj3.1 (by decide) rfl hl.1 rfl (lv_room (Nat.le_of_ble_eq_true rfl)) d_Tr_isReadable_10 ⟨Nat.le_of_ble_eq_true rfl, Nat.le_of_ble_eq_true rfl⟩) hP hD hS hA [] [] jj3.1 jj3.2.1 jj3.2.2.1 (N := 0) jj3.2.2.2.2 (by decide) jj3.2.2.2.1 (fun H locs hP hD hS => ?_)
        refine lv_istore_n (lv' := [(3, .int u2), (0, .long x0), (2, .int x2)]) hx hb d_Tr_isReadable_13 rfl hl (by decide) rfl (fun ls hl => ?_)
        refine lv_iload_n hx hb d_Tr_isReadable_14 rfl (lv_at hl 0 rfl) ?_
        refine lv_if_eq (tgt := 38) hx hb d_Tr_isReadable_15 (by decide) (fun c4 => ?_) (fun c4 => ?_)
        · have h := it_t c4 h
          exact J38 x2 H locs ls hP hD hS (lv_sub hl [1, 2] rfl) h
        · have h := it_f c4 h
          refine lv_iload_n hx hb d_Tr_isReadable_18 rfl (lv_at hl 0 rfl) ?_
          refine lv_bipush (v := 10) hx hb d_Tr_isReadable_19 (by decide) ?_
          refine lv_icmp_eq (tgt := 38) hx hb d_Tr_isReadable_21 (by decide) (fun c5 => ?_) (fun c5 => ?_)
          · have h := it_t c5 h
            exact J38 x2 H locs ls hP hD hS (lv_sub hl [1, 2] rfl) h
          · have h := it_f c5 h
            refine lv_iload_n hx hb d_Tr_isReadable_24 rfl (lv_at hl 0 rfl) ?_
            refine lv_bipush (v := 32) hx hb d_Tr_isReadable_25 (by decide) ?_
            refine lv_icmp_lt (tgt := 36) hx hb d_Tr_isReadable_27 (by decide) (fun c6 => ?_) (fun c6 => ?_)
            · have h := it_t c6 h
              refine lv_iconst (v := 0) hx hb d_Tr_isReadable_36 (by decide) ?_
              obtain ⟨g7, h⟩ := gd_some h
              exact rtZ hx hb hr hlocks g7 hQ (kx2 _ (Option.some.inj h).symm) hP hS d_Tr_isReadable_37 rfl rfl
            · have h := it_f c6 h
              refine lv_iload_n hx hb d_Tr_isReadable_30 rfl (lv_at hl 0 rfl) ?_
              refine lv_bipush (v := 126) hx hb d_Tr_isReadable_31 (by decide) ?_
              refine lv_icmp_le (tgt := 38) hx hb d_Tr_isReadable_33 (by decide) (fun c8 => ?_) (fun c8 => ?_)
              · have h := it_t c8 h
                exact J38 x2 H locs ls hP hD hS (lv_sub hl [1, 2] rfl) h
              · have h := it_f c8 h
                refine lv_iconst (v := 0) hx hb d_Tr_isReadable_36 (by decide) ?_
                obtain ⟨g9, h⟩ := gd_some h
                exact rtZ hx hb hr hlocks g9 hQ (kx2 _ (Option.some.inj h).symm) hP hS d_Tr_isReadable_37 rfl rfl
    · cases ul2 with
      | inl wl2 =>
        intro H locs ls hP hD hS hl
        refine lv_iconst (v := 1) hx hb d_Tr_isReadable_44 (by decide) ?_
        obtain ⟨g10, h⟩ := gd_some h
        exact rtZ hx hb hr hlocks g10 hQ (Option.some.inj h) hP hS d_Tr_isReadable_45 rfl rfl
      | inr wl2 => exact Option.some.inj h
  unfold s_Tr_isReadable at h
  refine lv_iconst (v := 0) hx hb d_Tr_isReadable_0 (by decide) ?_
  refine lv_istore_n (lv' := [(2, .int 0), (0, .long x0)]) hx hb d_Tr_isReadable_1 rfl hl (by decide) rfl (fun ls hl => ?_)
  exact L2 x0 0 H locs ls hP hD hS (lv_sub hl [1, 0] rfl) h
theorem d_Tr_charactersOf_0 : decode prog_8_method_4_code 0 = .ok (.iconst 0, 1) := by decide +kernel
theorem d_Tr_charactersOf_1 : decode prog_8_method_4_code 1 = .ok (.istore_n 2, 1) := by decide +kernel
theorem d_Tr_charactersOf_2 : decode prog_8_method_4_code 2 = .ok (.iconst 0, 1) := by decide +kernel
theorem d_Tr_charactersOf_3 : decode prog_8_method_4_code 3 = .ok (.istore_n 3, 1) := by decide +kernel
theorem d_Tr_charactersOf_4 : decode prog_8_method_4_code 4 = .ok (.iload_n 3, 1) := by decide +kernel
theorem d_Tr_charactersOf_5 : decode prog_8_method_4_code 5 = .ok (.bipush 8, 2) := by decide +kernel
theorem d_Tr_charactersOf_7 : decode prog_8_method_4_code 7 = .ok (.if_icmp .ge 25, 3) := by decide +kernel
theorem d_Tr_charactersOf_10 : decode prog_8_method_4_code 10 = .ok (.iload_n 2, 1) := by decide +kernel
theorem d_Tr_charactersOf_11 : decode prog_8_method_4_code 11 = .ok (.lload_n 0, 1) := by decide +kernel
theorem d_Tr_charactersOf_12 : decode prog_8_method_4_code 12 = .ok (.iload_n 3, 1) := by decide +kernel
theorem d_Tr_charactersOf_13 : decode prog_8_method_4_code 13 = .ok (.invokestatic 47, 3) := by decide +kernel
theorem d_Tr_charactersOf_16 : decode prog_8_method_4_code 16 = .ok (.ifCond .eq 7, 3) := by decide +kernel
theorem d_Tr_charactersOf_19 : decode prog_8_method_4_code 19 = .ok (.iconst 1, 1) := by decide +kernel
theorem d_Tr_charactersOf_20 : decode prog_8_method_4_code 20 = .ok (.goto 4, 3) := by decide +kernel
theorem d_Tr_charactersOf_23 : decode prog_8_method_4_code 23 = .ok (.iconst 0, 1) := by decide +kernel
theorem d_Tr_charactersOf_24 : decode prog_8_method_4_code 24 = .ok (.iadd, 1) := by decide +kernel
theorem d_Tr_charactersOf_25 : decode prog_8_method_4_code 25 = .ok (.istore_n 2, 1) := by decide +kernel
theorem d_Tr_charactersOf_26 : decode prog_8_method_4_code 26 = .ok (.iinc 3 1, 3) := by decide +kernel
theorem d_Tr_charactersOf_29 : decode prog_8_method_4_code 29 = .ok (.goto (-25), 3) := by decide +kernel
theorem d_Tr_charactersOf_32 : decode prog_8_method_4_code 32 = .ok (.iload_n 2, 1) := by decide +kernel
theorem d_Tr_charactersOf_33 : decode prog_8_method_4_code 33 = .ok (.ireturn, 1) := by decide +kernel
abbrev w_Tr_charactersOf (T : Nat → ClassId)   : va_W := []
def s_Tr_charactersOf_J24 (x0 : Int64) (x3 : Int32) (y0 : Int32) (y1 : Int32) : Option ((Int32 × Int32) ⊕ (Int32)) :=
  some (.inl (y0 + y1, x3 + 1))
def s_Tr_charactersOf_B4 (x0 : Int64) (x2 : Int32) (x3 : Int32) : Option ((Int32 × Int32) ⊕ (Int32)) :=
  if 8 ≤ x3 then (some (.inr x2)) else ((s_Tr_byteOf x0 x3).bind fun u2 => if u2 = 0 then (s_Tr_charactersOf_J24 x0 x3 x2 0) else (s_Tr_charactersOf_J24 x0 x3 x2 1))
def s_Tr_charactersOf_L4 (x0 : Int64) (x2 : Int32) (x3 : Int32) : Option (Int32) :=
  (loopO (fun (st : Int32 × Int32) => s_Tr_charactersOf_B4 x0 st.1 st.2) 2000 (x2, x3)).bind fun ul4 => some ul4
def s_Tr_charactersOf (x0 : Int64) : Option (Int32) :=
  s_Tr_charactersOf_L4 x0 0 0
set_option maxRecDepth 100000 in
theorem j_Tr_charactersOf_13 (T : Nat → ClassId)  : ([].map (fun (i : Nat) => (w_Tr_charactersOf T  )[i]?) = (w_Tr_byteOf T  ).map some) ∧ ([].map (fun (i : Nat) => (w_Tr_charactersOf T  )[i]?) = (w_Tr_byteOf T  ).map some) ∧ ([].map (fun (i : Nat) => (w_Tr_charactersOf T  )[i]?) = [].map (fun (i : Nat) => (w_Tr_charactersOf T  )[i]?)) ∧ (w_Tr_byteOf T  ).map Prod.fst = (w_Tr_byteOf T  ).map Prod.fst ∧ (w_Tr_charactersOf T  ).length = 0 :=
  ⟨rfl, rfl, Eq.trans (b := ([] : List (Option (Nat × va_E)))) rfl rfl, rfl, rfl⟩
set_option maxHeartbeats 40000000 in
set_option maxRecDepth 100000 in
theorem c_Tr_charactersOf (l : Launch) (D : va_G) (T : Nat → ClassId) (x0 : Int64) (rm : Int32) (h : s_Tr_charactersOf x0 = some rm) : CtI l y_Tr_charactersOf (Cond.code y_Tr_charactersOf prog_8_method_4_code 4 (some .int) :: BIG) 1 22 D T [.long x0] (w_Tr_charactersOf T  ) (fun r => r) (fun r => (w_Tr_charactersOf T  )) rm := by
  refine cf_entry (y := y_Tr_charactersOf) (cc := prog_8_method_4_code) (nL := 4) (ret := (some .int)) (fr := 1) (lo := 22) (T := T) (av := [.long x0]) (w := (w_Tr_charactersOf T  )) (Qc := cfQi D (fun r => r) (fun r => (w_Tr_charactersOf T  )) rm) (by decide) rfl (Nat.le_of_ble_eq_true rfl) ?_
  intro p e s m args below meth c A Q H locs ls hx hb hr hlocks hml hown hts hNW hK hA hQ hP hD hS hl
  have hown : s.vm.findClass "ConeForge$TextReader" = some m.cls := hown
  have hl : lv_has ls 4 [(0, .long x0)] := hl
  have L4 : ∀ (x0 : Int64) (x2 : Int32) (x3 : Int32), ∀ (H : Heap) (locs : List Loc) (ls : Array Slot), va_P D CL (w_Tr_charactersOf T  ) H → va_D A (w_Tr_charactersOf T  ) → va_S A s.heap H locs → lv_has ls 4 [(0, .long x0), (2, .int x2), (3, .int x3)] → s_Tr_charactersOf_L4 x0 x2 x3 = some rm → W p l e (rmk 1 22) s m args below meth c H locs 0 0 Q (F0 m 4 ls []) := by
    intro x0 x2 x3 H locs ls hP hD hS hl h
    unfold s_Tr_charactersOf_L4 at h
    obtain ⟨ul4, hul4, h⟩ := bi_some h
    refine loopO_W (Wh := fun (st : Int32 × Int32) => ∀ (H : Heap) (locs : List Loc) (ls : Array Slot), va_P D CL (w_Tr_charactersOf T  ) H → va_D A (w_Tr_charactersOf T  ) → va_S A s.heap H locs → lv_has ls 4 [(0, .long x0), (2, .int st.1), (3, .int st.2)] → W p l e (rmk 1 22) s m args below meth c H locs 0 0 Q (F0 m 4 ls [])) (Wx := fun (e1 : Int32) => ∀ (H : Heap) (locs : List Loc) (ls : Array Slot), va_P D CL (w_Tr_charactersOf T  ) H → va_D A (w_Tr_charactersOf T  ) → va_S A s.heap H locs → lv_has ls 4 [(2, .int e1)] → W p l e (rmk 1 22) s m args below meth c H locs 0 0 Q (F0 m 32 ls [])) ?_ 2000 _ ul4 hul4 ?_ H locs ls hP hD hS hl
    · intro st rb4 h kc4 kx4 H locs ls hP hD hS hl
      obtain ⟨x2, x3⟩ := st
      have h : s_Tr_charactersOf_B4 x0 x2 x3 = some rb4 := h
      have J24 : ∀ (x3 : Int32) (y0 : Int32) (y1 : Int32), ∀ (H : Heap) (locs : List Loc) (ls : Array Slot), va_P D CL (w_Tr_charactersOf T  ) H → va_D A (w_Tr_charactersOf T  ) → va_S A s.heap H locs → lv_has ls 4 [(0, .long x0), (3, .int x3)] → s_Tr_charactersOf_J24 x0 x3 y0 y1 = some rb4 → W p l e (rmk 1 22) s m args below meth c H locs 0 0 Q (F0 m 24 ls [.int y1, .int y0]) := by
        intro x3 y0 y1 H locs ls hP hD hS hl h
        unfold s_Tr_charactersOf_J24 at h
        refine lv_iadd hx hb d_Tr_charactersOf_24 ?_
        refine lv_istore_n (lv' := [(2, .int (y0 + y1)), (0, .long x0), (3, .int x3)]) hx hb d_Tr_charactersOf_25 rfl hl (by decide) rfl (fun ls hl => ?_)
        refine lv_iinc (v := x3 + 1) (lv' := [(3, .int (x3 + 1)), (2, .int (y0 + y1)), (0, .long x0)]) hx hb d_Tr_charactersOf_26 hl (k := 2) rfl rfl (by decide) rfl (fun ls hl => ?_)
        refine lv_goto (tgt := 4) hx hb d_Tr_charactersOf_29 (by decide) ?_
        exact kc4 _ (Option.some.inj h).symm H locs ls hP hD hS (lv_sub hl [2, 1, 0] rfl)
      unfold s_Tr_charactersOf_B4 at h
      refine lv_iload_n hx hb d_Tr_charactersOf_4 rfl (lv_at hl 2 rfl) ?_
      refine lv_bipush (v := 8) hx hb d_Tr_charactersOf_5 (by decide) ?_
      refine lv_icmp_ge (tgt := 32) hx hb d_Tr_charactersOf_7 (by decide) (fun c1 => ?_) (fun c1 => ?_)
      · have h := it_t c1 h
        exact kx4 _ (Option.some.inj h).symm H locs ls hP hD hS (lv_sub hl [1] rfl)
      · have h := it_f c1 h
        refine lv_iload_n hx hb d_Tr_charactersOf_10 rfl (lv_at hl 1 rfl) ?_
        refine lv_lload_n hx hb d_Tr_charactersOf_11 rfl (lv_at hl 0 rfl) ?_
        refine lv_iload_n hx hb d_Tr_charactersOf_12 rfl (lv_at hl 2 rfl) ?_
        obtain ⟨u2, hu2, h⟩ := bi_some h
        have jj3 := j_Tr_charactersOf_13 T 
        refine kI2 (v := u2) (wc := (w_Tr_byteOf T  )) (wc' := (w_Tr_byteOf T  )) (w_Tr_charactersOf T  ) (runOS (As := [.long x0, .int x3]) (rest := [.int x2]) ((c_Tr_byteOf l D T   x0 x3 u2 hu2) H.size) ⟨hx, hb, hml, hown, hts⟩ (cwOS bw479 bw480 bw101 bw481 dd_Tr_byteOf hts ⟨Nat.le_of_ble_eq_true rfl, Nat.le_of_ble_eq_true rfl⟩)  hNW hK hP hD [] jj3.1 (by decide) rfl hl.1 rfl (lv_room (Nat.le_of_ble_eq_true rfl)) d_Tr_charactersOf_13 ⟨Nat.le_of_ble_eq_true rfl, Nat.le_of_ble_eq_true rfl⟩) hP hD hS hA [] [] jj3.1 jj3.2.1 jj3.2.2.1 (N := 0) jj3.2.2.2.2 (by decide) jj3.2.2.2.1 (fun H locs hP hD hS => ?_)
        refine lv_if_eq (tgt := 23) hx hb d_Tr_charactersOf_16 (by decide) (fun c4 => ?_) (fun c4 => ?_)
        · have h := it_t c4 h
          refine lv_iconst (v := 0) hx hb d_Tr_charactersOf_23 (by decide) ?_
          exact J24 x3 x2 0 H locs ls hP hD hS (lv_sub hl [0, 2] rfl) h
        · have h := it_f c4 h
          refine lv_iconst (v := 1) hx hb d_Tr_charactersOf_19 (by decide) ?_
          refine lv_goto (tgt := 24) hx hb d_Tr_charactersOf_20 (by decide) ?_
          exact J24 x3 x2 1 H locs ls hP hD hS (lv_sub hl [0, 2] rfl) h
    · intro H locs ls hP hD hS hl
      refine lv_iload_n hx hb d_Tr_charactersOf_32 rfl (lv_at hl 0 rfl) ?_
      exact rtI hx hb hr hlocks hQ (Option.some.inj h) hP hS d_Tr_charactersOf_33 rfl rfl
  unfold s_Tr_charactersOf at h
  refine lv_iconst (v := 0) hx hb d_Tr_charactersOf_0 (by decide) ?_
  refine lv_istore_n (lv' := [(2, .int 0), (0, .long x0)]) hx hb d_Tr_charactersOf_1 rfl hl (by decide) rfl (fun ls hl => ?_)
  refine lv_iconst (v := 0) hx hb d_Tr_charactersOf_2 (by decide) ?_
  refine lv_istore_n (lv' := [(3, .int 0), (2, .int 0), (0, .long x0)]) hx hb d_Tr_charactersOf_3 rfl hl (by decide) rfl (fun ls hl => ?_)
  exact L4 x0 0 0 H locs ls hP hD hS (lv_sub hl [2, 1, 0] rfl) h
theorem d_Tr_append_0 : decode prog_8_method_5_code 0 = .ok (.aload_n 0, 1) := by decide +kernel
theorem d_Tr_append_1 : decode prog_8_method_5_code 1 = .ok (.getfield 22, 3) := by decide +kernel
theorem d_Tr_append_4 : decode prog_8_method_5_code 4 = .ok (.lload_n 1, 1) := by decide +kernel
theorem d_Tr_append_5 : decode prog_8_method_5_code 5 = .ok (.invokestatic 51, 3) := by decide +kernel
theorem d_Tr_append_8 : decode prog_8_method_5_code 8 = .ok (.iadd, 1) := by decide +kernel
theorem d_Tr_append_9 : decode prog_8_method_5_code 9 = .ok (.sipush 300, 3) := by decide +kernel
theorem d_Tr_append_12 : decode prog_8_method_5_code 12 = .ok (.if_icmp .le 5, 3) := by decide +kernel
theorem d_Tr_append_15 : decode prog_8_method_5_code 15 = .ok (.iconst 0, 1) := by decide +kernel
theorem d_Tr_append_16 : decode prog_8_method_5_code 16 = .ok (.ireturn, 1) := by decide +kernel
theorem d_Tr_append_17 : decode prog_8_method_5_code 17 = .ok (.iconst 0, 1) := by decide +kernel
theorem d_Tr_append_18 : decode prog_8_method_5_code 18 = .ok (.istore_n 3, 1) := by decide +kernel
theorem d_Tr_append_19 : decode prog_8_method_5_code 19 = .ok (.iload_n 3, 1) := by decide +kernel
theorem d_Tr_append_20 : decode prog_8_method_5_code 20 = .ok (.bipush 8, 2) := by decide +kernel
theorem d_Tr_append_22 : decode prog_8_method_5_code 22 = .ok (.if_icmp .ge 43, 3) := by decide +kernel
theorem d_Tr_append_25 : decode prog_8_method_5_code 25 = .ok (.lload_n 1, 1) := by decide +kernel
theorem d_Tr_append_26 : decode prog_8_method_5_code 26 = .ok (.iload_n 3, 1) := by decide +kernel
theorem d_Tr_append_27 : decode prog_8_method_5_code 27 = .ok (.invokestatic 47, 3) := by decide +kernel
theorem d_Tr_append_30 : decode prog_8_method_5_code 30 = .ok (.istore 4, 2) := by decide +kernel
theorem d_Tr_append_32 : decode prog_8_method_5_code 32 = .ok (.iload 4, 2) := by decide +kernel
theorem d_Tr_append_34 : decode prog_8_method_5_code 34 = .ok (.ifCond .eq 25, 3) := by decide +kernel
theorem d_Tr_append_37 : decode prog_8_method_5_code 37 = .ok (.aload_n 0, 1) := by decide +kernel
theorem d_Tr_append_38 : decode prog_8_method_5_code 38 = .ok (.getfield 9, 3) := by decide +kernel
theorem d_Tr_append_41 : decode prog_8_method_5_code 41 = .ok (.aload_n 0, 1) := by decide +kernel
theorem d_Tr_append_42 : decode prog_8_method_5_code 42 = .ok (.getfield 22, 3) := by decide +kernel
theorem d_Tr_append_45 : decode prog_8_method_5_code 45 = .ok (.iload 4, 2) := by decide +kernel
theorem d_Tr_append_47 : decode prog_8_method_5_code 47 = .ok (.i2c, 1) := by decide +kernel
theorem d_Tr_append_48 : decode prog_8_method_5_code 48 = .ok (.castore, 1) := by decide +kernel
theorem d_Tr_append_49 : decode prog_8_method_5_code 49 = .ok (.aload_n 0, 1) := by decide +kernel
theorem d_Tr_append_50 : decode prog_8_method_5_code 50 = .ok (.dup, 1) := by decide +kernel
theorem d_Tr_append_51 : decode prog_8_method_5_code 51 = .ok (.getfield 22, 3) := by decide +kernel
theorem d_Tr_append_54 : decode prog_8_method_5_code 54 = .ok (.iconst 1, 1) := by decide +kernel
theorem d_Tr_append_55 : decode prog_8_method_5_code 55 = .ok (.iadd, 1) := by decide +kernel
theorem d_Tr_append_56 : decode prog_8_method_5_code 56 = .ok (.putfield 22, 3) := by decide +kernel
theorem d_Tr_append_59 : decode prog_8_method_5_code 59 = .ok (.iinc 3 1, 3) := by decide +kernel
theorem d_Tr_append_62 : decode prog_8_method_5_code 62 = .ok (.goto (-43), 3) := by decide +kernel
theorem d_Tr_append_65 : decode prog_8_method_5_code 65 = .ok (.iconst 1, 1) := by decide +kernel
theorem d_Tr_append_66 : decode prog_8_method_5_code 66 = .ok (.ireturn, 1) := by decide +kernel
abbrev w_Tr_append (T : Nat → ClassId) (q0 : Nat) (q0_characters : Nat) (q0_fresh : Nat) (vq0_length : Int32) (vq0_at : Int32) (vq0_first : Int32) (vq0_digits : Int32) (vq0_value : UInt64) (vq0_numbersRead : Int32) (vq0_failedAt : Int32) (vq0_characters : Nat → Int32) : va_W := [(q0, .inr (3, [.ref q0_characters, .ref q0_fresh, .int vq0_length, .int vq0_at, .int vq0_first, .int vq0_digits, .double vq0_value, .int vq0_numbersRead, .int vq0_failedAt])), (q0_characters, .inl (T 2, 300, .inl vq0_characters))]
def s_Tr_append_J59 (vq0_length : Int32) (vq0_at : Int32) (vq0_first : Int32) (vq0_digits : Int32) (vq0_value : UInt64) (vq0_numbersRead : Int32) (vq0_failedAt : Int32) (vq0_characters : Nat → Int32) (x1 : Int64) (x3 : Int32) : Option ((Int32 × (Nat → Int32) × Int32) ⊕ (Int32 × (Nat → Int32))) :=
  some (.inl (vq0_length, vq0_characters, x3 + 1))
def s_Tr_append_B19 (vq0_at : Int32) (vq0_first : Int32) (vq0_digits : Int32) (vq0_value : UInt64) (vq0_numbersRead : Int32) (vq0_failedAt : Int32) (x1 : Int64) (vq0_length : Int32) (vq0_characters : Nat → Int32) (x3 : Int32) : Option ((Int32 × (Nat → Int32) × Int32) ⊕ (Int32 × (Nat → Int32))) :=
  if 8 ≤ x3 then (some (.inr (vq0_length, vq0_characters))) else ((s_Tr_byteOf x1 x3).bind fun u2 => if u2 = 0 then (s_Tr_append_J59 vq0_length vq0_at vq0_first vq0_digits vq0_value vq0_numbersRead vq0_failedAt vq0_characters x1 x3) else (gd (inb vq0_length 300) <| s_Tr_append_J59 (vq0_length + 1) vq0_at vq0_first vq0_digits vq0_value vq0_numbersRead vq0_failedAt (upd vq0_characters vq0_length.toNatClampNeg (vp_nar .char ((u2.toUInt32 % 65536).toInt32))) x1 x3))
def s_Tr_append_L19 (vq0_length : Int32) (vq0_at : Int32) (vq0_first : Int32) (vq0_digits : Int32) (vq0_value : UInt64) (vq0_numbersRead : Int32) (vq0_failedAt : Int32) (vq0_characters : Nat → Int32) (x1 : Int64) (x3 : Int32) : Option (Int32 × Int32 × (Nat → Int32)) :=
  (loopO (fun (st : Int32 × (Nat → Int32) × Int32) => s_Tr_append_B19 vq0_at vq0_first vq0_digits vq0_value vq0_numbersRead vq0_failedAt x1 st.1 st.2.1 st.2.2) 2000 (vq0_length, vq0_characters, x3)).bind fun ul19 => gd (isb 1) <| some (1, ul19.1, ul19.2)
def s_Tr_append (vq0_length : Int32) (vq0_at : Int32) (vq0_first : Int32) (vq0_digits : Int32) (vq0_value : UInt64) (vq0_numbersRead : Int32) (vq0_failedAt : Int32) (vq0_characters : Nat → Int32) (x1 : Int64) : Option (Int32 × Int32 × (Nat → Int32)) :=
  (s_Tr_charactersOf x1).bind fun u7 => if (vq0_length + u7) ≤ 300 then (s_Tr_append_L19 vq0_length vq0_at vq0_first vq0_digits vq0_value vq0_numbersRead vq0_failedAt vq0_characters x1 0) else (gd (isb 0) <| some (0, vq0_length, vq0_characters))
set_option maxRecDepth 100000 in
theorem j_Tr_append_27 (T : Nat → ClassId) (q0 : Nat) (q0_characters : Nat) (q0_fresh : Nat) (vq0_length : Int32) (vq0_at : Int32) (vq0_first : Int32) (vq0_digits : Int32) (vq0_value : UInt64) (vq0_numbersRead : Int32) (vq0_failedAt : Int32) (vq0_characters : Nat → Int32) : ([].map (fun (i : Nat) => (w_Tr_append T q0 q0_characters q0_fresh vq0_length vq0_at vq0_first vq0_digits vq0_value vq0_numbersRead vq0_failedAt vq0_characters)[i]?) = (w_Tr_byteOf T  ).map some) ∧ ([].map (fun (i : Nat) => (w_Tr_append T q0 q0_characters q0_fresh vq0_length vq0_at vq0_first vq0_digits vq0_value vq0_numbersRead vq0_failedAt vq0_characters)[i]?) = (w_Tr_byteOf T  ).map some) ∧ ([0, 1].map (fun (i : Nat) => (w_Tr_append T q0 q0_characters q0_fresh vq0_length vq0_at vq0_first vq0_digits vq0_value vq0_numbersRead vq0_failedAt vq0_characters)[i]?) = [0, 1].map (fun (i : Nat) => (w_Tr_append T q0 q0_characters q0_fresh vq0_length vq0_at vq0_first vq0_digits vq0_value vq0_numbersRead vq0_failedAt vq0_characters)[i]?)) ∧ (w_Tr_byteOf T  ).map Prod.fst = (w_Tr_byteOf T  ).map Prod.fst ∧ (w_Tr_append T q0 q0_characters q0_fresh vq0_length vq0_at vq0_first vq0_digits vq0_value vq0_numbersRead vq0_failedAt vq0_characters).length = 2 :=
  ⟨rfl, rfl, Eq.trans (b := ([some (q0, .inr (3, [.ref q0_characters, .ref q0_fresh, .int vq0_length, .int vq0_at, .int vq0_first, .int vq0_digits, .double vq0_value, .int vq0_numbersRead, .int vq0_failedAt])), some (q0_characters, .inl (T 2, 300, .inl vq0_characters))] : List (Option (Nat × va_E)))) rfl rfl, rfl, rfl⟩
set_option maxRecDepth 100000 in
theorem j_Tr_append_5 (T : Nat → ClassId) (q0 : Nat) (q0_characters : Nat) (q0_fresh : Nat) (vq0_length : Int32) (vq0_at : Int32) (vq0_first : Int32) (vq0_digits : Int32) (vq0_value : UInt64) (vq0_numbersRead : Int32) (vq0_failedAt : Int32) (vq0_characters : Nat → Int32) : ([].map (fun (i : Nat) => (w_Tr_append T q0 q0_characters q0_fresh vq0_length vq0_at vq0_first vq0_digits vq0_value vq0_numbersRead vq0_failedAt vq0_characters)[i]?) = (w_Tr_charactersOf T  ).map some) ∧ ([].map (fun (i : Nat) => (w_Tr_append T q0 q0_characters q0_fresh vq0_length vq0_at vq0_first vq0_digits vq0_value vq0_numbersRead vq0_failedAt vq0_characters)[i]?) = (w_Tr_charactersOf T  ).map some) ∧ ([0, 1].map (fun (i : Nat) => (w_Tr_append T q0 q0_characters q0_fresh vq0_length vq0_at vq0_first vq0_digits vq0_value vq0_numbersRead vq0_failedAt vq0_characters)[i]?) = [0, 1].map (fun (i : Nat) => (w_Tr_append T q0 q0_characters q0_fresh vq0_length vq0_at vq0_first vq0_digits vq0_value vq0_numbersRead vq0_failedAt vq0_characters)[i]?)) ∧ (w_Tr_charactersOf T  ).map Prod.fst = (w_Tr_charactersOf T  ).map Prod.fst ∧ (w_Tr_append T q0 q0_characters q0_fresh vq0_length vq0_at vq0_first vq0_digits vq0_value vq0_numbersRead vq0_failedAt vq0_characters).length = 2 :=
  ⟨rfl, rfl, Eq.trans (b := ([some (q0, .inr (3, [.ref q0_characters, .ref q0_fresh, .int vq0_length, .int vq0_at, .int vq0_first, .int vq0_digits, .double vq0_value, .int vq0_numbersRead, .int vq0_failedAt])), some (q0_characters, .inl (T 2, 300, .inl vq0_characters))] : List (Option (Nat × va_E)))) rfl rfl, rfl, rfl⟩
set_option maxHeartbeats 40000000 in
set_option maxRecDepth 100000 in
theorem c_Tr_append (l : Launch) (D : va_G) (T : Nat → ClassId) (q0 : Nat) (q0_characters : Nat) (q0_fresh : Nat) (vq0_length : Int32) (vq0_at : Int32) (vq0_first : Int32) (vq0_digits : Int32) (vq0_value : UInt64) (vq0_numbersRead : Int32) (vq0_failedAt : Int32) (vq0_characters : Nat → Int32) (x1 : Int64) (rm : Int32 × Int32 × (Nat → Int32)) (h : s_Tr_append vq0_length vq0_at vq0_first vq0_digits vq0_value vq0_numbersRead vq0_failedAt vq0_characters x1 = some rm) : CtI l y_Tr_append (Cond.code y_Tr_append prog_8_method_5_code 5 (some .boolean) :: BIG) 2 45 D T [.ref q0, .long x1] (w_Tr_append T q0 q0_characters q0_fresh vq0_length vq0_at vq0_first vq0_digits vq0_value vq0_numbersRead vq0_failedAt vq0_characters) (fun r => r.1) (fun r => (w_Tr_append T q0 q0_characters q0_fresh r.2.1 vq0_at vq0_first vq0_digits vq0_value vq0_numbersRead vq0_failedAt r.2.2)) rm := by
  refine cf_entry (y := y_Tr_append) (cc := prog_8_method_5_code) (nL := 5) (ret := (some .boolean)) (fr := 2) (lo := 45) (T := T) (av := [.ref q0, .long x1]) (w := (w_Tr_append T q0 q0_characters q0_fresh vq0_length vq0_at vq0_first vq0_digits vq0_value vq0_numbersRead vq0_failedAt vq0_characters)) (Qc := cfQi D (fun r => r.1) (fun r => (w_Tr_append T q0 q0_characters q0_fresh r.2.1 vq0_at vq0_first vq0_digits vq0_value vq0_numbersRead vq0_failedAt r.2.2)) rm) (by decide) rfl (Nat.le_of_ble_eq_true rfl) ?_
  intro p e s m args below meth c A Q H locs ls hx hb hr hlocks hml hown hts hNW hK hA hQ hP hD hS hl
  have hown : s.vm.findClass "ConeForge$TextReader" = some m.cls := hown
  have hl : lv_has ls 5 [(0, .ref q0), (1, .long x1)] := hl
  have L19 : ∀ (vq0_length : Int32) (vq0_characters : Nat → Int32) (x1 : Int64) (x3 : Int32), ∀ (H : Heap) (locs : List Loc) (ls : Array Slot), va_P D CL (w_Tr_append T q0 q0_characters q0_fresh vq0_length vq0_at vq0_first vq0_digits vq0_value vq0_numbersRead vq0_failedAt vq0_characters) H → va_D A (w_Tr_append T q0 q0_characters q0_fresh vq0_length vq0_at vq0_first vq0_digits vq0_value vq0_numbersRead vq0_failedAt vq0_characters) → va_S A s.heap H locs → lv_has ls 5 [(0, .ref q0), (1, .long x1), (3, .int x3)] → s_Tr_append_L19 vq0_length vq0_at vq0_first vq0_digits vq0_value vq0_numbersRead vq0_failedAt vq0_characters x1 x3 = some rm → W p l e (rmk 2 45) s m args below meth c H locs 0 0 Q (F0 m 19 ls []) := by
    intro vq0_length vq0_characters x1 x3 H locs ls hP hD hS hl h
    unfold s_Tr_append_L19 at h
    obtain ⟨ul19, hul19, h⟩ := bi_some h
    refine loopO_W (Wh := fun (st : Int32 × (Nat → Int32) × Int32) => ∀ (H : Heap) (locs : List Loc) (ls : Array Slot), va_P D CL (w_Tr_append T q0 q0_characters q0_fresh st.1 vq0_at vq0_first vq0_digits vq0_value vq0_numbersRead vq0_failedAt st.2.1) H → va_D A (w_Tr_append T q0 q0_characters q0_fresh st.1 vq0_at vq0_first vq0_digits vq0_value vq0_numbersRead vq0_failedAt st.2.1) → va_S A s.heap H locs → lv_has ls 5 [(0, .ref q0), (1, .long x1), (3, .int st.2.2)] → W p l e (rmk 2 45) s m args below meth c H locs 0 0 Q (F0 m 19 ls [])) (Wx := fun (e1 : Int32 × (Nat → Int32)) => ∀ (H : Heap) (locs : List Loc) (ls : Array Slot), va_P D CL (w_Tr_append T q0 q0_characters q0_fresh e1.1 vq0_at vq0_first vq0_digits vq0_value vq0_numbersRead vq0_failedAt e1.2) H → va_D A (w_Tr_append T q0 q0_characters q0_fresh e1.1 vq0_at vq0_first vq0_digits vq0_value vq0_numbersRead vq0_failedAt e1.2) → va_S A s.heap H locs → lv_has ls 5 [] → W p l e (rmk 2 45) s m args below meth c H locs 0 0 Q (F0 m 65 ls [])) ?_ 2000 _ ul19 hul19 ?_ H locs ls hP hD hS hl
    · intro st rb19 h kc19 kx19 H locs ls hP hD hS hl
      obtain ⟨vq0_length, vq0_characters, x3⟩ := st
      have h : s_Tr_append_B19 vq0_at vq0_first vq0_digits vq0_value vq0_numbersRead vq0_failedAt x1 vq0_length vq0_characters x3 = some rb19 := h
      have J59 : ∀ (vq0_length : Int32) (vq0_characters : Nat → Int32) (x3 : Int32), ∀ (H : Heap) (locs : List Loc) (ls : Array Slot), va_P D CL (w_Tr_append T q0 q0_characters q0_fresh vq0_length vq0_at vq0_first vq0_digits vq0_value vq0_numbersRead vq0_failedAt vq0_characters) H → va_D A (w_Tr_append T q0 q0_characters q0_fresh vq0_length vq0_at vq0_first vq0_digits vq0_value vq0_numbersRead vq0_failedAt vq0_characters) → va_S A s.heap H locs → lv_has ls 5 [(0, .ref q0), (1, .long x1), (3, .int x3)] → s_Tr_append_J59 vq0_length vq0_at vq0_first vq0_digits vq0_value vq0_numbersRead vq0_failedAt vq0_characters x1 x3 = some rb19 → W p l e (rmk 2 45) s m args below meth c H locs 0 0 Q (F0 m 59 ls []) := by
        intro vq0_length vq0_characters x3 H locs ls hP hD hS hl h
        unfold s_Tr_append_J59 at h
        refine lv_iinc (v := x3 + 1) (lv' := [(3, .int (x3 + 1)), (0, .ref q0), (1, .long x1)]) hx hb d_Tr_append_59 hl (k := 2) rfl rfl (by decide) rfl (fun ls hl => ?_)
        refine lv_goto (tgt := 19) hx hb d_Tr_append_62 (by decide) ?_
        exact kc19 _ (Option.some.inj h).symm H locs ls hP hD hS (lv_sub hl [1, 2, 0] rfl)
      unfold s_Tr_append_B19 at h
      refine lv_iload_n hx hb d_Tr_append_19 rfl (lv_at hl 2 rfl) ?_
      refine lv_bipush (v := 8) hx hb d_Tr_append_20 (by decide) ?_
      refine lv_icmp_ge (tgt := 65) hx hb d_Tr_append_22 (by decide) (fun c1 => ?_) (fun c1 => ?_)
      · have h := it_t c1 h
        exact kx19 _ (Option.some.inj h).symm H locs ls hP hD hS (lv_sub hl [] rfl)
      · have h := it_f c1 h
        refine lv_lload_n hx hb d_Tr_append_25 rfl (lv_at hl 1 rfl) ?_
        refine lv_iload_n hx hb d_Tr_append_26 rfl (lv_at hl 2 rfl) ?_
        obtain ⟨u2, hu2, h⟩ := bi_some h
        have jj3 := j_Tr_append_27 T q0 q0_characters q0_fresh vq0_length vq0_at vq0_first vq0_digits vq0_value vq0_numbersRead vq0_failedAt vq0_characters
        refine kI2 (v := u2) (wc := (w_Tr_byteOf T  )) (wc' := (w_Tr_byteOf T  )) (w_Tr_append T q0 q0_characters q0_fresh vq0_length vq0_at vq0_first vq0_digits vq0_value vq0_numbersRead vq0_failedAt vq0_characters) (runOS (As := [.long x1, .int x3]) (rest := []) ((c_Tr_byteOf l D T   x1 x3 u2 hu2) H.size) ⟨hx, hb, hml, hown, hts⟩ (cwOS bw479 bw480 bw101 bw481 dd_Tr_byteOf hts ⟨Nat.le_of_ble_eq_true rfl, Nat.le_of_ble_eq_true rfl⟩)  hNW hK hP hD [] jj3.1 (by decide) rfl hl.1 rfl (lv_room (Nat.le_of_ble_eq_true rfl)) d_Tr_append_27 ⟨Nat.le_of_ble_eq_true rfl, Nat.le_of_ble_eq_true rfl⟩) hP hD hS hA [] [0, 1] jj3.1 jj3.2.1 jj3.2.2.1 (N := 2) jj3.2.2.2.2 (by decide) jj3.2.2.2.1 (fun H locs hP hD hS => ?_)
        refine lv_istore (lv' := [(4, .int u2), (0, .ref q0), (1, .long x1), (3, .int x3)]) hx hb d_Tr_append_30 hl (by decide) rfl (fun ls hl => ?_)
        refine lv_iload hx hb d_Tr_append_32 (lv_at hl 0 rfl) ?_
        refine lv_if_eq (tgt := 59) hx hb d_Tr_append_34 (by decide) (fun c4 => ?_) (fun c4 => ?_)
        · have h := it_t c4 h
          exact J59 vq0_length vq0_characters x3 H locs ls hP hD hS (lv_sub hl [1, 2, 3] rfl) h
        · have h := it_f c4 h
          refine lv_aload_n hx hb d_Tr_append_37 rfl (lv_at hl 1 rfl) ?_
          refine va_get (D := D) (ci := 3) (v := .ref q0_characters) (C := "ConeForge$TextReader") (T := FTr) (N := 9) hx hb hts iTr hown hK hP 0 rfl rfl 0 (by decide) (hts _ (bgc bw166)) (fun _ h9 => h9) rfl d_Tr_append_38 ?_
          refine lv_aload_n hx hb d_Tr_append_41 rfl (lv_at hl 1 rfl) ?_
          refine va_get (D := D) (ci := 3) (v := .int vq0_length) (C := "ConeForge$TextReader") (T := FTr) (N := 9) hx hb hts iTr hown hK hP 0 rfl rfl 2 (by decide) (hts _ (bgc bw168)) (fun _ h9 => h9) rfl d_Tr_append_42 ?_
          refine lv_iload hx hb d_Tr_append_45 (lv_at hl 0 rfl) ?_
          refine lv_i2c (v := (u2.toUInt32 % 65536).toInt32) hx hb d_Tr_append_47 rfl ?_
          obtain ⟨g5, h⟩ := gd_some h
          refine va_cast hx hb hK hP hD hS 1 2 rfl rfl (inb_in g5) d_Tr_append_48 (fun H locs hP hD hS => ?_)
          have hP : va_P D CL (w_Tr_append T q0 q0_characters q0_fresh vq0_length vq0_at vq0_first vq0_digits vq0_value vq0_numbersRead vq0_failedAt (upd vq0_characters vq0_length.toNatClampNeg (vp_nar .char ((u2.toUInt32 % 65536).toInt32)))) H := hP
          have hD : va_D A (w_Tr_append T q0 q0_characters q0_fresh vq0_length vq0_at vq0_first vq0_digits vq0_value vq0_numbersRead vq0_failedAt (upd vq0_characters vq0_length.toNatClampNeg (vp_nar .char ((u2.toUInt32 % 65536).toInt32)))) := hD
          refine lv_aload_n hx hb d_Tr_append_49 rfl (lv_at hl 1 rfl) ?_
          refine lv_dup hx hb d_Tr_append_50 rfl ?_
          refine va_get (D := D) (ci := 3) (v := .int vq0_length) (C := "ConeForge$TextReader") (T := FTr) (N := 9) hx hb hts iTr hown hK hP 0 rfl rfl 2 (by decide) (hts _ (bgc bw168)) (fun _ h9 => h9) rfl d_Tr_append_51 ?_
          refine lv_iconst (v := 1) hx hb d_Tr_append_54 (by decide) ?_
          refine lv_iadd hx hb d_Tr_append_55 ?_
          refine va_put (D := D) (ci := 3) (v := .int (vq0_length + 1)) (ty := .int) (C := "ConeForge$TextReader") (T := FTr) (N := 9) hx hb hts iTr tTr tTr_ok nmTr hown hK hP hD hS 0 rfl rfl 2 (by decide) (hts _ (bgc bw168)) (fun _ h9 => h9) rfl (by decide +kernel) rfl rfl (Nat.le_of_ble_eq_true rfl) d_Tr_append_56 (fun H locs hP hD hS => ?_)
          have hP : va_P D CL (w_Tr_append T q0 q0_characters q0_fresh (vq0_length + 1) vq0_at vq0_first vq0_digits vq0_value vq0_numbersRead vq0_failedAt (upd vq0_characters vq0_length.toNatClampNeg (vp_nar .char ((u2.toUInt32 % 65536).toInt32)))) H := hP
          have hD : va_D A (w_Tr_append T q0 q0_characters q0_fresh (vq0_length + 1) vq0_at vq0_first vq0_digits vq0_value vq0_numbersRead vq0_failedAt (upd vq0_characters vq0_length.toNatClampNeg (vp_nar .char ((u2.toUInt32 % 65536).toInt32)))) := hD
          exact J59 (vq0_length + 1) (upd vq0_characters vq0_length.toNatClampNeg (vp_nar .char ((u2.toUInt32 % 65536).toInt32))) x3 H locs ls hP hD hS (lv_sub hl [1, 2, 3] rfl) h
    · intro H locs ls hP hD hS hl
      refine lv_iconst (v := 1) hx hb d_Tr_append_65 (by decide) ?_
      obtain ⟨g6, h⟩ := gd_some h
      exact rtZ hx hb hr hlocks g6 hQ (Option.some.inj h) hP hS d_Tr_append_66 rfl rfl
  unfold s_Tr_append at h
  refine lv_aload_n hx hb d_Tr_append_0 rfl (lv_at hl 0 rfl) ?_
  refine va_get (D := D) (ci := 3) (v := .int vq0_length) (C := "ConeForge$TextReader") (T := FTr) (N := 9) hx hb hts iTr hown hK hP 0 rfl rfl 2 (by decide) (hts _ (bgc bw168)) (fun _ h9 => h9) rfl d_Tr_append_1 ?_
  refine lv_lload_n hx hb d_Tr_append_4 rfl (lv_at hl 1 rfl) ?_
  obtain ⟨u7, hu7, h⟩ := bi_some h
  have jj8 := j_Tr_append_5 T q0 q0_characters q0_fresh vq0_length vq0_at vq0_first vq0_digits vq0_value vq0_numbersRead vq0_failedAt vq0_characters
  refine kI2 (v := u7) (wc := (w_Tr_charactersOf T  )) (wc' := (w_Tr_charactersOf T  )) (w_Tr_append T q0 q0_characters q0_fresh vq0_length vq0_at vq0_first vq0_digits vq0_value vq0_numbersRead vq0_failedAt vq0_characters) (runOS (As := [.long x1]) (rest := [.int vq0_length]) ((c_Tr_charactersOf l D T   x1 u7 hu7) H.size) ⟨hx, hb, hml, hown, hts⟩ (cwOS bw485 bw486 bw101 bw487 dd_Tr_charactersOf hts ⟨Nat.le_of_ble_eq_true rfl, Nat.le_of_ble_eq_true rfl⟩)  hNW hK hP hD [] jj8.1 (by decide) rfl hl.1 rfl (lv_room (Nat.le_of_ble_eq_true rfl)) d_Tr_append_5 ⟨Nat.le_of_ble_eq_true rfl, Nat.le_of_ble_eq_true rfl⟩) hP hD hS hA [] [0, 1] jj8.1 jj8.2.1 jj8.2.2.1 (N := 2) jj8.2.2.2.2 (by decide) jj8.2.2.2.1 (fun H locs hP hD hS => ?_)
  refine lv_iadd hx hb d_Tr_append_8 ?_
  refine lv_sipush (v := 300) hx hb d_Tr_append_9 (by decide) ?_
  refine lv_icmp_le (tgt := 17) hx hb d_Tr_append_12 (by decide) (fun c9 => ?_) (fun c9 => ?_)
  · have h := it_t c9 h
    refine lv_iconst (v := 0) hx hb d_Tr_append_17 (by decide) ?_
    refine lv_istore_n (lv' := [(3, .int 0), (0, .ref q0), (1, .long x1)]) hx hb d_Tr_append_18 rfl hl (by decide) rfl (fun ls hl => ?_)
    exact L19 vq0_length vq0_characters x1 0 H locs ls hP hD hS (lv_sub hl [1, 2, 0] rfl) h
  · have h := it_f c9 h
    refine lv_iconst (v := 0) hx hb d_Tr_append_15 (by decide) ?_
    obtain ⟨g10, h⟩ := gd_some h
    exact rtZ hx hb hr hlocks g10 hQ (Option.some.inj h) hP hS d_Tr_append_16 rfl rfl
theorem d_Tr_beginsLine_0 : decode prog_8_method_14_code 0 = .ok (.aload_n 0, 1) := by decide +kernel
theorem d_Tr_beginsLine_1 : decode prog_8_method_14_code 1 = .ok (.getfield 26, 3) := by decide +kernel
theorem d_Tr_beginsLine_4 : decode prog_8_method_14_code 4 = .ok (.ifCond .eq 19, 3) := by decide +kernel
theorem d_Tr_beginsLine_7 : decode prog_8_method_14_code 7 = .ok (.aload_n 0, 1) := by decide +kernel
theorem d_Tr_beginsLine_8 : decode prog_8_method_14_code 8 = .ok (.getfield 9, 3) := by decide +kernel
theorem d_Tr_beginsLine_11 : decode prog_8_method_14_code 11 = .ok (.aload_n 0, 1) := by decide +kernel
theorem d_Tr_beginsLine_12 : decode prog_8_method_14_code 12 = .ok (.getfield 26, 3) := by decide +kernel
theorem d_Tr_beginsLine_15 : decode prog_8_method_14_code 15 = .ok (.iconst 1, 1) := by decide +kernel
theorem d_Tr_beginsLine_16 : decode prog_8_method_14_code 16 = .ok (.isub, 1) := by decide +kernel
theorem d_Tr_beginsLine_17 : decode prog_8_method_14_code 17 = .ok (.caload, 1) := by decide +kernel
theorem d_Tr_beginsLine_18 : decode prog_8_method_14_code 18 = .ok (.bipush 10, 2) := by decide +kernel
theorem d_Tr_beginsLine_20 : decode prog_8_method_14_code 20 = .ok (.if_icmp .ne 7, 3) := by decide +kernel
theorem d_Tr_beginsLine_23 : decode prog_8_method_14_code 23 = .ok (.iconst 1, 1) := by decide +kernel
theorem d_Tr_beginsLine_24 : decode prog_8_method_14_code 24 = .ok (.goto 4, 3) := by decide +kernel
theorem d_Tr_beginsLine_27 : decode prog_8_method_14_code 27 = .ok (.iconst 0, 1) := by decide +kernel
theorem d_Tr_beginsLine_28 : decode prog_8_method_14_code 28 = .ok (.ireturn, 1) := by decide +kernel
abbrev w_Tr_beginsLine (T : Nat → ClassId) (q0 : Nat) (q0_characters : Nat) (q0_fresh : Nat) (vq0_length : Int32) (vq0_at : Int32) (vq0_first : Int32) (vq0_digits : Int32) (vq0_value : UInt64) (vq0_numbersRead : Int32) (vq0_failedAt : Int32) (vq0_characters : Nat → Int32) : va_W := [(q0, .inr (3, [.ref q0_characters, .ref q0_fresh, .int vq0_length, .int vq0_at, .int vq0_first, .int vq0_digits, .double vq0_value, .int vq0_numbersRead, .int vq0_failedAt])), (q0_characters, .inl (T 2, 300, .inl vq0_characters))]
def s_Tr_beginsLine_J23 (vq0_length : Int32) (vq0_at : Int32) (vq0_first : Int32) (vq0_digits : Int32) (vq0_value : UInt64) (vq0_numbersRead : Int32) (vq0_failedAt : Int32) (vq0_characters : Nat → Int32) : Option (Int32) :=
  gd (isb 1) <| some 1
def s_Tr_beginsLine (vq0_length : Int32) (vq0_at : Int32) (vq0_first : Int32) (vq0_digits : Int32) (vq0_value : UInt64) (vq0_numbersRead : Int32) (vq0_failedAt : Int32) (vq0_characters : Nat → Int32) : Option (Int32) :=
  if vq0_at = 0 then (s_Tr_beginsLine_J23 vq0_length vq0_at vq0_first vq0_digits vq0_value vq0_numbersRead vq0_failedAt vq0_characters) else (gd (inb (vq0_at - 1) 300) <| if (vq0_characters (vq0_at - 1).toNatClampNeg) = 10 then (s_Tr_beginsLine_J23 vq0_length vq0_at vq0_first vq0_digits vq0_value vq0_numbersRead vq0_failedAt vq0_characters) else (gd (isb 0) <| some 0))
set_option maxHeartbeats 40000000 in
set_option maxRecDepth 100000 in
theorem c_Tr_beginsLine (l : Launch) (D : va_G) (T : Nat → ClassId) (q0 : Nat) (q0_characters : Nat) (q0_fresh : Nat) (vq0_length : Int32) (vq0_at : Int32) (vq0_first : Int32) (vq0_digits : Int32) (vq0_value : UInt64) (vq0_numbersRead : Int32) (vq0_failedAt : Int32) (vq0_characters : Nat → Int32) (rm : Int32) (h : s_Tr_beginsLine vq0_length vq0_at vq0_first vq0_digits vq0_value vq0_numbersRead vq0_failedAt vq0_characters = some rm) : CtI l y_Tr_beginsLine (Cond.code y_Tr_beginsLine prog_8_method_14_code 1 (some .boolean) :: BIG) 0 0 D T [.ref q0] (w_Tr_beginsLine T q0 q0_characters q0_fresh vq0_length vq0_at vq0_first vq0_digits vq0_value vq0_numbersRead vq0_failedAt vq0_characters) (fun r => r) (fun r => (w_Tr_beginsLine T q0 q0_characters q0_fresh vq0_length vq0_at vq0_first vq0_digits vq0_value vq0_numbersRead vq0_failedAt vq0_characters)) rm := by
  refine cf_entry (y := y_Tr_beginsLine) (cc := prog_8_method_14_code) (nL := 1) (ret := (some .boolean)) (fr := 0) (lo := 0) (T := T) (av := [.ref q0]) (w := (w_Tr_beginsLine T q0 q0_characters q0_fresh vq0_length vq0_at vq0_first vq0_digits vq0_value vq0_numbersRead vq0_failedAt vq0_characters)) (Qc := cfQi D (fun r => r) (fun r => (w_Tr_beginsLine T q0 q0_characters q0_fresh vq0_length vq0_at vq0_first vq0_digits vq0_value vq0_numbersRead vq0_failedAt vq0_characters)) rm) (by decide) rfl (Nat.le_of_ble_eq_true rfl) ?_
  intro p e s m args below meth c A Q H locs ls hx hb hr hlocks hml hown hts hNW hK hA hQ hP hD hS hl
  have hown : s.vm.findClass "ConeForge$TextReader" = some m.cls := hown
  have hl : lv_has ls 1 [(0, .ref q0)] := hl
  have J23 : ∀ (H : Heap) (locs : List Loc) (ls : Array Slot), va_P D CL (w_Tr_beginsLine T q0 q0_characters q0_fresh vq0_length vq0_at vq0_first vq0_digits vq0_value vq0_numbersRead vq0_failedAt vq0_characters) H → va_D A (w_Tr_beginsLine T q0 q0_characters q0_fresh vq0_length vq0_at vq0_first vq0_digits vq0_value vq0_numbersRead vq0_failedAt vq0_characters) → va_S A s.heap H locs → lv_has ls 1 [] → s_Tr_beginsLine_J23 vq0_length vq0_at vq0_first vq0_digits vq0_value vq0_numbersRead vq0_failedAt vq0_characters = some rm → W p l e (rmk 0 0) s m args below meth c H locs 0 0 Q (F0 m 23 ls []) := by
    intro  H locs ls hP hD hS hl h
    unfold s_Tr_beginsLine_J23 at h
    refine lv_iconst (v := 1) hx hb d_Tr_beginsLine_23 (by decide) ?_
    refine lv_goto (tgt := 28) hx hb d_Tr_beginsLine_24 (by decide) ?_
    obtain ⟨g1, h⟩ := gd_some h
    exact rtZ hx hb hr hlocks g1 hQ (Option.some.inj h) hP hS d_Tr_beginsLine_28 rfl rfl
  unfold s_Tr_beginsLine at h
  refine lv_aload_n hx hb d_Tr_beginsLine_0 rfl (lv_at hl 0 rfl) ?_
  refine va_get (D := D) (ci := 3) (v := .int vq0_at) (C := "ConeForge$TextReader") (T := FTr) (N := 9) hx hb hts iTr hown hK hP 0 rfl rfl 3 (by decide) (hts _ (bgc bw169)) (fun _ h9 => h9) rfl d_Tr_beginsLine_1 ?_
  refine lv_if_eq (tgt := 23) hx hb d_Tr_beginsLine_4 (by decide) (fun c2 => ?_) (fun c2 => ?_)
  · have h := it_t c2 h
    exact J23  H locs ls hP hD hS (lv_sub hl [] rfl) h
  · have h := it_f c2 h
    refine lv_aload_n hx hb d_Tr_beginsLine_7 rfl (lv_at hl 0 rfl) ?_
    refine va_get (D := D) (ci := 3) (v := .ref q0_characters) (C := "ConeForge$TextReader") (T := FTr) (N := 9) hx hb hts iTr hown hK hP 0 rfl rfl 0 (by decide) (hts _ (bgc bw166)) (fun _ h9 => h9) rfl d_Tr_beginsLine_8 ?_
    refine lv_aload_n hx hb d_Tr_beginsLine_11 rfl (lv_at hl 0 rfl) ?_
    refine va_get (D := D) (ci := 3) (v := .int vq0_at) (C := "ConeForge$TextReader") (T := FTr) (N := 9) hx hb hts iTr hown hK hP 0 rfl rfl 3 (by decide) (hts _ (bgc bw169)) (fun _ h9 => h9) rfl d_Tr_beginsLine_12 ?_
    refine lv_iconst (v := 1) hx hb d_Tr_beginsLine_15 (by decide) ?_
    refine lv_isub hx hb d_Tr_beginsLine_16 ?_
    obtain ⟨g3, h⟩ := gd_some h
    refine va_cald hx hb hK hP 1 2 rfl rfl (inb_in g3) d_Tr_beginsLine_17 ?_
    refine lv_bipush (v := 10) hx hb d_Tr_beginsLine_18 (by decide) ?_
    refine lv_icmp_ne (tgt := 27) hx hb d_Tr_beginsLine_20 (by decide) (fun c4 => ?_) (fun c4 => ?_)
    · have h := it_f c4 h
      refine lv_iconst (v := 0) hx hb d_Tr_beginsLine_27 (by decide) ?_
      obtain ⟨g5, h⟩ := gd_some h
      exact rtZ hx hb hr hlocks g5 hQ (Option.some.inj h) hP hS d_Tr_beginsLine_28 rfl rfl
    · have h := it_t c4 h
      exact J23  H locs ls hP hD hS (lv_sub hl [] rfl) h
theorem d_Tr_reachNumber_0 : decode prog_8_method_13_code 0 = .ok (.iconst 0, 1) := by decide +kernel
theorem d_Tr_reachNumber_1 : decode prog_8_method_13_code 1 = .ok (.istore_n 1, 1) := by decide +kernel
theorem d_Tr_reachNumber_2 : decode prog_8_method_13_code 2 = .ok (.aload_n 0, 1) := by decide +kernel
theorem d_Tr_reachNumber_3 : decode prog_8_method_13_code 3 = .ok (.getfield 26, 3) := by decide +kernel
theorem d_Tr_reachNumber_6 : decode prog_8_method_13_code 6 = .ok (.aload_n 0, 1) := by decide +kernel
theorem d_Tr_reachNumber_7 : decode prog_8_method_13_code 7 = .ok (.getfield 22, 3) := by decide +kernel
theorem d_Tr_reachNumber_10 : decode prog_8_method_13_code 10 = .ok (.if_icmp .ge 67, 3) := by decide +kernel
theorem d_Tr_reachNumber_13 : decode prog_8_method_13_code 13 = .ok (.aload_n 0, 1) := by decide +kernel
theorem d_Tr_reachNumber_14 : decode prog_8_method_13_code 14 = .ok (.getfield 9, 3) := by decide +kernel
theorem d_Tr_reachNumber_17 : decode prog_8_method_13_code 17 = .ok (.aload_n 0, 1) := by decide +kernel
theorem d_Tr_reachNumber_18 : decode prog_8_method_13_code 18 = .ok (.getfield 26, 3) := by decide +kernel
theorem d_Tr_reachNumber_21 : decode prog_8_method_13_code 21 = .ok (.caload, 1) := by decide +kernel
theorem d_Tr_reachNumber_22 : decode prog_8_method_13_code 22 = .ok (.istore_n 2, 1) := by decide +kernel
theorem d_Tr_reachNumber_23 : decode prog_8_method_13_code 23 = .ok (.iload_n 2, 1) := by decide +kernel
theorem d_Tr_reachNumber_24 : decode prog_8_method_13_code 24 = .ok (.bipush 10, 2) := by decide +kernel
theorem d_Tr_reachNumber_26 : decode prog_8_method_13_code 26 = .ok (.if_icmp .ne 8, 3) := by decide +kernel
theorem d_Tr_reachNumber_29 : decode prog_8_method_13_code 29 = .ok (.iconst 0, 1) := by decide +kernel
theorem d_Tr_reachNumber_30 : decode prog_8_method_13_code 30 = .ok (.istore_n 1, 1) := by decide +kernel
theorem d_Tr_reachNumber_31 : decode prog_8_method_13_code 31 = .ok (.goto 33, 3) := by decide +kernel
theorem d_Tr_reachNumber_34 : decode prog_8_method_13_code 34 = .ok (.iload_n 2, 1) := by decide +kernel
theorem d_Tr_reachNumber_35 : decode prog_8_method_13_code 35 = .ok (.bipush 42, 2) := by decide +kernel
theorem d_Tr_reachNumber_37 : decode prog_8_method_13_code 37 = .ok (.if_icmp .ne 15, 3) := by decide +kernel
theorem d_Tr_reachNumber_40 : decode prog_8_method_13_code 40 = .ok (.aload_n 0, 1) := by decide +kernel
theorem d_Tr_reachNumber_41 : decode prog_8_method_13_code 41 = .ok (.invokevirtual 122, 3) := by decide +kernel
theorem d_Tr_reachNumber_44 : decode prog_8_method_13_code 44 = .ok (.ifCond .eq 8, 3) := by decide +kernel
theorem d_Tr_reachNumber_47 : decode prog_8_method_13_code 47 = .ok (.iconst 1, 1) := by decide +kernel
theorem d_Tr_reachNumber_48 : decode prog_8_method_13_code 48 = .ok (.istore_n 1, 1) := by decide +kernel
theorem d_Tr_reachNumber_49 : decode prog_8_method_13_code 49 = .ok (.goto 15, 3) := by decide +kernel
theorem d_Tr_reachNumber_52 : decode prog_8_method_13_code 52 = .ok (.iload_n 2, 1) := by decide +kernel
theorem d_Tr_reachNumber_53 : decode prog_8_method_13_code 53 = .ok (.bipush 32, 2) := by decide +kernel
theorem d_Tr_reachNumber_55 : decode prog_8_method_13_code 55 = .ok (.if_icmp .eq 9, 3) := by decide +kernel
theorem d_Tr_reachNumber_58 : decode prog_8_method_13_code 58 = .ok (.iload_n 1, 1) := by decide +kernel
theorem d_Tr_reachNumber_59 : decode prog_8_method_13_code 59 = .ok (.ifCond .ne 5, 3) := by decide +kernel
theorem d_Tr_reachNumber_62 : decode prog_8_method_13_code 62 = .ok (.iconst 1, 1) := by decide +kernel
theorem d_Tr_reachNumber_63 : decode prog_8_method_13_code 63 = .ok (.ireturn, 1) := by decide +kernel
theorem d_Tr_reachNumber_64 : decode prog_8_method_13_code 64 = .ok (.aload_n 0, 1) := by decide +kernel
theorem d_Tr_reachNumber_65 : decode prog_8_method_13_code 65 = .ok (.dup, 1) := by decide +kernel
theorem d_Tr_reachNumber_66 : decode prog_8_method_13_code 66 = .ok (.getfield 26, 3) := by decide +kernel
theorem d_Tr_reachNumber_69 : decode prog_8_method_13_code 69 = .ok (.iconst 1, 1) := by decide +kernel
theorem d_Tr_reachNumber_70 : decode prog_8_method_13_code 70 = .ok (.iadd, 1) := by decide +kernel
theorem d_Tr_reachNumber_71 : decode prog_8_method_13_code 71 = .ok (.putfield 26, 3) := by decide +kernel
theorem d_Tr_reachNumber_74 : decode prog_8_method_13_code 74 = .ok (.goto (-72), 3) := by decide +kernel
theorem d_Tr_reachNumber_77 : decode prog_8_method_13_code 77 = .ok (.iconst 0, 1) := by decide +kernel
theorem d_Tr_reachNumber_78 : decode prog_8_method_13_code 78 = .ok (.ireturn, 1) := by decide +kernel
abbrev w_Tr_reachNumber (T : Nat → ClassId) (q0 : Nat) (q0_characters : Nat) (q0_fresh : Nat) (vq0_length : Int32) (vq0_at : Int32) (vq0_first : Int32) (vq0_digits : Int32) (vq0_value : UInt64) (vq0_numbersRead : Int32) (vq0_failedAt : Int32) (vq0_characters : Nat → Int32) : va_W := [(q0, .inr (3, [.ref q0_characters, .ref q0_fresh, .int vq0_length, .int vq0_at, .int vq0_first, .int vq0_digits, .double vq0_value, .int vq0_numbersRead, .int vq0_failedAt])), (q0_characters, .inl (T 2, 300, .inl vq0_characters))]
def s_Tr_reachNumber_J64 (vq0_length : Int32) (vq0_at : Int32) (vq0_first : Int32) (vq0_digits : Int32) (vq0_value : UInt64) (vq0_numbersRead : Int32) (vq0_failedAt : Int32) (vq0_characters : Nat → Int32) (x1 : Int32) : Option ((Int32 × Int32) ⊕ ((Int32) ⊕ (Int32 × Int32))) :=
  some (.inl (vq0_at + 1, x1))
def s_Tr_reachNumber_J52 (vq0_length : Int32) (vq0_at : Int32) (vq0_first : Int32) (vq0_digits : Int32) (vq0_value : UInt64) (vq0_numbersRead : Int32) (vq0_failedAt : Int32) (vq0_characters : Nat → Int32) (x1 : Int32) (x2 : Int32) : Option ((Int32 × Int32) ⊕ ((Int32) ⊕ (Int32 × Int32))) :=
  if x2 = 32 then (s_Tr_reachNumber_J64 vq0_length vq0_at vq0_first vq0_digits vq0_value vq0_numbersRead vq0_failedAt vq0_characters x1) else (if x1 = 0 then (gd (isb 1) <| some (.inr (.inr (1, vq0_at)))) else (s_Tr_reachNumber_J64 vq0_length vq0_at vq0_first vq0_digits vq0_value vq0_numbersRead vq0_failedAt vq0_characters x1))
def s_Tr_reachNumber_B2 (vq0_length : Int32) (vq0_first : Int32) (vq0_digits : Int32) (vq0_value : UInt64) (vq0_numbersRead : Int32) (vq0_failedAt : Int32) (vq0_characters : Nat → Int32) (vq0_at : Int32) (x1 : Int32) : Option ((Int32 × Int32) ⊕ ((Int32) ⊕ (Int32 × Int32))) :=
  if vq0_length ≤ vq0_at then (some (.inr (.inl vq0_at))) else (gd (inb vq0_at 300) <| if (vq0_characters vq0_at.toNatClampNeg) = 10 then (s_Tr_reachNumber_J64 vq0_length vq0_at vq0_first vq0_digits vq0_value vq0_numbersRead vq0_failedAt vq0_characters 0) else (if (vq0_characters vq0_at.toNatClampNeg) = 42 then ((s_Tr_beginsLine vq0_length vq0_at vq0_first vq0_digits vq0_value vq0_numbersRead vq0_failedAt vq0_characters).bind fun u8 => if u8 = 0 then (s_Tr_reachNumber_J52 vq0_length vq0_at vq0_first vq0_digits vq0_value vq0_numbersRead vq0_failedAt vq0_characters x1 (vq0_characters vq0_at.toNatClampNeg)) else (s_Tr_reachNumber_J64 vq0_length vq0_at vq0_first vq0_digits vq0_value vq0_numbersRead vq0_failedAt vq0_characters 1)) else (s_Tr_reachNumber_J52 vq0_length vq0_at vq0_first vq0_digits vq0_value vq0_numbersRead vq0_failedAt vq0_characters x1 (vq0_characters vq0_at.toNatClampNeg))))
def s_Tr_reachNumber_L2 (vq0_length : Int32) (vq0_at : Int32) (vq0_first : Int32) (vq0_digits : Int32) (vq0_value : UInt64) (vq0_numbersRead : Int32) (vq0_failedAt : Int32) (vq0_characters : Nat → Int32) (x1 : Int32) : Option (Int32 × Int32) :=
  (loopO (fun (st : Int32 × Int32) => s_Tr_reachNumber_B2 vq0_length vq0_first vq0_digits vq0_value vq0_numbersRead vq0_failedAt vq0_characters st.1 st.2) 2000 (vq0_at, x1)).bind fun ul2 => Sum.elim (fun wl2 => gd (isb 0) <| some (0, wl2)) (fun wl2 => some wl2) ul2
def s_Tr_reachNumber (vq0_length : Int32) (vq0_at : Int32) (vq0_first : Int32) (vq0_digits : Int32) (vq0_value : UInt64) (vq0_numbersRead : Int32) (vq0_failedAt : Int32) (vq0_characters : Nat → Int32) : Option (Int32 × Int32) :=
  s_Tr_reachNumber_L2 vq0_length vq0_at vq0_first vq0_digits vq0_value vq0_numbersRead vq0_failedAt vq0_characters 0
set_option maxRecDepth 100000 in
theorem j_Tr_reachNumber_41 (T : Nat → ClassId) (q0 : Nat) (q0_characters : Nat) (q0_fresh : Nat) (vq0_length : Int32) (vq0_at : Int32) (vq0_first : Int32) (vq0_digits : Int32) (vq0_value : UInt64) (vq0_numbersRead : Int32) (vq0_failedAt : Int32) (vq0_characters : Nat → Int32) : ([0, 1].map (fun (i : Nat) => (w_Tr_reachNumber T q0 q0_characters q0_fresh vq0_length vq0_at vq0_first vq0_digits vq0_value vq0_numbersRead vq0_failedAt vq0_characters)[i]?) = (w_Tr_beginsLine T q0 q0_characters q0_fresh vq0_length vq0_at vq0_first vq0_digits vq0_value vq0_numbersRead vq0_failedAt vq0_characters).map some) ∧ ([0, 1].map (fun (i : Nat) => (w_Tr_reachNumber T q0 q0_characters q0_fresh vq0_length vq0_at vq0_first vq0_digits vq0_value vq0_numbersRead vq0_failedAt vq0_characters)[i]?) = (w_Tr_beginsLine T q0 q0_characters q0_fresh vq0_length vq0_at vq0_first vq0_digits vq0_value vq0_numbersRead vq0_failedAt vq0_characters).map some) ∧ ([].map (fun (i : Nat) => (w_Tr_reachNumber T q0 q0_characters q0_fresh vq0_length vq0_at vq0_first vq0_digits vq0_value vq0_numbersRead vq0_failedAt vq0_characters)[i]?) = [].map (fun (i : Nat) => (w_Tr_reachNumber T q0 q0_characters q0_fresh vq0_length vq0_at vq0_first vq0_digits vq0_value vq0_numbersRead vq0_failedAt vq0_characters)[i]?)) ∧ (w_Tr_beginsLine T q0 q0_characters q0_fresh vq0_length vq0_at vq0_first vq0_digits vq0_value vq0_numbersRead vq0_failedAt vq0_characters).map Prod.fst = (w_Tr_beginsLine T q0 q0_characters q0_fresh vq0_length vq0_at vq0_first vq0_digits vq0_value vq0_numbersRead vq0_failedAt vq0_characters).map Prod.fst ∧ (w_Tr_reachNumber T q0 q0_characters q0_fresh vq0_length vq0_at vq0_first vq0_digits vq0_value vq0_numbersRead vq0_failedAt vq0_characters).length = 2 :=
  ⟨rfl, rfl, Eq.trans (b := ([] : List (Option (Nat × va_E)))) rfl rfl, rfl, rfl⟩
set_option maxHeartbeats 40000000 in
set_option maxRecDepth 100000 in
theorem c_Tr_reachNumber (l : Launch) (D : va_G) (T : Nat → ClassId) (q0 : Nat) (q0_characters : Nat) (q0_fresh : Nat) (vq0_length : Int32) (vq0_at : Int32) (vq0_first : Int32) (vq0_digits : Int32) (vq0_value : UInt64) (vq0_numbersRead : Int32) (vq0_failedAt : Int32) (vq0_characters : Nat → Int32) (rm : Int32 × Int32) (h : s_Tr_reachNumber vq0_length vq0_at vq0_first vq0_digits vq0_value vq0_numbersRead vq0_failedAt vq0_characters = some rm) : CtI l y_Tr_reachNumber (Cond.code y_Tr_reachNumber prog_8_method_13_code 3 (some .boolean) :: BIG) 1 20 D T [.ref q0] (w_Tr_reachNumber T q0 q0_characters q0_fresh vq0_length vq0_at vq0_first vq0_digits vq0_value vq0_numbersRead vq0_failedAt vq0_characters) (fun r => r.1) (fun r => (w_Tr_reachNumber T q0 q0_characters q0_fresh vq0_length r.2 vq0_first vq0_digits vq0_value vq0_numbersRead vq0_failedAt vq0_characters)) rm := by
  refine cf_entry (y := y_Tr_reachNumber) (cc := prog_8_method_13_code) (nL := 3) (ret := (some .boolean)) (fr := 1) (lo := 20) (T := T) (av := [.ref q0]) (w := (w_Tr_reachNumber T q0 q0_characters q0_fresh vq0_length vq0_at vq0_first vq0_digits vq0_value vq0_numbersRead vq0_failedAt vq0_characters)) (Qc := cfQi D (fun r => r.1) (fun r => (w_Tr_reachNumber T q0 q0_characters q0_fresh vq0_length r.2 vq0_first vq0_digits vq0_value vq0_numbersRead vq0_failedAt vq0_characters)) rm) (by decide) rfl (Nat.le_of_ble_eq_true rfl) ?_
  intro p e s m args below meth c A Q H locs ls hx hb hr hlocks hml hown hts hNW hK hA hQ hP hD hS hl
  have hown : s.vm.findClass "ConeForge$TextReader" = some m.cls := hown
  have hl : lv_has ls 3 [(0, .ref q0)] := hl
  have L2 : ∀ (vq0_at : Int32) (x1 : Int32), ∀ (H : Heap) (locs : List Loc) (ls : Array Slot), va_P D CL (w_Tr_reachNumber T q0 q0_characters q0_fresh vq0_length vq0_at vq0_first vq0_digits vq0_value vq0_numbersRead vq0_failedAt vq0_characters) H → va_D A (w_Tr_reachNumber T q0 q0_characters q0_fresh vq0_length vq0_at vq0_first vq0_digits vq0_value vq0_numbersRead vq0_failedAt vq0_characters) → va_S A s.heap H locs → lv_has ls 3 [(0, .ref q0), (1, .int x1)] → s_Tr_reachNumber_L2 vq0_length vq0_at vq0_first vq0_digits vq0_value vq0_numbersRead vq0_failedAt vq0_characters x1 = some rm → W p l e (rmk 1 20) s m args below meth c H locs 0 0 Q (F0 m 2 ls []) := by
    intro vq0_at x1 H locs ls hP hD hS hl h
    unfold s_Tr_reachNumber_L2 at h
    obtain ⟨ul2, hul2, h⟩ := bi_some h
    refine loopO_W (Wh := fun (st : Int32 × Int32) => ∀ (H : Heap) (locs : List Loc) (ls : Array Slot), va_P D CL (w_Tr_reachNumber T q0 q0_characters q0_fresh vq0_length st.1 vq0_first vq0_digits vq0_value vq0_numbersRead vq0_failedAt vq0_characters) H → va_D A (w_Tr_reachNumber T q0 q0_characters q0_fresh vq0_length st.1 vq0_first vq0_digits vq0_value vq0_numbersRead vq0_failedAt vq0_characters) → va_S A s.heap H locs → lv_has ls 3 [(0, .ref q0), (1, .int st.2)] → W p l e (rmk 1 20) s m args below meth c H locs 0 0 Q (F0 m 2 ls [])) (Wx := fun (e0 : (Int32) ⊕ (Int32 × Int32)) => Sum.elim (fun (e1 : Int32) => ∀ (H : Heap) (locs : List Loc) (ls : Array Slot), va_P D CL (w_Tr_reachNumber T q0 q0_characters q0_fresh vq0_length e1 vq0_first vq0_digits vq0_value vq0_numbersRead vq0_failedAt vq0_characters) H → va_D A (w_Tr_reachNumber T q0 q0_characters q0_fresh vq0_length e1 vq0_first vq0_digits vq0_value vq0_numbersRead vq0_failedAt vq0_characters) → va_S A s.heap H locs → lv_has ls 3 [] → W p l e (rmk 1 20) s m args below meth c H locs 0 0 Q (F0 m 77 ls [])) (fun e2 => e2 = rm) e0) ?_ 2000 _ ul2 hul2 ?_ H locs ls hP hD hS hl
    · intro st rb2 h kc2 kx2 H locs ls hP hD hS hl
      obtain ⟨vq0_at, x1⟩ := st
      have h : s_Tr_reachNumber_B2 vq0_length vq0_first vq0_digits vq0_value vq0_numbersRead vq0_failedAt vq0_characters vq0_at x1 = some rb2 := h
      have J64 : ∀ (vq0_at : Int32) (x1 : Int32), ∀ (H : Heap) (locs : List Loc) (ls : Array Slot), va_P D CL (w_Tr_reachNumber T q0 q0_characters q0_fresh vq0_length vq0_at vq0_first vq0_digits vq0_value vq0_numbersRead vq0_failedAt vq0_characters) H → va_D A (w_Tr_reachNumber T q0 q0_characters q0_fresh vq0_length vq0_at vq0_first vq0_digits vq0_value vq0_numbersRead vq0_failedAt vq0_characters) → va_S A s.heap H locs → lv_has ls 3 [(0, .ref q0), (1, .int x1)] → s_Tr_reachNumber_J64 vq0_length vq0_at vq0_first vq0_digits vq0_value vq0_numbersRead vq0_failedAt vq0_characters x1 = some rb2 → W p l e (rmk 1 20) s m args below meth c H locs 0 0 Q (F0 m 64 ls []) := by
        intro vq0_at x1 H locs ls hP hD hS hl h
        unfold s_Tr_reachNumber_J64 at h
        refine lv_aload_n hx hb d_Tr_reachNumber_64 rfl (lv_at hl 0 rfl) ?_
        refine lv_dup hx hb d_Tr_reachNumber_65 rfl ?_
        refine va_get (D := D) (ci := 3) (v := .int vq0_at) (C := "ConeForge$TextReader") (T := FTr) (N := 9) hx hb hts iTr hown hK hP 0 rfl rfl 3 (by decide) (hts _ (bgc bw169)) (fun _ h9 => h9) rfl d_Tr_reachNumber_66 ?_
        refine lv_iconst (v := 1) hx hb d_Tr_reachNumber_69 (by decide) ?_
        refine lv_iadd hx hb d_Tr_reachNumber_70 ?_
        refine va_put (D := D) (ci := 3) (v := .int (vq0_at + 1)) (ty := .int) (C := "ConeForge$TextReader") (T := FTr) (N := 9) hx hb hts iTr tTr tTr_ok nmTr hown hK hP hD hS 0 rfl rfl 3 (by decide) (hts _ (bgc bw169)) (fun _ h9 => h9) rfl (by decide +kernel) rfl rfl (Nat.le_of_ble_eq_true rfl) d_Tr_reachNumber_71 (fun H locs hP hD hS => ?_)
        have hP : va_P D CL (w_Tr_reachNumber T q0 q0_characters q0_fresh vq0_length (vq0_at + 1) vq0_first vq0_digits vq0_value vq0_numbersRead vq0_failedAt vq0_characters) H := hP
        have hD : va_D A (w_Tr_reachNumber T q0 q0_characters q0_fresh vq0_length (vq0_at + 1) vq0_first vq0_digits vq0_value vq0_numbersRead vq0_failedAt vq0_characters) := hD
        refine lv_goto (tgt := 2) hx hb d_Tr_reachNumber_74 (by decide) ?_
        exact kc2 _ (Option.some.inj h).symm H locs ls hP hD hS (lv_sub hl [0, 1] rfl)
      have J52 : ∀ (vq0_at : Int32) (x1 : Int32) (x2 : Int32), ∀ (H : Heap) (locs : List Loc) (ls : Array Slot), va_P D CL (w_Tr_reachNumber T q0 q0_characters q0_fresh vq0_length vq0_at vq0_first vq0_digits vq0_value vq0_numbersRead vq0_failedAt vq0_characters) H → va_D A (w_Tr_reachNumber T q0 q0_characters q0_fresh vq0_length vq0_at vq0_first vq0_digits vq0_value vq0_numbersRead vq0_failedAt vq0_characters) → va_S A s.heap H locs → lv_has ls 3 [(0, .ref q0), (1, .int x1), (2, .int x2)] → s_Tr_reachNumber_J52 vq0_length vq0_at vq0_first vq0_digits vq0_value vq0_numbersRead vq0_failedAt vq0_characters x1 x2 = some rb2 → W p l e (rmk 1 20) s m args below meth c H locs 0 0 Q (F0 m 52 ls []) := by
        intro vq0_at x1 x2 H locs ls hP hD hS hl h
        unfold s_Tr_reachNumber_J52 at h
        refine lv_iload_n hx hb d_Tr_reachNumber_52 rfl (lv_at hl 2 rfl) ?_
        refine lv_bipush (v := 32) hx hb d_Tr_reachNumber_53 (by decide) ?_
        refine lv_icmp_eq (tgt := 64) hx hb d_Tr_reachNumber_55 (by decide) (fun c1 => ?_) (fun c1 => ?_)
        · have h := it_t c1 h
          exact J64 vq0_at x1 H locs ls hP hD hS (lv_sub hl [0, 1] rfl) h
        · have h := it_f c1 h
          refine lv_iload_n hx hb d_Tr_reachNumber_58 rfl (lv_at hl 1 rfl) ?_
          refine lv_if_ne (tgt := 64) hx hb d_Tr_reachNumber_59 (by decide) (fun c2 => ?_) (fun c2 => ?_)
          · have h := it_f c2 h
            exact J64 vq0_at x1 H locs ls hP hD hS (lv_sub hl [0, 1] rfl) h
          · have h := it_t c2 h
            refine lv_iconst (v := 1) hx hb d_Tr_reachNumber_62 (by decide) ?_
            obtain ⟨g3, h⟩ := gd_some h
            exact rtZ hx hb hr hlocks g3 hQ (kx2 _ (Option.some.inj h).symm) hP hS d_Tr_reachNumber_63 rfl rfl
      unfold s_Tr_reachNumber_B2 at h
      refine lv_aload_n hx hb d_Tr_reachNumber_2 rfl (lv_at hl 0 rfl) ?_
      refine va_get (D := D) (ci := 3) (v := .int vq0_at) (C := "ConeForge$TextReader") (T := FTr) (N := 9) hx hb hts iTr hown hK hP 0 rfl rfl 3 (by decide) (hts _ (bgc bw169)) (fun _ h9 => h9) rfl d_Tr_reachNumber_3 ?_
      refine lv_aload_n hx hb d_Tr_reachNumber_6 rfl (lv_at hl 0 rfl) ?_
      refine va_get (D := D) (ci := 3) (v := .int vq0_length) (C := "ConeForge$TextReader") (T := FTr) (N := 9) hx hb hts iTr hown hK hP 0 rfl rfl 2 (by decide) (hts _ (bgc bw168)) (fun _ h9 => h9) rfl d_Tr_reachNumber_7 ?_
      refine lv_icmp_ge (tgt := 77) hx hb d_Tr_reachNumber_10 (by decide) (fun c4 => ?_) (fun c4 => ?_)
      · have h := it_t c4 h
        exact kx2 _ (Option.some.inj h).symm H locs ls hP hD hS (lv_sub hl [] rfl)
      · have h := it_f c4 h
        refine lv_aload_n hx hb d_Tr_reachNumber_13 rfl (lv_at hl 0 rfl) ?_
        refine va_get (D := D) (ci := 3) (v := .ref q0_characters) (C := "ConeForge$TextReader") (T := FTr) (N := 9) hx hb hts iTr hown hK hP 0 rfl rfl 0 (by decide) (hts _ (bgc bw166)) (fun _ h9 => h9) rfl d_Tr_reachNumber_14 ?_
        refine lv_aload_n hx hb d_Tr_reachNumber_17 rfl (lv_at hl 0 rfl) ?_
        refine va_get (D := D) (ci := 3) (v := .int vq0_at) (C := "ConeForge$TextReader") (T := FTr) (N := 9) hx hb hts iTr hown hK hP 0 rfl rfl 3 (by decide) (hts _ (bgc bw169)) (fun _ h9 => h9) rfl d_Tr_reachNumber_18 ?_
        obtain ⟨g5, h⟩ := gd_some h
        refine va_cald hx hb hK hP 1 2 rfl rfl (inb_in g5) d_Tr_reachNumber_21 ?_
        refine lv_istore_n (lv' := [(2, .int (vq0_characters vq0_at.toNatClampNeg)), (0, .ref q0), (1, .int x1)]) hx hb d_Tr_reachNumber_22 rfl hl (by decide) rfl (fun ls hl => ?_)
        refine lv_iload_n hx hb d_Tr_reachNumber_23 rfl (lv_at hl 0 rfl) ?_
        refine lv_bipush (v := 10) hx hb d_Tr_reachNumber_24 (by decide) ?_
        refine lv_icmp_ne (tgt := 34) hx hb d_Tr_reachNumber_26 (by decide) (fun c6 => ?_) (fun c6 => ?_)
        · have h := it_f c6 h
          refine lv_iload_n hx hb d_Tr_reachNumber_34 rfl (lv_at hl 0 rfl) ?_
          refine lv_bipush (v := 42) hx hb d_Tr_reachNumber_35 (by decide) ?_
          refine lv_icmp_ne (tgt := 52) hx hb d_Tr_reachNumber_37 (by decide) (fun c7 => ?_) (fun c7 => ?_)
          · have h := it_f c7 h
            exact J52 vq0_at x1 (vq0_characters vq0_at.toNatClampNeg) H locs ls hP hD hS (lv_sub hl [1, 2, 0] rfl) h
          · have h := it_t c7 h
            refine lv_aload_n hx hb d_Tr_reachNumber_40 rfl (lv_at hl 1 rfl) ?_
            obtain ⟨u8, hu8, h⟩ := bi_some h
            have jj9 := j_Tr_reachNumber_41 T q0 q0_characters q0_fresh vq0_length vq0_at vq0_first vq0_digits vq0_value vq0_numbersRead vq0_failedAt vq0_characters
            refine kI2 (v := u8) (wc := (w_Tr_beginsLine T q0 q0_characters q0_fresh vq0_length vq0_at vq0_first vq0_digits vq0_value vq0_numbersRead vq0_failedAt vq0_characters)) (wc' := (w_Tr_beginsLine T q0 q0_characters q0_fresh vq0_length vq0_at vq0_first vq0_digits vq0_value vq0_numbersRead vq0_failedAt vq0_characters)) (w_Tr_reachNumber T q0 q0_characters q0_fresh vq0_length vq0_at vq0_first vq0_digits vq0_value vq0_numbersRead vq0_failedAt vq0_characters) (runOV (As := []) (rest := []) ((c_Tr_beginsLine l D T q0 q0_characters q0_fresh vq0_length vq0_at vq0_first vq0_digits vq0_value vq0_numbersRead vq0_failedAt vq0_characters  u8 hu8) H.size) ⟨hx, hb, hml, hown, hts⟩ (cwOV bw521 bw522 bw31 bw101 bw523 dd_Tr_beginsLine hts ⟨Nat.le_of_ble_eq_true rfl, Nat.le_of_ble_eq_true rfl⟩) (va_recv hK hP (ci := 3) (q0 := 0) rfl rfl) hNW hK hP hD [0, 1] jj9.1 (by decide) rfl hl.1 rfl (lv_room (Nat.le_of_ble_eq_true rfl)) d_Tr_reachNumber_41 ⟨Nat.le_of_ble_eq_true rfl, Nat.le_of_ble_eq_true rfl⟩) hP hD hS hA [0, 1] [] jj9.1 jj9.2.1 jj9.2.2.1 (N := 2) jj9.2.2.2.2 (by decide) jj9.2.2.2.1 (fun H locs hP hD hS => ?_)
            refine lv_if_eq (tgt := 52) hx hb d_Tr_reachNumber_44 (by decide) (fun c10 => ?_) (fun c10 => ?_)
            · have h := it_t c10 h
              exact J52 vq0_at x1 (vq0_characters vq0_at.toNatClampNeg) H locs ls hP hD hS (lv_sub hl [1, 2, 0] rfl) h
            · have h := it_f c10 h
              refine lv_iconst (v := 1) hx hb d_Tr_reachNumber_47 (by decide) ?_
              refine lv_istore_n (lv' := [(1, .int 1), (2, .int (vq0_characters vq0_at.toNatClampNeg)), (0, .ref q0)]) hx hb d_Tr_reachNumber_48 rfl hl (by decide) rfl (fun ls hl => ?_)
              refine lv_goto (tgt := 64) hx hb d_Tr_reachNumber_49 (by decide) ?_
              exact J64 vq0_at 1 H locs ls hP hD hS (lv_sub hl [2, 0] rfl) h
        · have h := it_t c6 h
          refine lv_iconst (v := 0) hx hb d_Tr_reachNumber_29 (by decide) ?_
          refine lv_istore_n (lv' := [(1, .int 0), (2, .int (vq0_characters vq0_at.toNatClampNeg)), (0, .ref q0)]) hx hb d_Tr_reachNumber_30 rfl hl (by decide) rfl (fun ls hl => ?_)
          refine lv_goto (tgt := 64) hx hb d_Tr_reachNumber_31 (by decide) ?_
          exact J64 vq0_at 0 H locs ls hP hD hS (lv_sub hl [2, 0] rfl) h
    · cases ul2 with
      | inl wl2 =>
        intro H locs ls hP hD hS hl
        refine lv_iconst (v := 0) hx hb d_Tr_reachNumber_77 (by decide) ?_
        obtain ⟨g11, h⟩ := gd_some h
        exact rtZ hx hb hr hlocks g11 hQ (Option.some.inj h) hP hS d_Tr_reachNumber_78 rfl rfl
      | inr wl2 => exact Option.some.inj h
  unfold s_Tr_reachNumber at h
  refine lv_iconst (v := 0) hx hb d_Tr_reachNumber_0 (by decide) ?_
  refine lv_istore_n (lv' := [(1, .int 0), (0, .ref q0)]) hx hb d_Tr_reachNumber_1 rfl hl (by decide) rfl (fun ls hl => ?_)
  exact L2 vq0_at 0 H locs ls hP hD hS (lv_sub hl [1, 0] rfl) h
theorem d_Tr_skip_0 : decode prog_8_method_15_code 0 = .ok (.aload_n 0, 1) := by decide +kernel
theorem d_Tr_skip_1 : decode prog_8_method_15_code 1 = .ok (.getfield 26, 3) := by decide +kernel
theorem d_Tr_skip_4 : decode prog_8_method_15_code 4 = .ok (.aload_n 0, 1) := by decide +kernel
theorem d_Tr_skip_5 : decode prog_8_method_15_code 5 = .ok (.getfield 22, 3) := by decide +kernel
theorem d_Tr_skip_8 : decode prog_8_method_15_code 8 = .ok (.if_icmp .ge 16, 3) := by decide +kernel
theorem d_Tr_skip_11 : decode prog_8_method_15_code 11 = .ok (.aload_n 0, 1) := by decide +kernel
theorem d_Tr_skip_12 : decode prog_8_method_15_code 12 = .ok (.getfield 9, 3) := by decide +kernel
theorem d_Tr_skip_15 : decode prog_8_method_15_code 15 = .ok (.aload_n 0, 1) := by decide +kernel
theorem d_Tr_skip_16 : decode prog_8_method_15_code 16 = .ok (.getfield 26, 3) := by decide +kernel
theorem d_Tr_skip_19 : decode prog_8_method_15_code 19 = .ok (.caload, 1) := by decide +kernel
theorem d_Tr_skip_20 : decode prog_8_method_15_code 20 = .ok (.iload_n 1, 1) := by decide +kernel
theorem d_Tr_skip_21 : decode prog_8_method_15_code 21 = .ok (.if_icmp .eq 5, 3) := by decide +kernel
theorem d_Tr_skip_24 : decode prog_8_method_15_code 24 = .ok (.iconst 0, 1) := by decide +kernel
theorem d_Tr_skip_25 : decode prog_8_method_15_code 25 = .ok (.ireturn, 1) := by decide +kernel
theorem d_Tr_skip_26 : decode prog_8_method_15_code 26 = .ok (.aload_n 0, 1) := by decide +kernel
theorem d_Tr_skip_27 : decode prog_8_method_15_code 27 = .ok (.dup, 1) := by decide +kernel
theorem d_Tr_skip_28 : decode prog_8_method_15_code 28 = .ok (.getfield 26, 3) := by decide +kernel
theorem d_Tr_skip_31 : decode prog_8_method_15_code 31 = .ok (.iconst 1, 1) := by decide +kernel
theorem d_Tr_skip_32 : decode prog_8_method_15_code 32 = .ok (.iadd, 1) := by decide +kernel
theorem d_Tr_skip_33 : decode prog_8_method_15_code 33 = .ok (.putfield 26, 3) := by decide +kernel
theorem d_Tr_skip_36 : decode prog_8_method_15_code 36 = .ok (.iconst 1, 1) := by decide +kernel
theorem d_Tr_skip_37 : decode prog_8_method_15_code 37 = .ok (.ireturn, 1) := by decide +kernel
abbrev w_Tr_skip (T : Nat → ClassId) (q0 : Nat) (q0_characters : Nat) (q0_fresh : Nat) (vq0_length : Int32) (vq0_at : Int32) (vq0_first : Int32) (vq0_digits : Int32) (vq0_value : UInt64) (vq0_numbersRead : Int32) (vq0_failedAt : Int32) (vq0_characters : Nat → Int32) : va_W := [(q0, .inr (3, [.ref q0_characters, .ref q0_fresh, .int vq0_length, .int vq0_at, .int vq0_first, .int vq0_digits, .double vq0_value, .int vq0_numbersRead, .int vq0_failedAt])), (q0_characters, .inl (T 2, 300, .inl vq0_characters))]
def s_Tr_skip (vq0_length : Int32) (vq0_at : Int32) (vq0_first : Int32) (vq0_digits : Int32) (vq0_value : UInt64) (vq0_numbersRead : Int32) (vq0_failedAt : Int32) (vq0_characters : Nat → Int32) (x1 : Int32) : Option (Int32 × Int32) :=
  if vq0_length ≤ vq0_at then (gd (isb 0) <| some (0, vq0_at)) else (gd (inb vq0_at 300) <| if (vq0_characters vq0_at.toNatClampNeg) = x1 then (gd (isb 1) <| some (1, vq0_at + 1)) else (gd (isb 0) <| some (0, vq0_at)))
set_option maxHeartbeats 40000000 in
set_option maxRecDepth 100000 in
theorem c_Tr_skip (l : Launch) (D : va_G) (T : Nat → ClassId) (q0 : Nat) (q0_characters : Nat) (q0_fresh : Nat) (vq0_length : Int32) (vq0_at : Int32) (vq0_first : Int32) (vq0_digits : Int32) (vq0_value : UInt64) (vq0_numbersRead : Int32) (vq0_failedAt : Int32) (vq0_characters : Nat → Int32) (x1 : Int32) (rm : Int32 × Int32) (h : s_Tr_skip vq0_length vq0_at vq0_first vq0_digits vq0_value vq0_numbersRead vq0_failedAt vq0_characters x1 = some rm) : CtI l y_Tr_skip (Cond.code y_Tr_skip prog_8_method_15_code 2 (some .boolean) :: BIG) 0 0 D T [.ref q0, .int x1] (w_Tr_skip T q0 q0_characters q0_fresh vq0_length vq0_at vq0_first vq0_digits vq0_value vq0_numbersRead vq0_failedAt vq0_characters) (fun r => r.1) (fun r => (w_Tr_skip T q0 q0_characters q0_fresh vq0_length r.2 vq0_first vq0_digits vq0_value vq0_numbersRead vq0_failedAt vq0_characters)) rm := by
  refine cf_entry (y := y_Tr_skip) (cc := prog_8_method_15_code) (nL := 2) (ret := (some .boolean)) (fr := 0) (lo := 0) (T := T) (av := [.ref q0, .int x1]) (w := (w_Tr_skip T q0 q0_characters q0_fresh vq0_length vq0_at vq0_first vq0_digits vq0_value vq0_numbersRead vq0_failedAt vq0_characters)) (Qc := cfQi D (fun r => r.1) (fun r => (w_Tr_skip T q0 q0_characters q0_fresh vq0_length r.2 vq0_first vq0_digits vq0_value vq0_numbersRead vq0_failedAt vq0_characters)) rm) (by decide) rfl (Nat.le_of_ble_eq_true rfl) ?_
  intro p e s m args below meth c A Q H locs ls hx hb hr hlocks hml hown hts hNW hK hA hQ hP hD hS hl
  have hown : s.vm.findClass "ConeForge$TextReader" = some m.cls := hown
  have hl : lv_has ls 2 [(0, .ref q0), (1, .int x1)] := hl
  unfold s_Tr_skip at h
  refine lv_aload_n hx hb d_Tr_skip_0 rfl (lv_at hl 0 rfl) ?_
  refine va_get (D := D) (ci := 3) (v := .int vq0_at) (C := "ConeForge$TextReader") (T := FTr) (N := 9) hx hb hts iTr hown hK hP 0 rfl rfl 3 (by decide) (hts _ (bgc bw169)) (fun _ h9 => h9) rfl d_Tr_skip_1 ?_
  refine lv_aload_n hx hb d_Tr_skip_4 rfl (lv_at hl 0 rfl) ?_
  refine va_get (D := D) (ci := 3) (v := .int vq0_length) (C := "ConeForge$TextReader") (T := FTr) (N := 9) hx hb hts iTr hown hK hP 0 rfl rfl 2 (by decide) (hts _ (bgc bw168)) (fun _ h9 => h9) rfl d_Tr_skip_5 ?_
  refine lv_icmp_ge (tgt := 24) hx hb d_Tr_skip_8 (by decide) (fun c1 => ?_) (fun c1 => ?_)
  · have h := it_t c1 h
    refine lv_iconst (v := 0) hx hb d_Tr_skip_24 (by decide) ?_
    obtain ⟨g2, h⟩ := gd_some h
    exact rtZ hx hb hr hlocks g2 hQ (Option.some.inj h) hP hS d_Tr_skip_25 rfl rfl
  · have h := it_f c1 h
    refine lv_aload_n hx hb d_Tr_skip_11 rfl (lv_at hl 0 rfl) ?_
    refine va_get (D := D) (ci := 3) (v := .ref q0_characters) (C := "ConeForge$TextReader") (T := FTr) (N := 9) hx hb hts iTr hown hK hP 0 rfl rfl 0 (by decide) (hts _ (bgc bw166)) (fun _ h9 => h9) rfl d_Tr_skip_12 ?_
    refine lv_aload_n hx hb d_Tr_skip_15 rfl (lv_at hl 0 rfl) ?_
    refine va_get (D := D) (ci := 3) (v := .int vq0_at) (C := "ConeForge$TextReader") (T := FTr) (N := 9) hx hb hts iTr hown hK hP 0 rfl rfl 3 (by decide) (hts _ (bgc bw169)) (fun _ h9 => h9) rfl d_Tr_skip_16 ?_
    obtain ⟨g3, h⟩ := gd_some h
    refine va_cald hx hb hK hP 1 2 rfl rfl (inb_in g3) d_Tr_skip_19 ?_
    refine lv_iload_n hx hb d_Tr_skip_20 rfl (lv_at hl 1 rfl) ?_
    refine lv_icmp_eq (tgt := 26) hx hb d_Tr_skip_21 (by decide) (fun c4 => ?_) (fun c4 => ?_)
    · have h := it_t c4 h
      refine lv_aload_n hx hb d_Tr_skip_26 rfl (lv_at hl 0 rfl) ?_
      refine lv_dup hx hb d_Tr_skip_27 rfl ?_
      refine va_get (D := D) (ci := 3) (v := .int vq0_at) (C := "ConeForge$TextReader") (T := FTr) (N := 9) hx hb hts iTr hown hK hP 0 rfl rfl 3 (by decide) (hts _ (bgc bw169)) (fun _ h9 => h9) rfl d_Tr_skip_28 ?_
      refine lv_iconst (v := 1) hx hb d_Tr_skip_31 (by decide) ?_
      refine lv_iadd hx hb d_Tr_skip_32 ?_
      refine va_put (D := D) (ci := 3) (v := .int (vq0_at + 1)) (ty := .int) (C := "ConeForge$TextReader") (T := FTr) (N := 9) hx hb hts iTr tTr tTr_ok nmTr hown hK hP hD hS 0 rfl rfl 3 (by decide) (hts _ (bgc bw169)) (fun _ h9 => h9) rfl (by decide +kernel) rfl rfl (Nat.le_of_ble_eq_true rfl) d_Tr_skip_33 (fun H locs hP hD hS => ?_)
      have hP : va_P D CL (w_Tr_skip T q0 q0_characters q0_fresh vq0_length (vq0_at + 1) vq0_first vq0_digits vq0_value vq0_numbersRead vq0_failedAt vq0_characters) H := hP
      have hD : va_D A (w_Tr_skip T q0 q0_characters q0_fresh vq0_length (vq0_at + 1) vq0_first vq0_digits vq0_value vq0_numbersRead vq0_failedAt vq0_characters) := hD
      refine lv_iconst (v := 1) hx hb d_Tr_skip_36 (by decide) ?_
      obtain ⟨g5, h⟩ := gd_some h
      exact rtZ hx hb hr hlocks g5 hQ (Option.some.inj h) hP hS d_Tr_skip_37 rfl rfl
    · have h := it_f c4 h
      refine lv_iconst (v := 0) hx hb d_Tr_skip_24 (by decide) ?_
      obtain ⟨g6, h⟩ := gd_some h
      exact rtZ hx hb hr hlocks g6 hQ (Option.some.inj h) hP hS d_Tr_skip_25 rfl rfl
theorem d_Tr_takeDigits_0 : decode prog_8_method_16_code 0 = .ok (.iconst 0, 1) := by decide +kernel
theorem d_Tr_takeDigits_1 : decode prog_8_method_16_code 1 = .ok (.istore_n 2, 1) := by decide +kernel
theorem d_Tr_takeDigits_2 : decode prog_8_method_16_code 2 = .ok (.iload_n 2, 1) := by decide +kernel
theorem d_Tr_takeDigits_3 : decode prog_8_method_16_code 3 = .ok (.iload_n 1, 1) := by decide +kernel
theorem d_Tr_takeDigits_4 : decode prog_8_method_16_code 4 = .ok (.if_icmp .ge 82, 3) := by decide +kernel
theorem d_Tr_takeDigits_7 : decode prog_8_method_16_code 7 = .ok (.aload_n 0, 1) := by decide +kernel
theorem d_Tr_takeDigits_8 : decode prog_8_method_16_code 8 = .ok (.getfield 26, 3) := by decide +kernel
theorem d_Tr_takeDigits_11 : decode prog_8_method_16_code 11 = .ok (.aload_n 0, 1) := by decide +kernel
theorem d_Tr_takeDigits_12 : decode prog_8_method_16_code 12 = .ok (.getfield 22, 3) := by decide +kernel
theorem d_Tr_takeDigits_15 : decode prog_8_method_16_code 15 = .ok (.if_icmp .ge 71, 3) := by decide +kernel
theorem d_Tr_takeDigits_18 : decode prog_8_method_16_code 18 = .ok (.aload_n 0, 1) := by decide +kernel
theorem d_Tr_takeDigits_19 : decode prog_8_method_16_code 19 = .ok (.getfield 9, 3) := by decide +kernel
theorem d_Tr_takeDigits_22 : decode prog_8_method_16_code 22 = .ok (.aload_n 0, 1) := by decide +kernel
theorem d_Tr_takeDigits_23 : decode prog_8_method_16_code 23 = .ok (.getfield 26, 3) := by decide +kernel
theorem d_Tr_takeDigits_26 : decode prog_8_method_16_code 26 = .ok (.caload, 1) := by decide +kernel
theorem d_Tr_takeDigits_27 : decode prog_8_method_16_code 27 = .ok (.bipush 48, 2) := by decide +kernel
theorem d_Tr_takeDigits_29 : decode prog_8_method_16_code 29 = .ok (.if_icmp .lt 57, 3) := by decide +kernel
theorem d_Tr_takeDigits_32 : decode prog_8_method_16_code 32 = .ok (.aload_n 0, 1) := by decide +kernel
theorem d_Tr_takeDigits_33 : decode prog_8_method_16_code 33 = .ok (.getfield 9, 3) := by decide +kernel
theorem d_Tr_takeDigits_36 : decode prog_8_method_16_code 36 = .ok (.aload_n 0, 1) := by decide +kernel
theorem d_Tr_takeDigits_37 : decode prog_8_method_16_code 37 = .ok (.getfield 26, 3) := by decide +kernel
theorem d_Tr_takeDigits_40 : decode prog_8_method_16_code 40 = .ok (.caload, 1) := by decide +kernel
theorem d_Tr_takeDigits_41 : decode prog_8_method_16_code 41 = .ok (.bipush 57, 2) := by decide +kernel
theorem d_Tr_takeDigits_43 : decode prog_8_method_16_code 43 = .ok (.if_icmp .gt 43, 3) := by decide +kernel
theorem d_Tr_takeDigits_46 : decode prog_8_method_16_code 46 = .ok (.aload_n 0, 1) := by decide +kernel
theorem d_Tr_takeDigits_47 : decode prog_8_method_16_code 47 = .ok (.aload_n 0, 1) := by decide +kernel
theorem d_Tr_takeDigits_48 : decode prog_8_method_16_code 48 = .ok (.getfield 32, 3) := by decide +kernel
theorem d_Tr_takeDigits_51 : decode prog_8_method_16_code 51 = .ok (.bipush 10, 2) := by decide +kernel
theorem d_Tr_takeDigits_53 : decode prog_8_method_16_code 53 = .ok (.imul, 1) := by decide +kernel
theorem d_Tr_takeDigits_54 : decode prog_8_method_16_code 54 = .ok (.aload_n 0, 1) := by decide +kernel
theorem d_Tr_takeDigits_55 : decode prog_8_method_16_code 55 = .ok (.getfield 9, 3) := by decide +kernel
theorem d_Tr_takeDigits_58 : decode prog_8_method_16_code 58 = .ok (.aload_n 0, 1) := by decide +kernel
theorem d_Tr_takeDigits_59 : decode prog_8_method_16_code 59 = .ok (.getfield 26, 3) := by decide +kernel
theorem d_Tr_takeDigits_62 : decode prog_8_method_16_code 62 = .ok (.caload, 1) := by decide +kernel
theorem d_Tr_takeDigits_63 : decode prog_8_method_16_code 63 = .ok (.bipush 48, 2) := by decide +kernel
theorem d_Tr_takeDigits_65 : decode prog_8_method_16_code 65 = .ok (.isub, 1) := by decide +kernel
theorem d_Tr_takeDigits_66 : decode prog_8_method_16_code 66 = .ok (.iadd, 1) := by decide +kernel
theorem d_Tr_takeDigits_67 : decode prog_8_method_16_code 67 = .ok (.putfield 32, 3) := by decide +kernel
theorem d_Tr_takeDigits_70 : decode prog_8_method_16_code 70 = .ok (.aload_n 0, 1) := by decide +kernel
theorem d_Tr_takeDigits_71 : decode prog_8_method_16_code 71 = .ok (.dup, 1) := by decide +kernel
theorem d_Tr_takeDigits_72 : decode prog_8_method_16_code 72 = .ok (.getfield 26, 3) := by decide +kernel
theorem d_Tr_takeDigits_75 : decode prog_8_method_16_code 75 = .ok (.iconst 1, 1) := by decide +kernel
theorem d_Tr_takeDigits_76 : decode prog_8_method_16_code 76 = .ok (.iadd, 1) := by decide +kernel
theorem d_Tr_takeDigits_77 : decode prog_8_method_16_code 77 = .ok (.putfield 26, 3) := by decide +kernel
theorem d_Tr_takeDigits_80 : decode prog_8_method_16_code 80 = .ok (.iinc 2 1, 3) := by decide +kernel
theorem d_Tr_takeDigits_83 : decode prog_8_method_16_code 83 = .ok (.goto (-81), 3) := by decide +kernel
theorem d_Tr_takeDigits_86 : decode prog_8_method_16_code 86 = .ok (.iload_n 2, 1) := by decide +kernel
theorem d_Tr_takeDigits_87 : decode prog_8_method_16_code 87 = .ok (.ireturn, 1) := by decide +kernel
abbrev w_Tr_takeDigits (T : Nat → ClassId) (q0 : Nat) (q0_characters : Nat) (q0_fresh : Nat) (vq0_length : Int32) (vq0_at : Int32) (vq0_first : Int32) (vq0_digits : Int32) (vq0_value : UInt64) (vq0_numbersRead : Int32) (vq0_failedAt : Int32) (vq0_characters : Nat → Int32) : va_W := [(q0, .inr (3, [.ref q0_characters, .ref q0_fresh, .int vq0_length, .int vq0_at, .int vq0_first, .int vq0_digits, .double vq0_value, .int vq0_numbersRead, .int vq0_failedAt])), (q0_characters, .inl (T 2, 300, .inl vq0_characters))]
def s_Tr_takeDigits_B2 (vq0_length : Int32) (vq0_first : Int32) (vq0_value : UInt64) (vq0_numbersRead : Int32) (vq0_failedAt : Int32) (vq0_characters : Nat → Int32) (x1 : Int32) (vq0_at : Int32) (vq0_digits : Int32) (x2 : Int32) : Option ((Int32 × Int32 × Int32) ⊕ (Int32 × Int32 × Int32)) :=
  if x1 ≤ x2 then (some (.inr (vq0_at, vq0_digits, x2))) else (if vq0_length ≤ vq0_at then (some (.inr (vq0_at, vq0_digits, x2))) else (gd (inb vq0_at 300) <| if (vq0_characters vq0_at.toNatClampNeg) < 48 then (some (.inr (vq0_at, vq0_digits, x2))) else (gd (inb vq0_at 300) <| if 57 < (vq0_characters vq0_at.toNatClampNeg) then (some (.inr (vq0_at, vq0_digits, x2))) else (gd (inb vq0_at 300) <| some (.inl (vq0_at + 1, (vq0_digits * 10) + ((vq0_characters vq0_at.toNatClampNeg) - 48), x2 + 1))))))
def s_Tr_takeDigits_L2 (vq0_length : Int32) (vq0_at : Int32) (vq0_first : Int32) (vq0_digits : Int32) (vq0_value : UInt64) (vq0_numbersRead : Int32) (vq0_failedAt : Int32) (vq0_characters : Nat → Int32) (x1 : Int32) (x2 : Int32) : Option (Int32 × Int32 × Int32) :=
  (loopO (fun (st : Int32 × Int32 × Int32) => s_Tr_takeDigits_B2 vq0_length vq0_first vq0_value vq0_numbersRead vq0_failedAt vq0_characters x1 st.1 st.2.1 st.2.2) 2000 (vq0_at, vq0_digits, x2)).bind fun ul2 => some (ul2.2.2, ul2.1, ul2.2.1)
def s_Tr_takeDigits (vq0_length : Int32) (vq0_at : Int32) (vq0_first : Int32) (vq0_digits : Int32) (vq0_value : UInt64) (vq0_numbersRead : Int32) (vq0_failedAt : Int32) (vq0_characters : Nat → Int32) (x1 : Int32) : Option (Int32 × Int32 × Int32) :=
  s_Tr_takeDigits_L2 vq0_length vq0_at vq0_first vq0_digits vq0_value vq0_numbersRead vq0_failedAt vq0_characters x1 0
set_option maxHeartbeats 40000000 in
set_option maxRecDepth 100000 in
theorem c_Tr_takeDigits (l : Launch) (D : va_G) (T : Nat → ClassId) (q0 : Nat) (q0_characters : Nat) (q0_fresh : Nat) (vq0_length : Int32) (vq0_at : Int32) (vq0_first : Int32) (vq0_digits : Int32) (vq0_value : UInt64) (vq0_numbersRead : Int32) (vq0_failedAt : Int32) (vq0_characters : Nat → Int32) (x1 : Int32) (rm : Int32 × Int32 × Int32) (h : s_Tr_takeDigits vq0_length vq0_at vq0_first vq0_digits vq0_value vq0_numbersRead vq0_failedAt vq0_characters x1 = some rm) : CtI l y_Tr_takeDigits (Cond.code y_Tr_takeDigits prog_8_method_16_code 3 (some .int) :: BIG) 0 0 D T [.ref q0, .int x1] (w_Tr_takeDigits T q0 q0_characters q0_fresh vq0_length vq0_at vq0_first vq0_digits vq0_value vq0_numbersRead vq0_failedAt vq0_characters) (fun r => r.1) (fun r => (w_Tr_takeDigits T q0 q0_characters q0_fresh vq0_length r.2.1 vq0_first r.2.2 vq0_value vq0_numbersRead vq0_failedAt vq0_characters)) rm := by
  refine cf_entry (y := y_Tr_takeDigits) (cc := prog_8_method_16_code) (nL := 3) (ret := (some .int)) (fr := 0) (lo := 0) (T := T) (av := [.ref q0, .int x1]) (w := (w_Tr_takeDigits T q0 q0_characters q0_fresh vq0_length vq0_at vq0_first vq0_digits vq0_value vq0_numbersRead vq0_failedAt vq0_characters)) (Qc := cfQi D (fun r => r.1) (fun r => (w_Tr_takeDigits T q0 q0_characters q0_fresh vq0_length r.2.1 vq0_first r.2.2 vq0_value vq0_numbersRead vq0_failedAt vq0_characters)) rm) (by decide) rfl (Nat.le_of_ble_eq_true rfl) ?_
  intro p e s m args below meth c A Q H locs ls hx hb hr hlocks hml hown hts hNW hK hA hQ hP hD hS hl
  have hown : s.vm.findClass "ConeForge$TextReader" = some m.cls := hown
  have hl : lv_has ls 3 [(0, .ref q0), (1, .int x1)] := hl
  have L2 : ∀ (vq0_at : Int32) (vq0_digits : Int32) (x1 : Int32) (x2 : Int32), ∀ (H : Heap) (locs : List Loc) (ls : Array Slot), va_P D CL (w_Tr_takeDigits T q0 q0_characters q0_fresh vq0_length vq0_at vq0_first vq0_digits vq0_value vq0_numbersRead vq0_failedAt vq0_characters) H → va_D A (w_Tr_takeDigits T q0 q0_characters q0_fresh vq0_length vq0_at vq0_first vq0_digits vq0_value vq0_numbersRead vq0_failedAt vq0_characters) → va_S A s.heap H locs → lv_has ls 3 [(0, .ref q0), (1, .int x1), (2, .int x2)] → s_Tr_takeDigits_L2 vq0_length vq0_at vq0_first vq0_digits vq0_value vq0_numbersRead vq0_failedAt vq0_characters x1 x2 = some rm → W p l e (rmk 0 0) s m args below meth c H locs 0 0 Q (F0 m 2 ls []) := by
    intro vq0_at vq0_digits x1 x2 H locs ls hP hD hS hl h
    unfold s_Tr_takeDigits_L2 at h
    obtain ⟨ul2, hul2, h⟩ := bi_some h
    refine loopO_W (Wh := fun (st : Int32 × Int32 × Int32) => ∀ (H : Heap) (locs : List Loc) (ls : Array Slot), va_P D CL (w_Tr_takeDigits T q0 q0_characters q0_fresh vq0_length st.1 vq0_first st.2.1 vq0_value vq0_numbersRead vq0_failedAt vq0_characters) H → va_D A (w_Tr_takeDigits T q0 q0_characters q0_fresh vq0_length st.1 vq0_first st.2.1 vq0_value vq0_numbersRead vq0_failedAt vq0_characters) → va_S A s.heap H locs → lv_has ls 3 [(0, .ref q0), (1, .int x1), (2, .int st.2.2)] → W p l e (rmk 0 0) s m args below meth c H locs 0 0 Q (F0 m 2 ls [])) (Wx := fun (e1 : Int32 × Int32 × Int32) => ∀ (H : Heap) (locs : List Loc) (ls : Array Slot), va_P D CL (w_Tr_takeDigits T q0 q0_characters q0_fresh vq0_length e1.1 vq0_first e1.2.1 vq0_value vq0_numbersRead vq0_failedAt vq0_characters) H → va_D A (w_Tr_takeDigits T q0 q0_characters q0_fresh vq0_length e1.1 vq0_first e1.2.1 vq0_value vq0_numbersRead vq0_failedAt vq0_characters) → va_S A s.heap H locs → lv_has ls 3 [(2, .int e1.2.2)] → W p l e (rmk 0 0) s m args below meth c H locs 0 0 Q (F0 m 86 ls [])) ?_ 2000 _ ul2 hul2 ?_ H locs ls hP hD hS hl
    · intro st rb2 h kc2 kx2 H locs ls hP hD hS hl
      obtain ⟨vq0_at, vq0_digits, x2⟩ := st
      have h : s_Tr_takeDigits_B2 vq0_length vq0_first vq0_value vq0_numbersRead vq0_failedAt vq0_characters x1 vq0_at vq0_digits x2 = some rb2 := h
      unfold s_Tr_takeDigits_B2 at h
      refine lv_iload_n hx hb d_Tr_takeDigits_2 rfl (lv_at hl 2 rfl) ?_
      refine lv_iload_n hx hb d_Tr_takeDigits_3 rfl (lv_at hl 1 rfl) ?_
      refine lv_icmp_ge (tgt := 86) hx hb d_Tr_takeDigits_4 (by decide) (fun c1 => ?_) (fun c1 => ?_)
      · have h := it_t c1 h
        exact kx2 _ (Option.some.inj h).symm H locs ls hP hD hS (lv_sub hl [2] rfl)
      · have h := it_f c1 h
        refine lv_aload_n hx hb d_Tr_takeDigits_7 rfl (lv_at hl 0 rfl) ?_
        refine va_get (D := D) (ci := 3) (v := .int vq0_at) (C := "ConeForge$TextReader") (T := FTr) (N := 9) hx hb hts iTr hown hK hP 0 rfl rfl 3 (by decide) (hts _ (bgc bw169)) (fun _ h9 => h9) rfl d_Tr_takeDigits_8 ?_
        refine lv_aload_n hx hb d_Tr_takeDigits_11 rfl (lv_at hl 0 rfl) ?_
        refine va_get (D := D) (ci := 3) (v := .int vq0_length) (C := "ConeForge$TextReader") (T := FTr) (N := 9) hx hb hts iTr hown hK hP 0 rfl rfl 2 (by decide) (hts _ (bgc bw168)) (fun _ h9 => h9) rfl d_Tr_takeDigits_12 ?_
        refine lv_icmp_ge (tgt := 86) hx hb d_Tr_takeDigits_15 (by decide) (fun c2 => ?_) (fun c2 => ?_)
        · have h := it_t c2 h
          exact kx2 _ (Option.some.inj h).symm H locs ls hP hD hS (lv_sub hl [2] rfl)
        · have h := it_f c2 h
          refine lv_aload_n hx hb d_Tr_takeDigits_18 rfl (lv_at hl 0 rfl) ?_
          refine va_get (D := D) (ci := 3) (v := .ref q0_characters) (C := "ConeForge$TextReader") (T := FTr) (N := 9) hx hb hts iTr hown hK hP 0 rfl rfl 0 (by decide) (hts _ (bgc bw166)) (fun _ h9 => h9) rfl d_Tr_takeDigits_19 ?_
          refine lv_aload_n hx hb d_Tr_takeDigits_22 rfl (lv_at hl 0 rfl) ?_
          refine va_get (D := D) (ci := 3) (v := .int vq0_at) (C := "ConeForge$TextReader") (T := FTr) (N := 9) hx hb hts iTr hown hK hP 0 rfl rfl 3 (by decide) (hts _ (bgc bw169)) (fun _ h9 => h9) rfl d_Tr_takeDigits_23 ?_
          obtain ⟨g3, h⟩ := gd_some h
          refine va_cald hx hb hK hP 1 2 rfl rfl (inb_in g3) d_Tr_takeDigits_26 ?_
          refine lv_bipush (v := 48) hx hb d_Tr_takeDigits_27 (by decide) ?_
          refine lv_icmp_lt (tgt := 86) hx hb d_Tr_takeDigits_29 (by decide) (fun c4 => ?_) (fun c4 => ?_)
          · have h := it_t c4 h
            exact kx2 _ (Option.some.inj h).symm H locs ls hP hD hS (lv_sub hl [2] rfl)
          · have h := it_f c4 h
            refine lv_aload_n hx hb d_Tr_takeDigits_32 rfl (lv_at hl 0 rfl) ?_
            refine va_get (D := D) (ci := 3) (v := .ref q0_characters) (C := "ConeForge$TextReader") (T := FTr) (N := 9) hx hb hts iTr hown hK hP 0 rfl rfl 0 (by decide) (hts _ (bgc bw166)) (fun _ h9 => h9) rfl d_Tr_takeDigits_33 ?_
            refine lv_aload_n hx hb d_Tr_takeDigits_36 rfl (lv_at hl 0 rfl) ?_
            refine va_get (D := D) (ci := 3) (v := .int vq0_at) (C := "ConeForge$TextReader") (T := FTr) (N := 9) hx hb hts iTr hown hK hP 0 rfl rfl 3 (by decide) (hts _ (bgc bw169)) (fun _ h9 => h9) rfl d_Tr_takeDigits_37 ?_
            obtain ⟨g5, h⟩ := gd_some h
            refine va_cald hx hb hK hP 1 2 rfl rfl (inb_in g5) d_Tr_takeDigits_40 ?_
            refine lv_bipush (v := 57) hx hb d_Tr_takeDigits_41 (by decide) ?_
            refine lv_icmp_gt (tgt := 86) hx hb d_Tr_takeDigits_43 (by decide) (fun c6 => ?_) (fun c6 => ?_)
            · have h := it_t c6 h
              exact kx2 _ (Option.some.inj h).symm H locs ls hP hD hS (lv_sub hl [2] rfl)
            · have h := it_f c6 h
              refine lv_aload_n hx hb d_Tr_takeDigits_46 rfl (lv_at hl 0 rfl) ?_
              refine lv_aload_n hx hb d_Tr_takeDigits_47 rfl (lv_at hl 0 rfl) ?_
              refine va_get (D := D) (ci := 3) (v := .int vq0_digits) (C := "ConeForge$TextReader") (T := FTr) (N := 9) hx hb hts iTr hown hK hP 0 rfl rfl 5 (by decide) (hts _ (bgc bw171)) (fun _ h9 => h9) rfl d_Tr_takeDigits_48 ?_
              refine lv_bipush (v := 10) hx hb d_Tr_takeDigits_51 (by decide) ?_
              refine lv_imul hx hb d_Tr_takeDigits_53 ?_
              refine lv_aload_n hx hb d_Tr_takeDigits_54 rfl (lv_at hl 0 rfl) ?_
              refine va_get (D := D) (ci := 3) (v := .ref q0_characters) (C := "ConeForge$TextReader") (T := FTr) (N := 9) hx hb hts iTr hown hK hP 0 rfl rfl 0 (by decide) (hts _ (bgc bw166)) (fun _ h9 => h9) rfl d_Tr_takeDigits_55 ?_
              refine lv_aload_n hx hb d_Tr_takeDigits_58 rfl (lv_at hl 0 rfl) ?_
              refine va_get (D := D) (ci := 3) (v := .int vq0_at) (C := "ConeForge$TextReader") (T := FTr) (N := 9) hx hb hts iTr hown hK hP 0 rfl rfl 3 (by decide) (hts _ (bgc bw169)) (fun _ h9 => h9) rfl d_Tr_takeDigits_59 ?_
              obtain ⟨g7, h⟩ := gd_some h
              refine va_cald hx hb hK hP 1 2 rfl rfl (inb_in g7) d_Tr_takeDigits_62 ?_
              refine lv_bipush (v := 48) hx hb d_Tr_takeDigits_63 (by decide) ?_
              refine lv_isub hx hb d_Tr_takeDigits_65 ?_
              refine lv_iadd hx hb d_Tr_takeDigits_66 ?_
              refine va_put (D := D) (ci := 3) (v := .int ((vq0_digits * 10) + ((vq0_characters vq0_at.toNatClampNeg) - 48))) (ty := .int) (C := "ConeForge$TextReader") (T := FTr) (N := 9) hx hb hts iTr tTr tTr_ok nmTr hown hK hP hD hS 0 rfl rfl 5 (by decide) (hts _ (bgc bw171)) (fun _ h9 => h9) rfl (by decide +kernel) rfl rfl (Nat.le_of_ble_eq_true rfl) d_Tr_takeDigits_67 (fun H locs hP hD hS => ?_)
              have hP : va_P D CL (w_Tr_takeDigits T q0 q0_characters q0_fresh vq0_length vq0_at vq0_first ((vq0_digits * 10) + ((vq0_characters vq0_at.toNatClampNeg) - 48)) vq0_value vq0_numbersRead vq0_failedAt vq0_characters) H := hP
              have hD : va_D A (w_Tr_takeDigits T q0 q0_characters q0_fresh vq0_length vq0_at vq0_first ((vq0_digits * 10) + ((vq0_characters vq0_at.toNatClampNeg) - 48)) vq0_value vq0_numbersRead vq0_failedAt vq0_characters) := hD
              refine lv_aload_n hx hb d_Tr_takeDigits_70 rfl (lv_at hl 0 rfl) ?_
              refine lv_dup hx hb d_Tr_takeDigits_71 rfl ?_
              refine va_get (D := D) (ci := 3) (v := .int vq0_at) (C := "ConeForge$TextReader") (T := FTr) (N := 9) hx hb hts iTr hown hK hP 0 rfl rfl 3 (by decide) (hts _ (bgc bw169)) (fun _ h9 => h9) rfl d_Tr_takeDigits_72 ?_
              refine lv_iconst (v := 1) hx hb d_Tr_takeDigits_75 (by decide) ?_
              refine lv_iadd hx hb d_Tr_takeDigits_76 ?_
              refine va_put (D := D) (ci := 3) (v := .int (vq0_at + 1)) (ty := .int) (C := "ConeForge$TextReader") (T := FTr) (N := 9) hx hb hts iTr tTr tTr_ok nmTr hown hK hP hD hS 0 rfl rfl 3 (by decide) (hts _ (bgc bw169)) (fun _ h9 => h9) rfl (by decide +kernel) rfl rfl (Nat.le_of_ble_eq_true rfl) d_Tr_takeDigits_77 (fun H locs hP hD hS => ?_)
              have hP : va_P D CL (w_Tr_takeDigits T q0 q0_characters q0_fresh vq0_length (vq0_at + 1) vq0_first ((vq0_digits * 10) + ((vq0_characters vq0_at.toNatClampNeg) - 48)) vq0_value vq0_numbersRead vq0_failedAt vq0_characters) H := hP
              have hD : va_D A (w_Tr_takeDigits T q0 q0_characters q0_fresh vq0_length (vq0_at + 1) vq0_first ((vq0_digits * 10) + ((vq0_characters vq0_at.toNatClampNeg) - 48)) vq0_value vq0_numbersRead vq0_failedAt vq0_characters) := hD
              refine lv_iinc (v := x2 + 1) (lv' := [(2, .int (x2 + 1)), (0, .ref q0), (1, .int x1)]) hx hb d_Tr_takeDigits_80 hl (k := 2) rfl rfl (by decide) rfl (fun ls hl => ?_)
              refine lv_goto (tgt := 2) hx hb d_Tr_takeDigits_83 (by decide) ?_
              exact kc2 _ (Option.some.inj h).symm H locs ls hP hD hS (lv_sub hl [1, 2, 0] rfl)
    · intro H locs ls hP hD hS hl
      refine lv_iload_n hx hb d_Tr_takeDigits_86 rfl (lv_at hl 0 rfl) ?_
      exact rtI hx hb hr hlocks hQ (Option.some.inj h) hP hS d_Tr_takeDigits_87 rfl rfl
  unfold s_Tr_takeDigits at h
  refine lv_iconst (v := 0) hx hb d_Tr_takeDigits_0 (by decide) ?_
  refine lv_istore_n (lv' := [(2, .int 0), (0, .ref q0), (1, .int x1)]) hx hb d_Tr_takeDigits_1 rfl hl (by decide) rfl (fun ls hl => ?_)
  exact L2 vq0_at vq0_digits x1 0 H locs ls hP hD hS (lv_sub hl [1, 2, 0] rfl) h
theorem d_Tr_failAt_0 : decode prog_8_method_17_code 0 = .ok (.aload_n 0, 1) := by decide +kernel
theorem d_Tr_failAt_1 : decode prog_8_method_17_code 1 = .ok (.iload_n 1, 1) := by decide +kernel
theorem d_Tr_failAt_2 : decode prog_8_method_17_code 2 = .ok (.putfield 42, 3) := by decide +kernel
theorem d_Tr_failAt_5 : decode prog_8_method_17_code 5 = .ok (.iconst 0, 1) := by decide +kernel
theorem d_Tr_failAt_6 : decode prog_8_method_17_code 6 = .ok (.ireturn, 1) := by decide +kernel
abbrev w_Tr_failAt (T : Nat → ClassId) (q0 : Nat) (q0_characters : Nat) (q0_fresh : Nat) (vq0_length : Int32) (vq0_at : Int32) (vq0_first : Int32) (vq0_digits : Int32) (vq0_value : UInt64) (vq0_numbersRead : Int32) (vq0_failedAt : Int32) : va_W := [(q0, .inr (3, [.ref q0_characters, .ref q0_fresh, .int vq0_length, .int vq0_at, .int vq0_first, .int vq0_digits, .double vq0_value, .int vq0_numbersRead, .int vq0_failedAt]))]
def s_Tr_failAt (vq0_length : Int32) (vq0_at : Int32) (vq0_first : Int32) (vq0_digits : Int32) (vq0_value : UInt64) (vq0_numbersRead : Int32) (vq0_failedAt : Int32) (x1 : Int32) : Option (Int32 × Int32) :=
  gd (isb 0) <| some (0, x1)
set_option maxHeartbeats 40000000 in
set_option maxRecDepth 100000 in
theorem c_Tr_failAt (l : Launch) (D : va_G) (T : Nat → ClassId) (q0 : Nat) (q0_characters : Nat) (q0_fresh : Nat) (vq0_length : Int32) (vq0_at : Int32) (vq0_first : Int32) (vq0_digits : Int32) (vq0_value : UInt64) (vq0_numbersRead : Int32) (vq0_failedAt : Int32) (x1 : Int32) (rm : Int32 × Int32) (h : s_Tr_failAt vq0_length vq0_at vq0_first vq0_digits vq0_value vq0_numbersRead vq0_failedAt x1 = some rm) : CtI l y_Tr_failAt (Cond.code y_Tr_failAt prog_8_method_17_code 2 (some .boolean) :: BIG) 0 0 D T [.ref q0, .int x1] (w_Tr_failAt T q0 q0_characters q0_fresh vq0_length vq0_at vq0_first vq0_digits vq0_value vq0_numbersRead vq0_failedAt) (fun r => r.1) (fun r => (w_Tr_failAt T q0 q0_characters q0_fresh vq0_length vq0_at vq0_first vq0_digits vq0_value vq0_numbersRead r.2)) rm := by
  refine cf_entry (y := y_Tr_failAt) (cc := prog_8_method_17_code) (nL := 2) (ret := (some .boolean)) (fr := 0) (lo := 0) (T := T) (av := [.ref q0, .int x1]) (w := (w_Tr_failAt T q0 q0_characters q0_fresh vq0_length vq0_at vq0_first vq0_digits vq0_value vq0_numbersRead vq0_failedAt)) (Qc := cfQi D (fun r => r.1) (fun r => (w_Tr_failAt T q0 q0_characters q0_fresh vq0_length vq0_at vq0_first vq0_digits vq0_value vq0_numbersRead r.2)) rm) (by decide) rfl (Nat.le_of_ble_eq_true rfl) ?_
  intro p e s m args below meth c A Q H locs ls hx hb hr hlocks hml hown hts hNW hK hA hQ hP hD hS hl
  have hown : s.vm.findClass "ConeForge$TextReader" = some m.cls := hown
  have hl : lv_has ls 2 [(0, .ref q0), (1, .int x1)] := hl
  unfold s_Tr_failAt at h
  refine lv_aload_n hx hb d_Tr_failAt_0 rfl (lv_at hl 0 rfl) ?_
  refine lv_iload_n hx hb d_Tr_failAt_1 rfl (lv_at hl 1 rfl) ?_
  refine va_put (D := D) (ci := 3) (v := .int x1) (ty := .int) (C := "ConeForge$TextReader") (T := FTr) (N := 9) hx hb hts iTr tTr tTr_ok nmTr hown hK hP hD hS 0 rfl rfl 8 (by decide) (hts _ (bgc bw174)) (fun _ h9 => h9) rfl (by decide +kernel) rfl rfl (Nat.le_of_ble_eq_true rfl) d_Tr_failAt_2 (fun H locs hP hD hS => ?_)
  have hP : va_P D CL (w_Tr_failAt T q0 q0_characters q0_fresh vq0_length vq0_at vq0_first vq0_digits vq0_value vq0_numbersRead x1) H := hP
  have hD : va_D A (w_Tr_failAt T q0 q0_characters q0_fresh vq0_length vq0_at vq0_first vq0_digits vq0_value vq0_numbersRead x1) := hD
  refine lv_iconst (v := 0) hx hb d_Tr_failAt_5 (by decide) ?_
  obtain ⟨g1, h⟩ := gd_some h
  exact rtZ hx hb hr hlocks g1 hQ (Option.some.inj h) hP hS d_Tr_failAt_6 rfl rfl
theorem d_Tr_parseNumber_0 : decode prog_8_method_12_code 0 = .ok (.aload_n 0, 1) := by decide +kernel
theorem d_Tr_parseNumber_1 : decode prog_8_method_12_code 1 = .ok (.invokevirtual 90, 3) := by decide +kernel
theorem d_Tr_parseNumber_4 : decode prog_8_method_12_code 4 = .ok (.pop, 1) := by decide +kernel
theorem d_Tr_parseNumber_5 : decode prog_8_method_12_code 5 = .ok (.aload_n 0, 1) := by decide +kernel
theorem d_Tr_parseNumber_6 : decode prog_8_method_12_code 6 = .ok (.aload_n 0, 1) := by decide +kernel
theorem d_Tr_parseNumber_7 : decode prog_8_method_12_code 7 = .ok (.getfield 26, 3) := by decide +kernel
theorem d_Tr_parseNumber_10 : decode prog_8_method_12_code 10 = .ok (.putfield 29, 3) := by decide +kernel
theorem d_Tr_parseNumber_13 : decode prog_8_method_12_code 13 = .ok (.aload_n 0, 1) := by decide +kernel
theorem d_Tr_parseNumber_14 : decode prog_8_method_12_code 14 = .ok (.iconst 0, 1) := by decide +kernel
theorem d_Tr_parseNumber_15 : decode prog_8_method_12_code 15 = .ok (.putfield 32, 3) := by decide +kernel
theorem d_Tr_parseNumber_18 : decode prog_8_method_12_code 18 = .ok (.iload_n 1, 1) := by decide +kernel
theorem d_Tr_parseNumber_19 : decode prog_8_method_12_code 19 = .ok (.ifCond .ne 16, 3) := by decide +kernel
theorem d_Tr_parseNumber_22 : decode prog_8_method_12_code 22 = .ok (.aload_n 0, 1) := by decide +kernel
theorem d_Tr_parseNumber_23 : decode prog_8_method_12_code 23 = .ok (.bipush 45, 2) := by decide +kernel
theorem d_Tr_parseNumber_25 : decode prog_8_method_12_code 25 = .ok (.invokevirtual 108, 3) := by decide +kernel
theorem d_Tr_parseNumber_28 : decode prog_8_method_12_code 28 = .ok (.ifCond .eq 7, 3) := by decide +kernel
theorem d_Tr_parseNumber_31 : decode prog_8_method_12_code 31 = .ok (.iconst 1, 1) := by decide +kernel
theorem d_Tr_parseNumber_32 : decode prog_8_method_12_code 32 = .ok (.goto 4, 3) := by decide +kernel
theorem d_Tr_parseNumber_35 : decode prog_8_method_12_code 35 = .ok (.iconst 0, 1) := by decide +kernel
theorem d_Tr_parseNumber_36 : decode prog_8_method_12_code 36 = .ok (.istore_n 2, 1) := by decide +kernel
theorem d_Tr_parseNumber_37 : decode prog_8_method_12_code 37 = .ok (.aload_n 0, 1) := by decide +kernel
theorem d_Tr_parseNumber_38 : decode prog_8_method_12_code 38 = .ok (.iconst 4, 1) := by decide +kernel
theorem d_Tr_parseNumber_39 : decode prog_8_method_12_code 39 = .ok (.invokevirtual 112, 3) := by decide +kernel
theorem d_Tr_parseNumber_42 : decode prog_8_method_12_code 42 = .ok (.ifCond .ne 12, 3) := by decide +kernel
theorem d_Tr_parseNumber_45 : decode prog_8_method_12_code 45 = .ok (.aload_n 0, 1) := by decide +kernel
theorem d_Tr_parseNumber_46 : decode prog_8_method_12_code 46 = .ok (.aload_n 0, 1) := by decide +kernel
theorem d_Tr_parseNumber_47 : decode prog_8_method_12_code 47 = .ok (.getfield 26, 3) := by decide +kernel
theorem d_Tr_parseNumber_50 : decode prog_8_method_12_code 50 = .ok (.invokevirtual 101, 3) := by decide +kernel
theorem d_Tr_parseNumber_53 : decode prog_8_method_12_code 53 = .ok (.ireturn, 1) := by decide +kernel
theorem d_Tr_parseNumber_54 : decode prog_8_method_12_code 54 = .ok (.dconst 1, 1) := by decide +kernel
theorem d_Tr_parseNumber_55 : decode prog_8_method_12_code 55 = .ok (.dstore_n 3, 1) := by decide +kernel
theorem d_Tr_parseNumber_56 : decode prog_8_method_12_code 56 = .ok (.iload_n 1, 1) := by decide +kernel
theorem d_Tr_parseNumber_57 : decode prog_8_method_12_code 57 = .ok (.ifCond .ne 61, 3) := by decide +kernel
theorem d_Tr_parseNumber_60 : decode prog_8_method_12_code 60 = .ok (.aload_n 0, 1) := by decide +kernel
theorem d_Tr_parseNumber_61 : decode prog_8_method_12_code 61 = .ok (.bipush 46, 2) := by decide +kernel
theorem d_Tr_parseNumber_63 : decode prog_8_method_12_code 63 = .ok (.invokevirtual 108, 3) := by decide +kernel
theorem d_Tr_parseNumber_66 : decode prog_8_method_12_code 66 = .ok (.ifCond .eq 52, 3) := by decide +kernel
theorem d_Tr_parseNumber_69 : decode prog_8_method_12_code 69 = .ok (.aload_n 0, 1) := by decide +kernel
theorem d_Tr_parseNumber_70 : decode prog_8_method_12_code 70 = .ok (.iconst 3, 1) := by decide +kernel
theorem d_Tr_parseNumber_71 : decode prog_8_method_12_code 71 = .ok (.invokevirtual 112, 3) := by decide +kernel
theorem d_Tr_parseNumber_74 : decode prog_8_method_12_code 74 = .ok (.istore 5, 2) := by decide +kernel
theorem d_Tr_parseNumber_76 : decode prog_8_method_12_code 76 = .ok (.iload 5, 2) := by decide +kernel
theorem d_Tr_parseNumber_78 : decode prog_8_method_12_code 78 = .ok (.ifCond .ne 12, 3) := by decide +kernel
theorem d_Tr_parseNumber_81 : decode prog_8_method_12_code 81 = .ok (.aload_n 0, 1) := by decide +kernel
theorem d_Tr_parseNumber_82 : decode prog_8_method_12_code 82 = .ok (.aload_n 0, 1) := by decide +kernel
theorem d_Tr_parseNumber_83 : decode prog_8_method_12_code 83 = .ok (.getfield 26, 3) := by decide +kernel
theorem d_Tr_parseNumber_86 : decode prog_8_method_12_code 86 = .ok (.invokevirtual 101, 3) := by decide +kernel
theorem d_Tr_parseNumber_89 : decode prog_8_method_12_code 89 = .ok (.ireturn, 1) := by decide +kernel
theorem d_Tr_parseNumber_90 : decode prog_8_method_12_code 90 = .ok (.iload 5, 2) := by decide +kernel
theorem d_Tr_parseNumber_92 : decode prog_8_method_12_code 92 = .ok (.iconst 1, 1) := by decide +kernel
theorem d_Tr_parseNumber_93 : decode prog_8_method_12_code 93 = .ok (.if_icmp .ne 9, 3) := by decide +kernel
theorem d_Tr_parseNumber_96 : decode prog_8_method_12_code 96 = .ok (.ldc2_w 116, 3) := by decide +kernel
theorem d_Tr_parseNumber_99 : decode prog_8_method_12_code 99 = .ok (.goto 18, 3) := by decide +kernel
theorem d_Tr_parseNumber_102 : decode prog_8_method_12_code 102 = .ok (.iload 5, 2) := by decide +kernel
theorem d_Tr_parseNumber_104 : decode prog_8_method_12_code 104 = .ok (.iconst 2, 1) := by decide +kernel
theorem d_Tr_parseNumber_105 : decode prog_8_method_12_code 105 = .ok (.if_icmp .ne 9, 3) := by decide +kernel
theorem d_Tr_parseNumber_108 : decode prog_8_method_12_code 108 = .ok (.ldc2_w 118, 3) := by decide +kernel
theorem d_Tr_parseNumber_111 : decode prog_8_method_12_code 111 = .ok (.goto 6, 3) := by decide +kernel
theorem d_Tr_parseNumber_114 : decode prog_8_method_12_code 114 = .ok (.ldc2_w 120, 3) := by decide +kernel
theorem d_Tr_parseNumber_117 : decode prog_8_method_12_code 117 = .ok (.dstore_n 3, 1) := by decide +kernel
theorem d_Tr_parseNumber_118 : decode prog_8_method_12_code 118 = .ok (.aload_n 0, 1) := by decide +kernel
theorem d_Tr_parseNumber_119 : decode prog_8_method_12_code 119 = .ok (.getfield 26, 3) := by decide +kernel
theorem d_Tr_parseNumber_122 : decode prog_8_method_12_code 122 = .ok (.aload_n 0, 1) := by decide +kernel
theorem d_Tr_parseNumber_123 : decode prog_8_method_12_code 123 = .ok (.getfield 22, 3) := by decide +kernel
theorem d_Tr_parseNumber_126 : decode prog_8_method_12_code 126 = .ok (.if_icmp .ge 40, 3) := by decide +kernel
theorem d_Tr_parseNumber_129 : decode prog_8_method_12_code 129 = .ok (.aload_n 0, 1) := by decide +kernel
theorem d_Tr_parseNumber_130 : decode prog_8_method_12_code 130 = .ok (.getfield 9, 3) := by decide +kernel
theorem d_Tr_parseNumber_133 : decode prog_8_method_12_code 133 = .ok (.aload_n 0, 1) := by decide +kernel
theorem d_Tr_parseNumber_134 : decode prog_8_method_12_code 134 = .ok (.getfield 26, 3) := by decide +kernel
theorem d_Tr_parseNumber_137 : decode prog_8_method_12_code 137 = .ok (.caload, 1) := by decide +kernel
theorem d_Tr_parseNumber_138 : decode prog_8_method_12_code 138 = .ok (.bipush 32, 2) := by decide +kernel
theorem d_Tr_parseNumber_140 : decode prog_8_method_12_code 140 = .ok (.if_icmp .eq 26, 3) := by decide +kernel
theorem d_Tr_parseNumber_143 : decode prog_8_method_12_code 143 = .ok (.aload_n 0, 1) := by decide +kernel
theorem d_Tr_parseNumber_144 : decode prog_8_method_12_code 144 = .ok (.getfield 9, 3) := by decide +kernel
theorem d_Tr_parseNumber_147 : decode prog_8_method_12_code 147 = .ok (.aload_n 0, 1) := by decide +kernel
theorem d_Tr_parseNumber_148 : decode prog_8_method_12_code 148 = .ok (.getfield 26, 3) := by decide +kernel
theorem d_Tr_parseNumber_151 : decode prog_8_method_12_code 151 = .ok (.caload, 1) := by decide +kernel
theorem d_Tr_parseNumber_152 : decode prog_8_method_12_code 152 = .ok (.bipush 10, 2) := by decide +kernel
theorem d_Tr_parseNumber_154 : decode prog_8_method_12_code 154 = .ok (.if_icmp .eq 12, 3) := by decide +kernel
theorem d_Tr_parseNumber_157 : decode prog_8_method_12_code 157 = .ok (.aload_n 0, 1) := by decide +kernel
theorem d_Tr_parseNumber_158 : decode prog_8_method_12_code 158 = .ok (.aload_n 0, 1) := by decide +kernel
theorem d_Tr_parseNumber_159 : decode prog_8_method_12_code 159 = .ok (.getfield 26, 3) := by decide +kernel
theorem d_Tr_parseNumber_162 : decode prog_8_method_12_code 162 = .ok (.invokevirtual 101, 3) := by decide +kernel
theorem d_Tr_parseNumber_165 : decode prog_8_method_12_code 165 = .ok (.ireturn, 1) := by decide +kernel
theorem d_Tr_parseNumber_166 : decode prog_8_method_12_code 166 = .ok (.aload_n 0, 1) := by decide +kernel
theorem d_Tr_parseNumber_167 : decode prog_8_method_12_code 167 = .ok (.getfield 32, 3) := by decide +kernel
theorem d_Tr_parseNumber_170 : decode prog_8_method_12_code 170 = .ok (.i2d, 1) := by decide +kernel
theorem d_Tr_parseNumber_171 : decode prog_8_method_12_code 171 = .ok (.dload_n 3, 1) := by decide +kernel
theorem d_Tr_parseNumber_172 : decode prog_8_method_12_code 172 = .ok (.ddiv, 1) := by decide +kernel
theorem d_Tr_parseNumber_173 : decode prog_8_method_12_code 173 = .ok (.dstore 5, 2) := by decide +kernel
theorem d_Tr_parseNumber_175 : decode prog_8_method_12_code 175 = .ok (.aload_n 0, 1) := by decide +kernel
theorem d_Tr_parseNumber_176 : decode prog_8_method_12_code 176 = .ok (.iload_n 2, 1) := by decide +kernel
theorem d_Tr_parseNumber_177 : decode prog_8_method_12_code 177 = .ok (.ifCond .eq 9, 3) := by decide +kernel
theorem d_Tr_parseNumber_180 : decode prog_8_method_12_code 180 = .ok (.dload 5, 2) := by decide +kernel
theorem d_Tr_parseNumber_182 : decode prog_8_method_12_code 182 = .ok (.dneg, 1) := by decide +kernel
theorem d_Tr_parseNumber_183 : decode prog_8_method_12_code 183 = .ok (.goto 5, 3) := by decide +kernel
theorem d_Tr_parseNumber_186 : decode prog_8_method_12_code 186 = .ok (.dload 5, 2) := by decide +kernel
theorem d_Tr_parseNumber_188 : decode prog_8_method_12_code 188 = .ok (.putfield 35, 3) := by decide +kernel
theorem d_Tr_parseNumber_191 : decode prog_8_method_12_code 191 = .ok (.aload_n 0, 1) := by decide +kernel
theorem d_Tr_parseNumber_192 : decode prog_8_method_12_code 192 = .ok (.dup, 1) := by decide +kernel
theorem d_Tr_parseNumber_193 : decode prog_8_method_12_code 193 = .ok (.getfield 39, 3) := by decide +kernel
theorem d_Tr_parseNumber_196 : decode prog_8_method_12_code 196 = .ok (.iconst 1, 1) := by decide +kernel
theorem d_Tr_parseNumber_197 : decode prog_8_method_12_code 197 = .ok (.iadd, 1) := by decide +kernel
theorem d_Tr_parseNumber_198 : decode prog_8_method_12_code 198 = .ok (.putfield 39, 3) := by decide +kernel
theorem d_Tr_parseNumber_201 : decode prog_8_method_12_code 201 = .ok (.iconst 1, 1) := by decide +kernel
theorem d_Tr_parseNumber_202 : decode prog_8_method_12_code 202 = .ok (.ireturn, 1) := by decide +kernel
abbrev w_Tr_parseNumber (T : Nat → ClassId) (q0 : Nat) (q0_characters : Nat) (q0_fresh : Nat) (vq0_length : Int32) (vq0_at : Int32) (vq0_first : Int32) (vq0_digits : Int32) (vq0_value : UInt64) (vq0_numbersRead : Int32) (vq0_failedAt : Int32) (vq0_characters : Nat → Int32) : va_W := [(q0, .inr (3, [.ref q0_characters, .ref q0_fresh, .int vq0_length, .int vq0_at, .int vq0_first, .int vq0_digits, .double vq0_value, .int vq0_numbersRead, .int vq0_failedAt])), (q0_characters, .inl (T 2, 300, .inl vq0_characters))]
def s_Tr_parseNumber_J188 (vq0_length : Int32) (vq0_at : Int32) (vq0_first : Int32) (vq0_digits : Int32) (vq0_value : UInt64) (vq0_numbersRead : Int32) (vq0_failedAt : Int32) (vq0_characters : Nat → Int32) (y1 : UInt64) : Option (Int32 × Int32 × Int32 × Int32 × UInt64 × Int32 × Int32) :=
  gd (isb 1) <| some (1, vq0_at, vq0_first, vq0_digits, y1, vq0_numbersRead + 1, vq0_failedAt)
def s_Tr_parseNumber_J166 (vq0_length : Int32) (vq0_at : Int32) (vq0_first : Int32) (vq0_digits : Int32) (vq0_value : UInt64) (vq0_numbersRead : Int32) (vq0_failedAt : Int32) (vq0_characters : Nat → Int32) (x2 : Int32) (x3 : UInt64) : Option (Int32 × Int32 × Int32 × Int32 × UInt64 × Int32 × Int32) :=
  gd (isn (FP.ddiv (FP.i2d vq0_digits) x3)) <| if x2 = 0 then (s_Tr_parseNumber_J188 vq0_length vq0_at vq0_first vq0_digits vq0_value vq0_numbersRead vq0_failedAt vq0_characters (FP.ddiv (FP.i2d vq0_digits) x3)) else (s_Tr_parseNumber_J188 vq0_length vq0_at vq0_first vq0_digits vq0_value vq0_numbersRead vq0_failedAt vq0_characters (FP.dneg (FP.ddiv (FP.i2d vq0_digits) x3)))
def s_Tr_parseNumber_J118 (vq0_length : Int32) (vq0_at : Int32) (vq0_first : Int32) (vq0_digits : Int32) (vq0_value : UInt64) (vq0_numbersRead : Int32) (vq0_failedAt : Int32) (vq0_characters : Nat → Int32) (x2 : Int32) (x3 : UInt64) : Option (Int32 × Int32 × Int32 × Int32 × UInt64 × Int32 × Int32) :=
  if vq0_length ≤ vq0_at then (s_Tr_parseNumber_J166 vq0_length vq0_at vq0_first vq0_digits vq0_value vq0_numbersRead vq0_failedAt vq0_characters x2 x3) else (gd (inb vq0_at 300) <| if (vq0_characters vq0_at.toNatClampNeg) = 32 then (s_Tr_parseNumber_J166 vq0_length vq0_at vq0_first vq0_digits vq0_value vq0_numbersRead vq0_failedAt vq0_characters x2 x3) else (gd (inb vq0_at 300) <| if (vq0_characters vq0_at.toNatClampNeg) = 10 then (s_Tr_parseNumber_J166 vq0_length vq0_at vq0_first vq0_digits vq0_value vq0_numbersRead vq0_failedAt vq0_characters x2 x3) else ((s_Tr_failAt vq0_length vq0_at vq0_first vq0_digits vq0_value vq0_numbersRead vq0_failedAt vq0_at).bind fun u9 => gd (isb u9.1) <| some (u9.1, vq0_at, vq0_first, vq0_digits, vq0_value, vq0_numbersRead, u9.2))))
def s_Tr_parseNumber_J117 (vq0_length : Int32) (vq0_at : Int32) (vq0_first : Int32) (vq0_digits : Int32) (vq0_value : UInt64) (vq0_numbersRead : Int32) (vq0_failedAt : Int32) (vq0_characters : Nat → Int32) (x2 : Int32) (y0 : UInt64) : Option (Int32 × Int32 × Int32 × Int32 × UInt64 × Int32 × Int32) :=
  s_Tr_parseNumber_J118 vq0_length vq0_at vq0_first vq0_digits vq0_value vq0_numbersRead vq0_failedAt vq0_characters x2 y0
def s_Tr_parseNumber_J36 (vq0_length : Int32) (vq0_at : Int32) (vq0_first : Int32) (vq0_digits : Int32) (vq0_value : UInt64) (vq0_numbersRead : Int32) (vq0_failedAt : Int32) (vq0_characters : Nat → Int32) (x1 : Int32) (y0 : Int32) : Option (Int32 × Int32 × Int32 × Int32 × UInt64 × Int32 × Int32) :=
  (s_Tr_takeDigits vq0_length vq0_at vq0_first vq0_digits vq0_value vq0_numbersRead vq0_failedAt vq0_characters 4).bind fun u12 => if u12.1 = 0 then ((s_Tr_failAt vq0_length u12.2.1 vq0_first u12.2.2 vq0_value vq0_numbersRead vq0_failedAt u12.2.1).bind fun u27 => gd (isb u27.1) <| some (u27.1, u12.2.1, vq0_first, u12.2.2, vq0_value, vq0_numbersRead, u27.2)) else (if x1 = 0 then ((s_Tr_skip vq0_length u12.2.1 vq0_first u12.2.2 vq0_value vq0_numbersRead vq0_failedAt vq0_characters 46).bind fun u16 => if u16.1 = 0 then (s_Tr_parseNumber_J118 vq0_length u16.2 vq0_first u12.2.2 vq0_value vq0_numbersRead vq0_failedAt vq0_characters y0 FP.dconst1) else ((s_Tr_takeDigits vq0_length u16.2 vq0_first u12.2.2 vq0_value vq0_numbersRead vq0_failedAt vq0_characters 3).bind fun u19 => if u19.1 = 0 then ((s_Tr_failAt vq0_length u19.2.1 vq0_first u19.2.2 vq0_value vq0_numbersRead vq0_failedAt u19.2.1).bind fun u24 => gd (isb u24.1) <| some (u24.1, u19.2.1, vq0_first, u19.2.2, vq0_value, vq0_numbersRead, u24.2)) else (if u19.1 = 1 then (s_Tr_parseNumber_J117 vq0_length u19.2.1 vq0_first u19.2.2 vq0_value vq0_numbersRead vq0_failedAt vq0_characters y0 4621819117588971520) else (if u19.1 = 2 then (s_Tr_parseNumber_J117 vq0_length u19.2.1 vq0_first u19.2.2 vq0_value vq0_numbersRead vq0_failedAt vq0_characters y0 4636737291354636288) else (s_Tr_parseNumber_J117 vq0_length u19.2.1 vq0_first u19.2.2 vq0_value vq0_numbersRead vq0_failedAt vq0_characters y0 4652007308841189376))))) else (s_Tr_parseNumber_J118 vq0_length u12.2.1 vq0_first u12.2.2 vq0_value vq0_numbersRead vq0_failedAt vq0_characters y0 FP.dconst1))
def s_Tr_parseNumber_J35 (vq0_length : Int32) (vq0_at : Int32) (vq0_first : Int32) (vq0_digits : Int32) (vq0_value : UInt64) (vq0_numbersRead : Int32) (vq0_failedAt : Int32) (vq0_characters : Nat → Int32) (x1 : Int32) : Option (Int32 × Int32 × Int32 × Int32 × UInt64 × Int32 × Int32) :=
  s_Tr_parseNumber_J36 vq0_length vq0_at vq0_first vq0_digits vq0_value vq0_numbersRead vq0_failedAt vq0_characters x1 0
def s_Tr_parseNumber (vq0_length : Int32) (vq0_at : Int32) (vq0_first : Int32) (vq0_digits : Int32) (vq0_value : UInt64) (vq0_numbersRead : Int32) (vq0_failedAt : Int32) (vq0_characters : Nat → Int32) (x1 : Int32) : Option (Int32 × Int32 × Int32 × Int32 × UInt64 × Int32 × Int32) :=
  (s_Tr_reachNumber vq0_length vq0_at vq0_first vq0_digits vq0_value vq0_numbersRead vq0_failedAt vq0_characters).bind fun u30 => if x1 = 0 then ((s_Tr_skip vq0_length u30.2 u30.2 0 vq0_value vq0_numbersRead vq0_failedAt vq0_characters 45).bind fun u33 => if u33.1 = 0 then (s_Tr_parseNumber_J35 vq0_length u33.2 u30.2 0 vq0_value vq0_numbersRead vq0_failedAt vq0_characters x1) else (s_Tr_parseNumber_J36 vq0_length u33.2 u30.2 0 vq0_value vq0_numbersRead vq0_failedAt vq0_characters x1 1)) else (s_Tr_parseNumber_J35 vq0_length u30.2 u30.2 0 vq0_value vq0_numbersRead vq0_failedAt vq0_characters x1)
set_option maxRecDepth 100000 in
theorem j_Tr_parseNumber_162 (T : Nat → ClassId) (q0 : Nat) (q0_characters : Nat) (q0_fresh : Nat) (vq0_length : Int32) (vq0_at : Int32) (vq0_first : Int32) (vq0_digits : Int32) (vq0_value : UInt64) (vq0_numbersRead : Int32) (vq0_failedAt : Int32) (vq0_characters : Nat → Int32) (zvq0_failedAt : Int32) : ([0].map (fun (i : Nat) => (w_Tr_parseNumber T q0 q0_characters q0_fresh vq0_length vq0_at vq0_first vq0_digits vq0_value vq0_numbersRead vq0_failedAt vq0_characters)[i]?) = (w_Tr_failAt T q0 q0_characters q0_fresh vq0_length vq0_at vq0_first vq0_digits vq0_value vq0_numbersRead vq0_failedAt).map some) ∧ ([0].map (fun (i : Nat) => (w_Tr_parseNumber T q0 q0_characters q0_fresh vq0_length vq0_at vq0_first vq0_digits vq0_value vq0_numbersRead zvq0_failedAt vq0_characters)[i]?) = (w_Tr_failAt T q0 q0_characters q0_fresh vq0_length vq0_at vq0_first vq0_digits vq0_value vq0_numbersRead zvq0_failedAt).map some) ∧ ([1].map (fun (i : Nat) => (w_Tr_parseNumber T q0 q0_characters q0_fresh vq0_length vq0_at vq0_first vq0_digits vq0_value vq0_numbersRead vq0_failedAt vq0_characters)[i]?) = [1].map (fun (i : Nat) => (w_Tr_parseNumber T q0 q0_characters q0_fresh vq0_length vq0_at vq0_first vq0_digits vq0_value vq0_numbersRead zvq0_failedAt vq0_characters)[i]?)) ∧ (w_Tr_failAt T q0 q0_characters q0_fresh vq0_length vq0_at vq0_first vq0_digits vq0_value vq0_numbersRead zvq0_failedAt).map Prod.fst = (w_Tr_failAt T q0 q0_characters q0_fresh vq0_length vq0_at vq0_first vq0_digits vq0_value vq0_numbersRead vq0_failedAt).map Prod.fst ∧ (w_Tr_parseNumber T q0 q0_characters q0_fresh vq0_length vq0_at vq0_first vq0_digits vq0_value vq0_numbersRead zvq0_failedAt vq0_characters).length = 2 :=
  ⟨rfl, rfl, Eq.trans (b := ([some (q0_characters, .inl (T 2, 300, .inl vq0_characters))] : List (Option (Nat × va_E)))) rfl rfl, rfl, rfl⟩
set_option maxRecDepth 100000 in
theorem j_Tr_parseNumber_39 (T : Nat → ClassId) (q0 : Nat) (q0_characters : Nat) (q0_fresh : Nat) (vq0_length : Int32) (vq0_at : Int32) (vq0_first : Int32) (vq0_digits : Int32) (vq0_value : UInt64) (vq0_numbersRead : Int32) (vq0_failedAt : Int32) (vq0_characters : Nat → Int32) (zvq0_at : Int32) (zvq0_digits : Int32) : ([0, 1].map (fun (i : Nat) => (w_Tr_parseNumber T q0 q0_characters q0_fresh vq0_length vq0_at vq0_first vq0_digits vq0_value vq0_numbersRead vq0_failedAt vq0_characters)[i]?) = (w_Tr_takeDigits T q0 q0_characters q0_fresh vq0_length vq0_at vq0_first vq0_digits vq0_value vq0_numbersRead vq0_failedAt vq0_characters).map some) ∧ ([0, 1].map (fun (i : Nat) => (w_Tr_parseNumber T q0 q0_characters q0_fresh vq0_length zvq0_at vq0_first zvq0_digits vq0_value vq0_numbersRead vq0_failedAt vq0_characters)[i]?) = (w_Tr_takeDigits T q0 q0_characters q0_fresh vq0_length zvq0_at vq0_first zvq0_digits vq0_value vq0_numbersRead vq0_failedAt vq0_characters).map some) ∧ ([].map (fun (i : Nat) => (w_Tr_parseNumber T q0 q0_characters q0_fresh vq0_length vq0_at vq0_first vq0_digits vq0_value vq0_numbersRead vq0_failedAt vq0_characters)[i]?) = [].map (fun (i : Nat) => (w_Tr_parseNumber T q0 q0_characters q0_fresh vq0_length zvq0_at vq0_first zvq0_digits vq0_value vq0_numbersRead vq0_failedAt vq0_characters)[i]?)) ∧ (w_Tr_takeDigits T q0 q0_characters q0_fresh vq0_length zvq0_at vq0_first zvq0_digits vq0_value vq0_numbersRead vq0_failedAt vq0_characters).map Prod.fst = (w_Tr_takeDigits T q0 q0_characters q0_fresh vq0_length vq0_at vq0_first vq0_digits vq0_value vq0_numbersRead vq0_failedAt vq0_characters).map Prod.fst ∧ (w_Tr_parseNumber T q0 q0_characters q0_fresh vq0_length zvq0_at vq0_first zvq0_digits vq0_value vq0_numbersRead vq0_failedAt vq0_characters).length = 2 :=
  ⟨rfl, rfl, Eq.trans (b := ([] : List (Option (Nat × va_E)))) rfl rfl, rfl, rfl⟩
set_option maxRecDepth 100000 in
theorem j_Tr_parseNumber_63 (T : Nat → ClassId) (q0 : Nat) (q0_characters : Nat) (q0_fresh : Nat) (vq0_length : Int32) (vq0_at : Int32) (vq0_first : Int32) (vq0_digits : Int32) (vq0_value : UInt64) (vq0_numbersRead : Int32) (vq0_failedAt : Int32) (vq0_characters : Nat → Int32) (zvq0_at : Int32) : ([0, 1].map (fun (i : Nat) => (w_Tr_parseNumber T q0 q0_characters q0_fresh vq0_length vq0_at vq0_first vq0_digits vq0_value vq0_numbersRead vq0_failedAt vq0_characters)[i]?) = (w_Tr_skip T q0 q0_characters q0_fresh vq0_length vq0_at vq0_first vq0_digits vq0_value vq0_numbersRead vq0_failedAt vq0_characters).map some) ∧ ([0, 1].map (fun (i : Nat) => (w_Tr_parseNumber T q0 q0_characters q0_fresh vq0_length zvq0_at vq0_first vq0_digits vq0_value vq0_numbersRead vq0_failedAt vq0_characters)[i]?) = (w_Tr_skip T q0 q0_characters q0_fresh vq0_length zvq0_at vq0_first vq0_digits vq0_value vq0_numbersRead vq0_failedAt vq0_characters).map some) ∧ ([].map (fun (i : Nat) => (w_Tr_parseNumber T q0 q0_characters q0_fresh vq0_length vq0_at vq0_first vq0_digits vq0_value vq0_numbersRead vq0_failedAt vq0_characters)[i]?) = [].map (fun (i : Nat) => (w_Tr_parseNumber T q0 q0_characters q0_fresh vq0_length zvq0_at vq0_first vq0_digits vq0_value vq0_numbersRead vq0_failedAt vq0_characters)[i]?)) ∧ (w_Tr_skip T q0 q0_characters q0_fresh vq0_length zvq0_at vq0_first vq0_digits vq0_value vq0_numbersRead vq0_failedAt vq0_characters).map Prod.fst = (w_Tr_skip T q0 q0_characters q0_fresh vq0_length vq0_at vq0_first vq0_digits vq0_value vq0_numbersRead vq0_failedAt vq0_characters).map Prod.fst ∧ (w_Tr_parseNumber T q0 q0_characters q0_fresh vq0_length zvq0_at vq0_first vq0_digits vq0_value vq0_numbersRead vq0_failedAt vq0_characters).length = 2 :=
  ⟨rfl, rfl, Eq.trans (b := ([] : List (Option (Nat × va_E)))) rfl rfl, rfl, rfl⟩
set_option maxRecDepth 100000 in
theorem j_Tr_parseNumber_71 (T : Nat → ClassId) (q0 : Nat) (q0_characters : Nat) (q0_fresh : Nat) (vq0_length : Int32) (vq0_at : Int32) (vq0_first : Int32) (vq0_digits : Int32) (vq0_value : UInt64) (vq0_numbersRead : Int32) (vq0_failedAt : Int32) (vq0_characters : Nat → Int32) (zvq0_at : Int32) (zvq0_digits : Int32) : ([0, 1].map (fun (i : Nat) => (w_Tr_parseNumber T q0 q0_characters q0_fresh vq0_length vq0_at vq0_first vq0_digits vq0_value vq0_numbersRead vq0_failedAt vq0_characters)[i]?) = (w_Tr_takeDigits T q0 q0_characters q0_fresh vq0_length vq0_at vq0_first vq0_digits vq0_value vq0_numbersRead vq0_failedAt vq0_characters).map some) ∧ ([0, 1].map (fun (i : Nat) => (w_Tr_parseNumber T q0 q0_characters q0_fresh vq0_length zvq0_at vq0_first zvq0_digits vq0_value vq0_numbersRead vq0_failedAt vq0_characters)[i]?) = (w_Tr_takeDigits T q0 q0_characters q0_fresh vq0_length zvq0_at vq0_first zvq0_digits vq0_value vq0_numbersRead vq0_failedAt vq0_characters).map some) ∧ ([].map (fun (i : Nat) => (w_Tr_parseNumber T q0 q0_characters q0_fresh vq0_length vq0_at vq0_first vq0_digits vq0_value vq0_numbersRead vq0_failedAt vq0_characters)[i]?) = [].map (fun (i : Nat) => (w_Tr_parseNumber T q0 q0_characters q0_fresh vq0_length zvq0_at vq0_first zvq0_digits vq0_value vq0_numbersRead vq0_failedAt vq0_characters)[i]?)) ∧ (w_Tr_takeDigits T q0 q0_characters q0_fresh vq0_length zvq0_at vq0_first zvq0_digits vq0_value vq0_numbersRead vq0_failedAt vq0_characters).map Prod.fst = (w_Tr_takeDigits T q0 q0_characters q0_fresh vq0_length vq0_at vq0_first vq0_digits vq0_value vq0_numbersRead vq0_failedAt vq0_characters).map Prod.fst ∧ (w_Tr_parseNumber T q0 q0_characters q0_fresh vq0_length zvq0_at vq0_first zvq0_digits vq0_value vq0_numbersRead vq0_failedAt vq0_characters).length = 2 :=
  ⟨rfl, rfl, Eq.trans (b := ([] : List (Option (Nat × va_E)))) rfl rfl, rfl, rfl⟩
set_option maxRecDepth 100000 in
theorem j_Tr_parseNumber_86 (T : Nat → ClassId) (q0 : Nat) (q0_characters : Nat) (q0_fresh : Nat) (vq0_length : Int32) (vq0_at : Int32) (vq0_first : Int32) (vq0_digits : Int32) (vq0_value : UInt64) (vq0_numbersRead : Int32) (vq0_failedAt : Int32) (vq0_characters : Nat → Int32) (zvq0_failedAt : Int32) : ([0].map (fun (i : Nat) => (w_Tr_parseNumber T q0 q0_characters q0_fresh vq0_length vq0_at vq0_first vq0_digits vq0_value vq0_numbersRead vq0_failedAt vq0_characters)[i]?) = (w_Tr_failAt T q0 q0_characters q0_fresh vq0_length vq0_at vq0_first vq0_digits vq0_value vq0_numbersRead vq0_failedAt).map some) ∧ ([0].map (fun (i : Nat) => (w_Tr_parseNumber T q0 q0_characters q0_fresh vq0_length vq0_at vq0_first vq0_digits vq0_value vq0_numbersRead zvq0_failedAt vq0_characters)[i]?) = (w_Tr_failAt T q0 q0_characters q0_fresh vq0_length vq0_at vq0_first vq0_digits vq0_value vq0_numbersRead zvq0_failedAt).map some) ∧ ([1].map (fun (i : Nat) => (w_Tr_parseNumber T q0 q0_characters q0_fresh vq0_length vq0_at vq0_first vq0_digits vq0_value vq0_numbersRead vq0_failedAt vq0_characters)[i]?) = [1].map (fun (i : Nat) => (w_Tr_parseNumber T q0 q0_characters q0_fresh vq0_length vq0_at vq0_first vq0_digits vq0_value vq0_numbersRead zvq0_failedAt vq0_characters)[i]?)) ∧ (w_Tr_failAt T q0 q0_characters q0_fresh vq0_length vq0_at vq0_first vq0_digits vq0_value vq0_numbersRead zvq0_failedAt).map Prod.fst = (w_Tr_failAt T q0 q0_characters q0_fresh vq0_length vq0_at vq0_first vq0_digits vq0_value vq0_numbersRead vq0_failedAt).map Prod.fst ∧ (w_Tr_parseNumber T q0 q0_characters q0_fresh vq0_length vq0_at vq0_first vq0_digits vq0_value vq0_numbersRead zvq0_failedAt vq0_characters).length = 2 :=
  ⟨rfl, rfl, Eq.trans (b := ([some (q0_characters, .inl (T 2, 300, .inl vq0_characters))] : List (Option (Nat × va_E)))) rfl rfl, rfl, rfl⟩
set_option maxRecDepth 100000 in
theorem j_Tr_parseNumber_50 (T : Nat → ClassId) (q0 : Nat) (q0_characters : Nat) (q0_fresh : Nat) (vq0_length : Int32) (vq0_at : Int32) (vq0_first : Int32) (vq0_digits : Int32) (vq0_value : UInt64) (vq0_numbersRead : Int32) (vq0_failedAt : Int32) (vq0_characters : Nat → Int32) (zvq0_failedAt : Int32) : ([0].map (fun (i : Nat) => (w_Tr_parseNumber T q0 q0_characters q0_fresh vq0_length vq0_at vq0_first vq0_digits vq0_value vq0_numbersRead vq0_failedAt vq0_characters)[i]?) = (w_Tr_failAt T q0 q0_characters q0_fresh vq0_length vq0_at vq0_first vq0_digits vq0_value vq0_numbersRead vq0_failedAt).map some) ∧ ([0].map (fun (i : Nat) => (w_Tr_parseNumber T q0 q0_characters q0_fresh vq0_length vq0_at vq0_first vq0_digits vq0_value vq0_numbersRead zvq0_failedAt vq0_characters)[i]?) = (w_Tr_failAt T q0 q0_characters q0_fresh vq0_length vq0_at vq0_first vq0_digits vq0_value vq0_numbersRead zvq0_failedAt).map some) ∧ ([1].map (fun (i : Nat) => (w_Tr_parseNumber T q0 q0_characters q0_fresh vq0_length vq0_at vq0_first vq0_digits vq0_value vq0_numbersRead vq0_failedAt vq0_characters)[i]?) = [1].map (fun (i : Nat) => (w_Tr_parseNumber T q0 q0_characters q0_fresh vq0_length vq0_at vq0_first vq0_digits vq0_value vq0_numbersRead zvq0_failedAt vq0_characters)[i]?)) ∧ (w_Tr_failAt T q0 q0_characters q0_fresh vq0_length vq0_at vq0_first vq0_digits vq0_value vq0_numbersRead zvq0_failedAt).map Prod.fst = (w_Tr_failAt T q0 q0_characters q0_fresh vq0_length vq0_at vq0_first vq0_digits vq0_value vq0_numbersRead vq0_failedAt).map Prod.fst ∧ (w_Tr_parseNumber T q0 q0_characters q0_fresh vq0_length vq0_at vq0_first vq0_digits vq0_value vq0_numbersRead zvq0_failedAt vq0_characters).length = 2 :=
  ⟨rfl, rfl, Eq.trans (b := ([some (q0_characters, .inl (T 2, 300, .inl vq0_characters))] : List (Option (Nat × va_E)))) rfl rfl, rfl, rfl⟩
set_option maxRecDepth 100000 in
theorem j_Tr_parseNumber_1 (T : Nat → ClassId) (q0 : Nat) (q0_characters : Nat) (q0_fresh : Nat) (vq0_length : Int32) (vq0_at : Int32) (vq0_first : Int32) (vq0_digits : Int32) (vq0_value : UInt64) (vq0_numbersRead : Int32) (vq0_failedAt : Int32) (vq0_characters : Nat → Int32) (zvq0_at : Int32) : ([0, 1].map (fun (i : Nat) => (w_Tr_parseNumber T q0 q0_characters q0_fresh vq0_length vq0_at vq0_first vq0_digits vq0_value vq0_numbersRead vq0_failedAt vq0_characters)[i]?) = (w_Tr_reachNumber T q0 q0_characters q0_fresh vq0_length vq0_at vq0_first vq0_digits vq0_value vq0_numbersRead vq0_failedAt vq0_characters).map some) ∧ ([0, 1].map (fun (i : Nat) => (w_Tr_parseNumber T q0 q0_characters q0_fresh vq0_length zvq0_at vq0_first vq0_digits vq0_value vq0_numbersRead vq0_failedAt vq0_characters)[i]?) = (w_Tr_reachNumber T q0 q0_characters q0_fresh vq0_length zvq0_at vq0_first vq0_digits vq0_value vq0_numbersRead vq0_failedAt vq0_characters).map some) ∧ ([].map (fun (i : Nat) => (w_Tr_parseNumber T q0 q0_characters q0_fresh vq0_length vq0_at vq0_first vq0_digits vq0_value vq0_numbersRead vq0_failedAt vq0_characters)[i]?) = [].map (fun (i : Nat) => (w_Tr_parseNumber T q0 q0_characters q0_fresh vq0_length zvq0_at vq0_first vq0_digits vq0_value vq0_numbersRead vq0_failedAt vq0_characters)[i]?)) ∧ (w_Tr_reachNumber T q0 q0_characters q0_fresh vq0_length zvq0_at vq0_first vq0_digits vq0_value vq0_numbersRead vq0_failedAt vq0_characters).map Prod.fst = (w_Tr_reachNumber T q0 q0_characters q0_fresh vq0_length vq0_at vq0_first vq0_digits vq0_value vq0_numbersRead vq0_failedAt vq0_characters).map Prod.fst ∧ (w_Tr_parseNumber T q0 q0_characters q0_fresh vq0_length zvq0_at vq0_first vq0_digits vq0_value vq0_numbersRead vq0_failedAt vq0_characters).length = 2 :=
  ⟨rfl, rfl, Eq.trans (b := ([] : List (Option (Nat × va_E)))) rfl rfl, rfl, rfl⟩
set_option maxRecDepth 100000 in
theorem j_Tr_parseNumber_25 (T : Nat → ClassId) (q0 : Nat) (q0_characters : Nat) (q0_fresh : Nat) (vq0_length : Int32) (vq0_at : Int32) (vq0_first : Int32) (vq0_digits : Int32) (vq0_value : UInt64) (vq0_numbersRead : Int32) (vq0_failedAt : Int32) (vq0_characters : Nat → Int32) (zvq0_at : Int32) : ([0, 1].map (fun (i : Nat) => (w_Tr_parseNumber T q0 q0_characters q0_fresh vq0_length vq0_at vq0_first vq0_digits vq0_value vq0_numbersRead vq0_failedAt vq0_characters)[i]?) = (w_Tr_skip T q0 q0_characters q0_fresh vq0_length vq0_at vq0_first vq0_digits vq0_value vq0_numbersRead vq0_failedAt vq0_characters).map some) ∧ ([0, 1].map (fun (i : Nat) => (w_Tr_parseNumber T q0 q0_characters q0_fresh vq0_length zvq0_at vq0_first vq0_digits vq0_value vq0_numbersRead vq0_failedAt vq0_characters)[i]?) = (w_Tr_skip T q0 q0_characters q0_fresh vq0_length zvq0_at vq0_first vq0_digits vq0_value vq0_numbersRead vq0_failedAt vq0_characters).map some) ∧ ([].map (fun (i : Nat) => (w_Tr_parseNumber T q0 q0_characters q0_fresh vq0_length vq0_at vq0_first vq0_digits vq0_value vq0_numbersRead vq0_failedAt vq0_characters)[i]?) = [].map (fun (i : Nat) => (w_Tr_parseNumber T q0 q0_characters q0_fresh vq0_length zvq0_at vq0_first vq0_digits vq0_value vq0_numbersRead vq0_failedAt vq0_characters)[i]?)) ∧ (w_Tr_skip T q0 q0_characters q0_fresh vq0_length zvq0_at vq0_first vq0_digits vq0_value vq0_numbersRead vq0_failedAt vq0_characters).map Prod.fst = (w_Tr_skip T q0 q0_characters q0_fresh vq0_length vq0_at vq0_first vq0_digits vq0_value vq0_numbersRead vq0_failedAt vq0_characters).map Prod.fst ∧ (w_Tr_parseNumber T q0 q0_characters q0_fresh vq0_length zvq0_at vq0_first vq0_digits vq0_value vq0_numbersRead vq0_failedAt vq0_characters).length = 2 :=
  ⟨rfl, rfl, Eq.trans (b := ([] : List (Option (Nat × va_E)))) rfl rfl, rfl, rfl⟩
set_option maxHeartbeats 40000000 in
set_option maxRecDepth 100000 in
theorem c_Tr_parseNumber (l : Launch) (D : va_G) (T : Nat → ClassId) (q0 : Nat) (q0_characters : Nat) (q0_fresh : Nat) (vq0_length : Int32) (vq0_at : Int32) (vq0_first : Int32) (vq0_digits : Int32) (vq0_value : UInt64) (vq0_numbersRead : Int32) (vq0_failedAt : Int32) (vq0_characters : Nat → Int32) (x1 : Int32) (rm : Int32 × Int32 × Int32 × Int32 × UInt64 × Int32 × Int32) (h : s_Tr_parseNumber vq0_length vq0_at vq0_first vq0_digits vq0_value vq0_numbersRead vq0_failedAt vq0_characters x1 = some rm) : CtI l y_Tr_parseNumber (Cond.code y_Tr_parseNumber prog_8_method_12_code 7 (some .boolean) :: BIG) 2 42 D T [.ref q0, .int x1] (w_Tr_parseNumber T q0 q0_characters q0_fresh vq0_length vq0_at vq0_first vq0_digits vq0_value vq0_numbersRead vq0_failedAt vq0_characters) (fun r => r.1) (fun r => (w_Tr_parseNumber T q0 q0_characters q0_fresh vq0_length r.2.1 r.2.2.1 r.2.2.2.1 r.2.2.2.2.1 r.2.2.2.2.2.1 r.2.2.2.2.2.2 vq0_characters)) rm := by
  refine cf_entry (y := y_Tr_parseNumber) (cc := prog_8_method_12_code) (nL := 7) (ret := (some .boolean)) (fr := 2) (lo := 42) (T := T) (av := [.ref q0, .int x1]) (w := (w_Tr_parseNumber T q0 q0_characters q0_fresh vq0_length vq0_at vq0_first vq0_digits vq0_value vq0_numbersRead vq0_failedAt vq0_characters)) (Qc := cfQi D (fun r => r.1) (fun r => (w_Tr_parseNumber T q0 q0_characters q0_fresh vq0_length r.2.1 r.2.2.1 r.2.2.2.1 r.2.2.2.2.1 r.2.2.2.2.2.1 r.2.2.2.2.2.2 vq0_characters)) rm) (by decide) rfl (Nat.le_of_ble_eq_true rfl) ?_
  intro p e s m args below meth c A Q H locs ls hx hb hr hlocks hml hown hts hNW hK hA hQ hP hD hS hl
  have hown : s.vm.findClass "ConeForge$TextReader" = some m.cls := hown
  have hl : lv_has ls 7 [(0, .ref q0), (1, .int x1)] := hl
  have J188 : ∀ (vq0_at : Int32) (vq0_first : Int32) (vq0_digits : Int32) (vq0_value : UInt64) (vq0_numbersRead : Int32) (vq0_failedAt : Int32) (y1 : UInt64), ∀ (H : Heap) (locs : List Loc) (ls : Array Slot), va_P D CL (w_Tr_parseNumber T q0 q0_characters q0_fresh vq0_length vq0_at vq0_first vq0_digits vq0_value vq0_numbersRead vq0_failedAt vq0_characters) H → va_D A (w_Tr_parseNumber T q0 q0_characters q0_fresh vq0_length vq0_at vq0_first vq0_digits vq0_value vq0_numbersRead vq0_failedAt vq0_characters) → va_S A s.heap H locs → lv_has ls 7 [(0, .ref q0)] → s_Tr_parseNumber_J188 vq0_length vq0_at vq0_first vq0_digits vq0_value vq0_numbersRead vq0_failedAt vq0_characters y1 = some rm → W p l e (rmk 2 42) s m args below meth c H locs 0 0 Q (F0 m 188 ls [.double y1, .ref q0]) := by
    intro vq0_at vq0_first vq0_digits vq0_value vq0_numbersRead vq0_failedAt y1 H locs ls hP hD hS hl h
    unfold s_Tr_parseNumber_J188 at h
    refine va_put (D := D) (ci := 3) (v := .double y1) (ty := .double) (C := "ConeForge$TextReader") (T := FTr) (N := 9) hx hb hts iTr tTr tTr_ok nmTr hown hK hP hD hS 0 rfl rfl 6 (by decide) (hts _ (bgc bw172)) (fun _ h9 => h9) rfl (by decide +kernel) rfl rfl (Nat.le_of_ble_eq_true rfl) d_Tr_parseNumber_188 (fun H locs hP hD hS => ?_)
    have hP : va_P D CL (w_Tr_parseNumber T q0 q0_characters q0_fresh vq0_length vq0_at vq0_first vq0_digits y1 vq0_numbersRead vq0_failedAt vq0_characters) H := hP
    have hD : va_D A (w_Tr_parseNumber T q0 q0_characters q0_fresh vq0_length vq0_at vq0_first vq0_digits y1 vq0_numbersRead vq0_failedAt vq0_characters) := hD
    refine lv_aload_n hx hb d_Tr_parseNumber_191 rfl (lv_at hl 0 rfl) ?_
    refine lv_dup hx hb d_Tr_parseNumber_192 rfl ?_
    refine va_get (D := D) (ci := 3) (v := .int vq0_numbersRead) (C := "ConeForge$TextReader") (T := FTr) (N := 9) hx hb hts iTr hown hK hP 0 rfl rfl 7 (by decide) (hts _ (bgc bw173)) (fun _ h9 => h9) rfl d_Tr_parseNumber_193 ?_
    refine lv_iconst (v := 1) hx hb d_Tr_parseNumber_196 (by decide) ?_
    refine lv_iadd hx hb d_Tr_parseNumber_197 ?_
    refine va_put (D := D) (ci := 3) (v := .int (vq0_numbersRead + 1)) (ty := .int) (C := "ConeForge$TextReader") (T := FTr) (N := 9) hx hb hts iTr tTr tTr_ok nmTr hown hK hP hD hS 0 rfl rfl 7 (by decide) (hts _ (bgc bw173)) (fun _ h9 => h9) rfl (by decide +kernel) rfl rfl (Nat.le_of_ble_eq_true rfl) d_Tr_parseNumber_198 (fun H locs hP hD hS => ?_)
    have hP : va_P D CL (w_Tr_parseNumber T q0 q0_characters q0_fresh vq0_length vq0_at vq0_first vq0_digits y1 (vq0_numbersRead + 1) vq0_failedAt vq0_characters) H := hP
    have hD : va_D A (w_Tr_parseNumber T q0 q0_characters q0_fresh vq0_length vq0_at vq0_first vq0_digits y1 (vq0_numbersRead + 1) vq0_failedAt vq0_characters) := hD
    refine lv_iconst (v := 1) hx hb d_Tr_parseNumber_201 (by decide) ?_
    obtain ⟨g1, h⟩ := gd_some h
    exact rtZ hx hb hr hlocks g1 hQ (Option.some.inj h) hP hS d_Tr_parseNumber_202 rfl rfl
  have J166 : ∀ (vq0_at : Int32) (vq0_first : Int32) (vq0_digits : Int32) (vq0_value : UInt64) (vq0_numbersRead : Int32) (vq0_failedAt : Int32) (x2 : Int32) (x3 : UInt64), ∀ (H : Heap) (locs : List Loc) (ls : Array Slot), va_P D CL (w_Tr_parseNumber T q0 q0_characters q0_fresh vq0_length vq0_at vq0_first vq0_digits vq0_value vq0_numbersRead vq0_failedAt vq0_characters) H → va_D A (w_Tr_parseNumber T q0 q0_characters q0_fresh vq0_length vq0_at vq0_first vq0_digits vq0_value vq0_numbersRead vq0_failedAt vq0_characters) → va_S A s.heap H locs → lv_has ls 7 [(0, .ref q0), (2, .int x2), (3, .double x3)] → s_Tr_parseNumber_J166 vq0_length vq0_at vq0_first vq0_digits vq0_value vq0_numbersRead vq0_failedAt vq0_characters x2 x3 = some rm → W p l e (rmk 2 42) s m args below meth c H locs 0 0 Q (F0 m 166 ls []) := by
    intro vq0_at vq0_first vq0_digits vq0_value vq0_numbersRead vq0_failedAt x2 x3 H locs ls hP hD hS hl h
    unfold s_Tr_parseNumber_J166 at h
    refine lv_aload_n hx hb d_Tr_parseNumber_166 rfl (lv_at hl 0 rfl) ?_
    refine va_get (D := D) (ci := 3) (v := .int vq0_digits) (C := "ConeForge$TextReader") (T := FTr) (N := 9) hx hb hts iTr hown hK hP 0 rfl rfl 5 (by decide) (hts _ (bgc bw171)) (fun _ h9 => h9) rfl d_Tr_parseNumber_167 ?_
    refine lv_i2d hx hb d_Tr_parseNumber_170 ?_
    refine lv_dload_n hx hb d_Tr_parseNumber_171 rfl (lv_at hl 2 rfl) ?_
    obtain ⟨g2, h⟩ := gd_some h
    refine lv_ddiv hx hb d_Tr_parseNumber_172 (isn_n g2) ?_
    refine lv_dstore (lv' := [(5, .double (FP.ddiv (FP.i2d vq0_digits) x3)), (0, .ref q0), (2, .int x2), (3, .double x3)]) hx hb d_Tr_parseNumber_173 hl (by decide) rfl (fun ls hl => ?_)
    refine lv_aload_n hx hb d_Tr_parseNumber_175 rfl (lv_at hl 1 rfl) ?_
    refine lv_iload_n hx hb d_Tr_parseNumber_176 rfl (lv_at hl 2 rfl) ?_
    refine lv_if_eq (tgt := 186) hx hb d_Tr_parseNumber_177 (by decide) (fun c3 => ?_) (fun c3 => ?_)
    · have h := it_t c3 h
      refine lv_dload hx hb d_Tr_parseNumber_186 (lv_at hl 0 rfl) ?_
      exact J188 vq0_at vq0_first vq0_digits vq0_value vq0_numbersRead vq0_failedAt (FP.ddiv (FP.i2d vq0_digits) x3) H locs ls hP hD hS (lv_sub hl [1] rfl) h
    · have h := it_f c3 h
      refine lv_dload hx hb d_Tr_parseNumber_180 (lv_at hl 0 rfl) ?_
      refine lv_dneg hx hb d_Tr_parseNumber_182 ?_
      refine lv_goto (tgt := 188) hx hb d_Tr_parseNumber_183 (by decide) ?_
      exact J188 vq0_at vq0_first vq0_digits vq0_value vq0_numbersRead vq0_failedAt (FP.dneg (FP.ddiv (FP.i2d vq0_digits) x3)) H locs ls hP hD hS (lv_sub hl [1] rfl) h
  have J118 : ∀ (vq0_at : Int32) (vq0_first : Int32) (vq0_digits : Int32) (vq0_value : UInt64) (vq0_numbersRead : Int32) (vq0_failedAt : Int32) (x2 : Int32) (x3 : UInt64), ∀ (H : Heap) (locs : List Loc) (ls : Array Slot), va_P D CL (w_Tr_parseNumber T q0 q0_characters q0_fresh vq0_length vq0_at vq0_first vq0_digits vq0_value vq0_numbersRead vq0_failedAt vq0_characters) H → va_D A (w_Tr_parseNumber T q0 q0_characters q0_fresh vq0_length vq0_at vq0_first vq0_digits vq0_value vq0_numbersRead vq0_failedAt vq0_characters) → va_S A s.heap H locs → lv_has ls 7 [(0, .ref q0), (2, .int x2), (3, .double x3)] → s_Tr_parseNumber_J118 vq0_length vq0_at vq0_first vq0_digits vq0_value vq0_numbersRead vq0_failedAt vq0_characters x2 x3 = some rm → W p l e (rmk 2 42) s m args below meth c H locs 0 0 Q (F0 m 118 ls []) := by
    intro vq0_at vq0_first vq0_digits vq0_value vq0_numbersRead vq0_failedAt x2 x3 H locs ls hP hD hS hl h
    unfold s_Tr_parseNumber_J118 at h
    refine lv_aload_n hx hb d_Tr_parseNumber_118 rfl (lv_at hl 0 rfl) ?_
    refine va_get (D := D) (ci := 3) (v := .int vq0_at) (C := "ConeForge$TextReader") (T := FTr) (N := 9) hx hb hts iTr hown hK hP 0 rfl rfl 3 (by decide) (hts _ (bgc bw169)) (fun _ h9 => h9) rfl d_Tr_parseNumber_119 ?_
    refine lv_aload_n hx hb d_Tr_parseNumber_122 rfl (lv_at hl 0 rfl) ?_
    refine va_get (D := D) (ci := 3) (v := .int vq0_length) (C := "ConeForge$TextReader") (T := FTr) (N := 9) hx hb hts iTr hown hK hP 0 rfl rfl 2 (by decide) (hts _ (bgc bw168)) (fun _ h9 => h9) rfl d_Tr_parseNumber_123 ?_
    refine lv_icmp_ge (tgt := 166) hx hb d_Tr_parseNumber_126 (by decide) (fun c4 => ?_) (fun c4 => ?_)
    · have h := it_t c4 h
      exact J166 vq0_at vq0_first vq0_digits vq0_value vq0_numbersRead vq0_failedAt x2 x3 H locs ls hP hD hS (lv_sub hl [0, 1, 2] rfl) h
    · have h := it_f c4 h
      refine lv_aload_n hx hb d_Tr_parseNumber_129 rfl (lv_at hl 0 rfl) ?_
      refine va_get (D := D) (ci := 3) (v := .ref q0_characters) (C := "ConeForge$TextReader") (T := FTr) (N := 9) hx hb hts iTr hown hK hP 0 rfl rfl 0 (by decide) (hts _ (bgc bw166)) (fun _ h9 => h9) rfl d_Tr_parseNumber_130 ?_
      refine lv_aload_n hx hb d_Tr_parseNumber_133 rfl (lv_at hl 0 rfl) ?_
      refine va_get (D := D) (ci := 3) (v := .int vq0_at) (C := "ConeForge$TextReader") (T := FTr) (N := 9) hx hb hts iTr hown hK hP 0 rfl rfl 3 (by decide) (hts _ (bgc bw169)) (fun _ h9 => h9) rfl d_Tr_parseNumber_134 ?_
      obtain ⟨g5, h⟩ := gd_some h
      refine va_cald hx hb hK hP 1 2 rfl rfl (inb_in g5) d_Tr_parseNumber_137 ?_
      refine lv_bipush (v := 32) hx hb d_Tr_parseNumber_138 (by decide) ?_
      refine lv_icmp_eq (tgt := 166) hx hb d_Tr_parseNumber_140 (by decide) (fun c6 => ?_) (fun c6 => ?_)
      · have h := it_t c6 h
        exact J166 vq0_at vq0_first vq0_digits vq0_value vq0_numbersRead vq0_failedAt x2 x3 H locs ls hP hD hS (lv_sub hl [0, 1, 2] rfl) h
      · have h := it_f c6 h
        refine lv_aload_n hx hb d_Tr_parseNumber_143 rfl (lv_at hl 0 rfl) ?_
        refine va_get (D := D) (ci := 3) (v := .ref q0_characters) (C := "ConeForge$TextReader") (T := FTr) (N := 9) hx hb hts iTr hown hK hP 0 rfl rfl 0 (by decide) (hts _ (bgc bw166)) (fun _ h9 => h9) rfl d_Tr_parseNumber_144 ?_
        refine lv_aload_n hx hb d_Tr_parseNumber_147 rfl (lv_at hl 0 rfl) ?_
        refine va_get (D := D) (ci := 3) (v := .int vq0_at) (C := "ConeForge$TextReader") (T := FTr) (N := 9) hx hb hts iTr hown hK hP 0 rfl rfl 3 (by decide) (hts _ (bgc bw169)) (fun _ h9 => h9) rfl d_Tr_parseNumber_148 ?_
        obtain ⟨g7, h⟩ := gd_some h
        refine va_cald hx hb hK hP 1 2 rfl rfl (inb_in g7) d_Tr_parseNumber_151 ?_
        refine lv_bipush (v := 10) hx hb d_Tr_parseNumber_152 (by decide) ?_
        refine lv_icmp_eq (tgt := 166) hx hb d_Tr_parseNumber_154 (by decide) (fun c8 => ?_) (fun c8 => ?_)
        · have h := it_t c8 h
          exact J166 vq0_at vq0_first vq0_digits vq0_value vq0_numbersRead vq0_failedAt x2 x3 H locs ls hP hD hS (lv_sub hl [0, 1, 2] rfl) h
        · have h := it_f c8 h
          refine lv_aload_n hx hb d_Tr_parseNumber_157 rfl (lv_at hl 0 rfl) ?_
          refine lv_aload_n hx hb d_Tr_parseNumber_158 rfl (lv_at hl 0 rfl) ?_
          refine va_get (D := D) (ci := 3) (v := .int vq0_at) (C := "ConeForge$TextReader") (T := FTr) (N := 9) hx hb hts iTr hown hK hP 0 rfl rfl 3 (by decide) (hts _ (bgc bw169)) (fun _ h9 => h9) rfl d_Tr_parseNumber_159 ?_
          obtain ⟨u9, hu9, h⟩ := bi_some h
          have jj10 := j_Tr_parseNumber_162 T q0 q0_characters q0_fresh vq0_length vq0_at vq0_first vq0_digits vq0_value vq0_numbersRead vq0_failedAt vq0_characters u9.2
          refine kI2 (v := u9.1) (wc := (w_Tr_failAt T q0 q0_characters q0_fresh vq0_length vq0_at vq0_first vq0_digits vq0_value vq0_numbersRead vq0_failedAt)) (wc' := (w_Tr_failAt T q0 q0_characters q0_fresh vq0_length vq0_at vq0_first vq0_digits vq0_value vq0_numbersRead u9.2)) (w_Tr_parseNumber T q0 q0_characters q0_fresh vq0_length vq0_at vq0_first vq0_digits vq0_value vq0_numbersRead u9.2 vq0_characters) (runOV (As := [.int vq0_at]) (rest := []) ((c_Tr_failAt l D T q0 q0_characters q0_fresh vq0_length vq0_at vq0_first vq0_digits vq0_value vq0_numbersRead vq0_failedAt vq0_at u9 hu9) H.size) ⟨hx, hb, hml, hown, hts⟩ (cwOV bw530 bw531 bw34 bw101 bw532 dd_Tr_failAt hts ⟨Nat.le_of_ble_eq_true rfl, Nat.le_of_ble_eq_true rfl⟩) (va_recv hK hP (ci := 3) (q0 := 0) rfl rfl) hNW hK hP hD [0] jj10.1 (by decide) rfl hl.1 rfl (lv_room (Nat.le_of_ble_eq_true rfl)) d_Tr_parseNumber_162 ⟨Nat.le_of_ble_eq_true rfl, Nat.le_of_ble_eq_true rfl⟩) hP hD hS hA [0] [1] jj10.1 jj10.2.1 jj10.2.2.1 (N := 2) jj10.2.2.2.2 (by decide) jj10.2.2.2.1 (fun H locs hP hD hS => ?_)
          obtain ⟨g11, h⟩ := gd_some h
          exact rtZ hx hb hr hlocks g11 hQ (Option.some.inj h) hP hS d_Tr_parseNumber_165 rfl rfl
  have J117 : ∀ (vq0_at : Int32) (vq0_first : Int32) (vq0_digits : Int32) (vq0_value : UInt64) (vq0_numbersRead : Int32) (vq0_failedAt : Int32) (x2 : Int32) (y0 : UInt64), ∀ (H : Heap) (locs : List Loc) (ls : Array Slot), va_P D CL (w_Tr_parseNumber T q0 q0_characters q0_fresh vq0_length vq0_at vq0_first vq0_digits vq0_value vq0_numbersRead vq0_failedAt vq0_characters) H → va_D A (w_Tr_parseNumber T q0 q0_characters q0_fresh vq0_length vq0_at vq0_first vq0_digits vq0_value vq0_numbersRead vq0_failedAt vq0_characters) → va_S A s.heap H locs → lv_has ls 7 [(0, .ref q0), (2, .int x2)] → s_Tr_parseNumber_J117 vq0_length vq0_at vq0_first vq0_digits vq0_value vq0_numbersRead vq0_failedAt vq0_characters x2 y0 = some rm → W p l e (rmk 2 42) s m args below meth c H locs 0 0 Q (F0 m 117 ls [.double y0]) := by
    intro vq0_at vq0_first vq0_digits vq0_value vq0_numbersRead vq0_failedAt x2 y0 H locs ls hP hD hS hl h
    unfold s_Tr_parseNumber_J117 at h
    refine lv_dstore_n (lv' := [(3, .double y0), (0, .ref q0), (2, .int x2)]) hx hb d_Tr_parseNumber_117 rfl hl (by decide) rfl (fun ls hl => ?_)
    exact J118 vq0_at vq0_first vq0_digits vq0_value vq0_numbersRead vq0_failedAt x2 y0 H locs ls hP hD hS (lv_sub hl [1, 2, 0] rfl) h
  have J36 : ∀ (vq0_at : Int32) (vq0_first : Int32) (vq0_digits : Int32) (vq0_value : UInt64) (vq0_numbersRead : Int32) (vq0_failedAt : Int32) (x1 : Int32) (y0 : Int32), ∀ (H : Heap) (locs : List Loc) (ls : Array Slot), va_P D CL (w_Tr_parseNumber T q0 q0_characters q0_fresh vq0_length vq0_at vq0_first vq0_digits vq0_value vq0_numbersRead vq0_failedAt vq0_characters) H → va_D A (w_Tr_parseNumber T q0 q0_characters q0_fresh vq0_length vq0_at vq0_first vq0_digits vq0_value vq0_numbersRead vq0_failedAt vq0_characters) → va_S A s.heap H locs → lv_has ls 7 [(0, .ref q0), (1, .int x1)] → s_Tr_parseNumber_J36 vq0_length vq0_at vq0_first vq0_digits vq0_value vq0_numbersRead vq0_failedAt vq0_characters x1 y0 = some rm → W p l e (rmk 2 42) s m args below meth c H locs 0 0 Q (F0 m 36 ls [.int y0]) := by
    intro vq0_at vq0_first vq0_digits vq0_value vq0_numbersRead vq0_failedAt x1 y0 H locs ls hP hD hS hl h
    unfold s_Tr_parseNumber_J36 at h
    refine lv_istore_n (lv' := [(2, .int y0), (0, .ref q0), (1, .int x1)]) hx hb d_Tr_parseNumber_36 rfl hl (by decide) rfl (fun ls hl => ?_)
    refine lv_aload_n hx hb d_Tr_parseNumber_37 rfl (lv_at hl 1 rfl) ?_
    refine lv_iconst (v := 4) hx hb d_Tr_parseNumber_38 (by decide) ?_
    obtain ⟨u12, hu12, h⟩ := bi_some h
    have jj13 := j_Tr_parseNumber_39 T q0 q0_characters q0_fresh vq0_length vq0_at vq0_first vq0_digits vq0_value vq0_numbersRead vq0_failedAt vq0_characters u12.2.1 u12.2.2
    refine kI2 (v := u12.1) (wc := (w_Tr_takeDigits T q0 q0_characters q0_fresh vq0_length vq0_at vq0_first vq0_digits vq0_value vq0_numbersRead vq0_failedAt vq0_characters)) (wc' := (w_Tr_takeDigits T q0 q0_characters q0_fresh vq0_length u12.2.1 vq0_first u12.2.2 vq0_value vq0_numbersRead vq0_failedAt vq0_characters)) (w_Tr_parseNumber T q0 q0_characters q0_fresh vq0_length u12.2.1 vq0_first u12.2.2 vq0_value vq0_numbersRead vq0_failedAt vq0_characters) (runOV (As := [.int 4]) (rest := []) ((c_Tr_takeDigits l D T q0 q0_characters q0_fresh vq0_length vq0_at vq0_first vq0_digits vq0_value vq0_numbersRead vq0_failedAt vq0_characters 4 u12 hu12) H.size) ⟨hx, hb, hml, hown, hts⟩ (cwOV bw527 bw528 bw33 bw101 bw529 dd_Tr_takeDigits hts ⟨Nat.le_of_ble_eq_true rfl, Nat.le_of_ble_eq_true rfl⟩) (va_recv hK hP (ci := 3) (q0 := 0) rfl rfl) hNW hK hP hD [0, 1] jj13.1 (by decide) rfl hl.1 rfl (lv_room (Nat.le_of_ble_eq_true rfl)) d_Tr_parseNumber_39 ⟨Nat.le_of_ble_eq_true rfl, Nat.le_of_ble_eq_true rfl⟩) hP hD hS hA [0, 1] [] jj13.1 jj13.2.1 jj13.2.2.1 (N := 2) jj13.2.2.2.2 (by decide) jj13.2.2.2.1 (fun H locs hP hD hS => ?_)
    refine lv_if_ne (tgt := 54) hx hb d_Tr_parseNumber_42 (by decide) (fun c14 => ?_) (fun c14 => ?_)
    · have h := it_f c14 h
      refine lv_dconst1 hx hb d_Tr_parseNumber_54 ?_
      refine lv_dstore_n (lv' := [(3, .double FP.dconst1), (2, .int y0), (0, .ref q0), (1, .int x1)]) hx hb d_Tr_parseNumber_55 rfl hl (by decide) rfl (fun ls hl => ?_)
      refine lv_iload_n hx hb d_Tr_parseNumber_56 rfl (lv_at hl 3 rfl) ?_
      refine lv_if_ne (tgt := 118) hx hb d_Tr_parseNumber_57 (by decide) (fun c15 => ?_) (fun c15 => ?_)
      · have h := it_f c15 h
        exact J118 u12.2.1 vq0_first u12.2.2 vq0_value vq0_numbersRead vq0_failedAt y0 FP.dconst1 H locs ls hP hD hS (lv_sub hl [2, 1, 0] rfl) h
      · have h := it_t c15 h
        refine lv_aload_n hx hb d_Tr_parseNumber_60 rfl (lv_at hl 2 rfl) ?_
        refine lv_bipush (v := 46) hx hb d_Tr_parseNumber_61 (by decide) ?_
        obtain ⟨u16, hu16, h⟩ := bi_some h
        have jj17 := j_Tr_parseNumber_63 T q0 q0_characters q0_fresh vq0_length u12.2.1 vq0_first u12.2.2 vq0_value vq0_numbersRead vq0_failedAt vq0_characters u16.2
        refine kI2 (v := u16.1) (wc := (w_Tr_skip T q0 q0_characters q0_fresh vq0_length u12.2.1 vq0_first u12.2.2 vq0_value vq0_numbersRead vq0_failedAt vq0_characters)) (wc' := (w_Tr_skip T q0 q0_characters q0_fresh vq0_length u16.2 vq0_first u12.2.2 vq0_value vq0_numbersRead vq0_failedAt vq0_characters)) (w_Tr_parseNumber T q0 q0_characters q0_fresh vq0_length u16.2 vq0_first u12.2.2 vq0_value vq0_numbersRead vq0_failedAt vq0_characters) (runOV (As := [.int 46]) (rest := []) ((c_Tr_skip l D T q0 q0_characters q0_fresh vq0_length u12.2.1 vq0_first u12.2.2 vq0_value vq0_numbersRead vq0_failedAt vq0_characters 46 u16 hu16) H.size) ⟨hx, hb, hml, hown, hts⟩ (cwOV bw524 bw525 bw32 bw101 bw526 dd_Tr_skip hts ⟨Nat.le_of_ble_eq_true rfl, Nat.le_of_ble_eq_true rfl⟩) (va_recv hK hP (ci := 3) (q0 := 0) rfl rfl) hNW hK hP hD [0, 1] jj17.1 (by decide) rfl hl.1 rfl (lv_room (Nat.le_of_ble_eq_true rfl)) d_Tr_parseNumber_63 ⟨Nat.le_of_ble_eq_true rfl, Nat.le_of_ble_eq_true rfl⟩) hP hD hS hA [0, 1] [] jj17.1 jj17.2.1 jj17.2.2.1 (N := 2) jj17.2.2.2.2 (by decide) jj17.2.2.2.1 (fun H locs hP hD hS => ?_)
        refine lv_if_eq (tgt := 118) hx hb d_Tr_parseNumber_66 (by decide) (fun c18 => ?_) (fun c18 => ?_)
        · have h := it_t c18 h
          exact J118 u16.2 vq0_first u12.2.2 vq0_value vq0_numbersRead vq0_failedAt y0 FP.dconst1 H locs ls hP hD hS (lv_sub hl [2, 1, 0] rfl) h
        · have h := it_f c18 h
          refine lv_aload_n hx hb d_Tr_parseNumber_69 rfl (lv_at hl 2 rfl) ?_
          refine lv_iconst (v := 3) hx hb d_Tr_parseNumber_70 (by decide) ?_
          obtain ⟨u19, hu19, h⟩ := bi_some h
          have jj20 := j_Tr_parseNumber_71 T q0 q0_characters q0_fresh vq0_length u16.2 vq0_first u12.2.2 vq0_value vq0_numbersRead vq0_failedAt vq0_characters u19.2.1 u19.2.2
          refine kI2 (v := u19.1) (wc := (w_Tr_takeDigits T q0 q0_characters q0_fresh vq0_length u16.2 vq0_first u12.2.2 vq0_value vq0_numbersRead vq0_failedAt vq0_characters)) (wc' := (w_Tr_takeDigits T q0 q0_characters q0_fresh vq0_length u19.2.1 vq0_first u19.2.2 vq0_value vq0_numbersRead vq0_failedAt vq0_characters)) (w_Tr_parseNumber T q0 q0_characters q0_fresh vq0_length u19.2.1 vq0_first u19.2.2 vq0_value vq0_numbersRead vq0_failedAt vq0_characters) (runOV (As := [.int 3]) (rest := []) ((c_Tr_takeDigits l D T q0 q0_characters q0_fresh vq0_length u16.2 vq0_first u12.2.2 vq0_value vq0_numbersRead vq0_failedAt vq0_characters 3 u19 hu19) H.size) ⟨hx, hb, hml, hown, hts⟩ (cwOV bw527 bw528 bw33 bw101 bw529 dd_Tr_takeDigits hts ⟨Nat.le_of_ble_eq_true rfl, Nat.le_of_ble_eq_true rfl⟩) (va_recv hK hP (ci := 3) (q0 := 0) rfl rfl) hNW hK hP hD [0, 1] jj20.1 (by decide) rfl hl.1 rfl (lv_room (Nat.le_of_ble_eq_true rfl)) d_Tr_parseNumber_71 ⟨Nat.le_of_ble_eq_true rfl, Nat.le_of_ble_eq_true rfl⟩) hP hD hS hA [0, 1] [] jj20.1 jj20.2.1 jj20.2.2.1 (N := 2) jj20.2.2.2.2 (by decide) jj20.2.2.2.1 (fun H locs hP hD hS => ?_)
          refine lv_istore (lv' := [(5, .int u19.1), (3, .double FP.dconst1), (2, .int y0), (0, .ref q0), (1, .int x1)]) hx hb d_Tr_parseNumber_74 hl (by decide) rfl (fun ls hl => ?_)
          refine lv_iload hx hb d_Tr_parseNumber_76 (lv_at hl 0 rfl) ?_
          refine lv_if_ne (tgt := 90) hx hb d_Tr_parseNumber_78 (by decide) (fun c21 => ?_) (fun c21 => ?_)
          · have h := it_f c21 h
            refine lv_iload hx hb d_Tr_parseNumber_90 (lv_at hl 0 rfl) ?_
            refine lv_iconst (v := 1) hx hb d_Tr_parseNumber_92 (by decide) ?_
            refine lv_icmp_ne (tgt := 102) hx hb d_Tr_parseNumber_93 (by decide) (fun c22 => ?_) (fun c22 => ?_)
            · have h := it_f c22 h
              refine lv_iload hx hb d_Tr_parseNumber_102 (lv_at hl 0 rfl) ?_
              refine lv_iconst (v := 2) hx hb d_Tr_parseNumber_104 (by decide) ?_
              refine lv_icmp_ne (tgt := 114) hx hb d_Tr_parseNumber_105 (by decide) (fun c23 => ?_) (fun c23 => ?_)
              · have h := it_f c23 h
                refine lv_ldc2d (v := 4652007308841189376) hx hb hown (hts _ (bgc bw535)) d_Tr_parseNumber_114 ?_
                exact J117 u19.2.1 vq0_first u19.2.2 vq0_value vq0_numbersRead vq0_failedAt y0 4652007308841189376 H locs ls hP hD hS (lv_sub hl [3, 2] rfl) h
              · have h := it_t c23 h
                refine lv_ldc2d (v := 4636737291354636288) hx hb hown (hts _ (bgc bw534)) d_Tr_parseNumber_108 ?_
                refine lv_goto (tgt := 117) hx hb d_Tr_parseNumber_111 (by decide) ?_
                exact J117 u19.2.1 vq0_first u19.2.2 vq0_value vq0_numbersRead vq0_failedAt y0 4636737291354636288 H locs ls hP hD hS (lv_sub hl [3, 2] rfl) h
            · have h := it_t c22 h
              refine lv_ldc2d (v := 4621819117588971520) hx hb hown (hts _ (bgc bw533)) d_Tr_parseNumber_96 ?_
              refine lv_goto (tgt := 117) hx hb d_Tr_parseNumber_99 (by decide) ?_
              exact J117 u19.2.1 vq0_first u19.2.2 vq0_value vq0_numbersRead vq0_failedAt y0 4621819117588971520 H locs ls hP hD hS (lv_sub hl [3, 2] rfl) h
          · have h := it_t c21 h
            refine lv_aload_n hx hb d_Tr_parseNumber_81 rfl (lv_at hl 3 rfl) ?_
            refine lv_aload_n hx hb d_Tr_parseNumber_82 rfl (lv_at hl 3 rfl) ?_
            refine va_get (D := D) (ci := 3) (v := .int u19.2.1) (C := "ConeForge$TextReader") (T := FTr) (N := 9) hx hb hts iTr hown hK hP 0 rfl rfl 3 (by decide) (hts _ (bgc bw169)) (fun _ h9 => h9) rfl d_Tr_parseNumber_83 ?_
            obtain ⟨u24, hu24, h⟩ := bi_some h
            have jj25 := j_Tr_parseNumber_86 T q0 q0_characters q0_fresh vq0_length u19.2.1 vq0_first u19.2.2 vq0_value vq0_numbersRead vq0_failedAt vq0_characters u24.2
            refine kI2 (v := u24.1) (wc := (w_Tr_failAt T q0 q0_characters q0_fresh vq0_length u19.2.1 vq0_first u19.2.2 vq0_value vq0_numbersRead vq0_failedAt)) (wc' := (w_Tr_failAt T q0 q0_characters q0_fresh vq0_length u19.2.1 vq0_first u19.2.2 vq0_value vq0_numbersRead u24.2)) (w_Tr_parseNumber T q0 q0_characters q0_fresh vq0_length u19.2.1 vq0_first u19.2.2 vq0_value vq0_numbersRead u24.2 vq0_characters) (runOV (As := [.int u19.2.1]) (rest := []) ((c_Tr_failAt l D T q0 q0_characters q0_fresh vq0_length u19.2.1 vq0_first u19.2.2 vq0_value vq0_numbersRead vq0_failedAt u19.2.1 u24 hu24) H.size) ⟨hx, hb, hml, hown, hts⟩ (cwOV bw530 bw531 bw34 bw101 bw532 dd_Tr_failAt hts ⟨Nat.le_of_ble_eq_true rfl, Nat.le_of_ble_eq_true rfl⟩) (va_recv hK hP (ci := 3) (q0 := 0) rfl rfl) hNW hK hP hD [0] jj25.1 (by decide) rfl hl.1 rfl (lv_room (Nat.le_of_ble_eq_true rfl)) d_Tr_parseNumber_86 ⟨Nat.le_of_ble_eq_true rfl, Nat.le_of_ble_eq_true rfl⟩) hP hD hS hA [0] [1] jj25.1 jj25.2.1 jj25.2.2.1 (N := 2) jj25.2.2.2.2 (by decide) jj25.2.2.2.1 (fun H locs hP hD hS => ?_)
            obtain ⟨g26, h⟩ := gd_some h
            exact rtZ hx hb hr hlocks g26 hQ (Option.some.inj h) hP hS d_Tr_parseNumber_89 rfl rfl
    · have h := it_t c14 h
      refine lv_aload_n hx hb d_Tr_parseNumber_45 rfl (lv_at hl 1 rfl) ?_
      refine lv_aload_n hx hb d_Tr_parseNumber_46 rfl (lv_at hl 1 rfl) ?_
      refine va_get (D := D) (ci := 3) (v := .int u12.2.1) (C := "ConeForge$TextReader") (T := FTr) (N := 9) hx hb hts iTr hown hK hP 0 rfl rfl 3 (by decide) (hts _ (bgc bw169)) (fun _ h9 => h9) rfl d_Tr_parseNumber_47 ?_
      obtain ⟨u27, hu27, h⟩ := bi_some h
      have jj28 := j_Tr_parseNumber_50 T q0 q0_characters q0_fresh vq0_length u12.2.1 vq0_first u12.2.2 vq0_value vq0_numbersRead vq0_failedAt vq0_characters u27.2
      refine kI2 (v := u27.1) (wc := (w_Tr_failAt T q0 q0_characters q0_fresh vq0_length u12.2.1 vq0_first u12.2.2 vq0_value vq0_numbersRead vq0_failedAt)) (wc' := (w_Tr_failAt T q0 q0_characters q0_fresh vq0_length u12.2.1 vq0_first u12.2.2 vq0_value vq0_numbersRead u27.2)) (w_Tr_parseNumber T q0 q0_characters q0_fresh vq0_length u12.2.1 vq0_first u12.2.2 vq0_value vq0_numbersRead u27.2 vq0_characters) (runOV (As := [.int u12.2.1]) (rest := []) ((c_Tr_failAt l D T q0 q0_characters q0_fresh vq0_length u12.2.1 vq0_first u12.2.2 vq0_value vq0_numbersRead vq0_failedAt u12.2.1 u27 hu27) H.size) ⟨hx, hb, hml, hown, hts⟩ (cwOV bw530 bw531 bw34 bw101 bw532 dd_Tr_failAt hts ⟨Nat.le_of_ble_eq_true rfl, Nat.le_of_ble_eq_true rfl⟩) (va_recv hK hP (ci := 3) (q0 := 0) rfl rfl) hNW hK hP hD [0] jj28.1 (by decide) rfl hl.1 rfl (lv_room (Nat.le_of_ble_eq_true rfl)) d_Tr_parseNumber_50 ⟨Nat.le_of_ble_eq_true rfl, Nat.le_of_ble_eq_true rfl⟩) hP hD hS hA [0] [1] jj28.1 jj28.2.1 jj28.2.2.1 (N := 2) jj28.2.2.2.2 (by decide) jj28.2.2.2.1 (fun H locs hP hD hS => ?_)
      obtain ⟨g29, h⟩ := gd_some h
      exact rtZ hx hb hr hlocks g29 hQ (Option.some.inj h) hP hS d_Tr_parseNumber_53 rfl rfl
  have J35 : ∀ (vq0_at : Int32) (vq0_first : Int32) (vq0_digits : Int32) (vq0_value : UInt64) (vq0_numbersRead : Int32) (vq0_failedAt : Int32) (x1 : Int32), ∀ (H : Heap) (locs : List Loc) (ls : Array Slot), va_P D CL (w_Tr_parseNumber T q0 q0_characters q0_fresh vq0_length vq0_at vq0_first vq0_digits vq0_value vq0_numbersRead vq0_failedAt vq0_characters) H → va_D A (w_Tr_parseNumber T q0 q0_characters q0_fresh vq0_length vq0_at vq0_first vq0_digits vq0_value vq0_numbersRead vq0_failedAt vq0_characters) → va_S A s.heap H locs → lv_has ls 7 [(0, .ref q0), (1, .int x1)] → s_Tr_parseNumber_J35 vq0_length vq0_at vq0_first vq0_digits vq0_value vq0_numbersRead vq0_failedAt vq0_characters x1 = some rm → W p l e (rmk 2 42) s m args below meth c H locs 0 0 Q (F0 m 35 ls []) := by
    intro vq0_at vq0_first vq0_digits vq0_value vq0_numbersRead vq0_failedAt x1 H locs ls hP hD hS hl h
    unfold s_Tr_parseNumber_J35 at h
    refine lv_iconst (v := 0) hx hb d_Tr_parseNumber_35 (by decide) ?_
    exact J36 vq0_at vq0_first vq0_digits vq0_value vq0_numbersRead vq0_failedAt x1 0 H locs ls hP hD hS (lv_sub hl [0, 1] rfl) h
  unfold s_Tr_parseNumber at h
  refine lv_aload_n hx hb d_Tr_parseNumber_0 rfl (lv_at hl 0 rfl) ?_
  obtain ⟨u30, hu30, h⟩ := bi_some h
  have jj31 := j_Tr_parseNumber_1 T q0 q0_characters q0_fresh vq0_length vq0_at vq0_first vq0_digits vq0_value vq0_numbersRead vq0_failedAt vq0_characters u30.2
  refine kI2 (v := u30.1) (wc := (w_Tr_reachNumber T q0 q0_characters q0_fresh vq0_length vq0_at vq0_first vq0_digits vq0_value vq0_numbersRead vq0_failedAt vq0_characters)) (wc' := (w_Tr_reachNumber T q0 q0_characters q0_fresh vq0_length u30.2 vq0_first vq0_digits vq0_value vq0_numbersRead vq0_failedAt vq0_characters)) (w_Tr_parseNumber T q0 q0_characters q0_fresh vq0_length u30.2 vq0_first vq0_digits vq0_value vq0_numbersRead vq0_failedAt vq0_characters) (runOV (As := []) (rest := []) ((c_Tr_reachNumber l D T q0 q0_characters q0_fresh vq0_length vq0_at vq0_first vq0_digits vq0_value vq0_numbersRead vq0_failedAt vq0_characters  u30 hu30) H.size) ⟨hx, hb, hml, hown, hts⟩ (cwOV bw518 bw519 bw30 bw101 bw520 dd_Tr_reachNumber hts ⟨Nat.le_of_ble_eq_true rfl, Nat.le_of_ble_eq_true rfl⟩) (va_recv hK hP (ci := 3) (q0 := 0) rfl rfl) hNW hK hP hD [0, 1] jj31.1 (by decide) rfl hl.1 rfl (lv_room (Nat.le_of_ble_eq_true rfl)) d_Tr_parseNumber_1 ⟨Nat.le_of_ble_eq_true rfl, Nat.le_of_ble_eq_true rfl⟩) hP hD hS hA [0, 1] [] jj31.1 jj31.2.1 jj31.2.2.1 (N := 2) jj31.2.2.2.2 (by decide) jj31.2.2.2.1 (fun H locs hP hD hS => ?_)
  refine lv_pop hx hb d_Tr_parseNumber_4 rfl ?_
  refine lv_aload_n hx hb d_Tr_parseNumber_5 rfl (lv_at hl 0 rfl) ?_
  refine lv_aload_n hx hb d_Tr_parseNumber_6 rfl (lv_at hl 0 rfl) ?_
  refine va_get (D := D) (ci := 3) (v := .int u30.2) (C := "ConeForge$TextReader") (T := FTr) (N := 9) hx hb hts iTr hown hK hP 0 rfl rfl 3 (by decide) (hts _ (bgc bw169)) (fun _ h9 => h9) rfl d_Tr_parseNumber_7 ?_
  refine va_put (D := D) (ci := 3) (v := .int u30.2) (ty := .int) (C := "ConeForge$TextReader") (T := FTr) (N := 9) hx hb hts iTr tTr tTr_ok nmTr hown hK hP hD hS 0 rfl rfl 4 (by decide) (hts _ (bgc bw170)) (fun _ h9 => h9) rfl (by decide +kernel) rfl rfl (Nat.le_of_ble_eq_true rfl) d_Tr_parseNumber_10 (fun H locs hP hD hS => ?_)
  have hP : va_P D CL (w_Tr_parseNumber T q0 q0_characters q0_fresh vq0_length u30.2 u30.2 vq0_digits vq0_value vq0_numbersRead vq0_failedAt vq0_characters) H := hP
  have hD : va_D A (w_Tr_parseNumber T q0 q0_characters q0_fresh vq0_length u30.2 u30.2 vq0_digits vq0_value vq0_numbersRead vq0_failedAt vq0_characters) := hD
  refine lv_aload_n hx hb d_Tr_parseNumber_13 rfl (lv_at hl 0 rfl) ?_
  refine lv_iconst (v := 0) hx hb d_Tr_parseNumber_14 (by decide) ?_
  refine va_put (D := D) (ci := 3) (v := .int 0) (ty := .int) (C := "ConeForge$TextReader") (T := FTr) (N := 9) hx hb hts iTr tTr tTr_ok nmTr hown hK hP hD hS 0 rfl rfl 5 (by decide) (hts _ (bgc bw171)) (fun _ h9 => h9) rfl (by decide +kernel) rfl rfl (Nat.le_of_ble_eq_true rfl) d_Tr_parseNumber_15 (fun H locs hP hD hS => ?_)
  have hP : va_P D CL (w_Tr_parseNumber T q0 q0_characters q0_fresh vq0_length u30.2 u30.2 0 vq0_value vq0_numbersRead vq0_failedAt vq0_characters) H := hP
  have hD : va_D A (w_Tr_parseNumber T q0 q0_characters q0_fresh vq0_length u30.2 u30.2 0 vq0_value vq0_numbersRead vq0_failedAt vq0_characters) := hD
  refine lv_iload_n hx hb d_Tr_parseNumber_18 rfl (lv_at hl 1 rfl) ?_
  refine lv_if_ne (tgt := 35) hx hb d_Tr_parseNumber_19 (by decide) (fun c32 => ?_) (fun c32 => ?_)
  · have h := it_f c32 h
    exact J35 u30.2 u30.2 0 vq0_value vq0_numbersRead vq0_failedAt x1 H locs ls hP hD hS (lv_sub hl [0, 1] rfl) h
  · have h := it_t c32 h
    refine lv_aload_n hx hb d_Tr_parseNumber_22 rfl (lv_at hl 0 rfl) ?_
    refine lv_bipush (v := 45) hx hb d_Tr_parseNumber_23 (by decide) ?_
    obtain ⟨u33, hu33, h⟩ := bi_some h
    have jj34 := j_Tr_parseNumber_25 T q0 q0_characters q0_fresh vq0_length u30.2 u30.2 0 vq0_value vq0_numbersRead vq0_failedAt vq0_characters u33.2
    refine kI2 (v := u33.1) (wc := (w_Tr_skip T q0 q0_characters q0_fresh vq0_length u30.2 u30.2 0 vq0_value vq0_numbersRead vq0_failedAt vq0_characters)) (wc' := (w_Tr_skip T q0 q0_characters q0_fresh vq0_length u33.2 u30.2 0 vq0_value vq0_numbersRead vq0_failedAt vq0_characters)) (w_Tr_parseNumber T q0 q0_characters q0_fresh vq0_length u33.2 u30.2 0 vq0_value vq0_numbersRead vq0_failedAt vq0_characters) (runOV (As := [.int 45]) (rest := []) ((c_Tr_skip l D T q0 q0_characters q0_fresh vq0_length u30.2 u30.2 0 vq0_value vq0_numbersRead vq0_failedAt vq0_characters 45 u33 hu33) H.size) ⟨hx, hb, hml, hown, hts⟩ (cwOV bw524 bw525 bw32 bw101 bw526 dd_Tr_skip hts ⟨Nat.le_of_ble_eq_true rfl, Nat.le_of_ble_eq_true rfl⟩) (va_recv hK hP (ci := 3) (q0 := 0) rfl rfl) hNW hK hP hD [0, 1] jj34.1 (by decide) rfl hl.1 rfl (lv_room (Nat.le_of_ble_eq_true rfl)) d_Tr_parseNumber_25 ⟨Nat.le_of_ble_eq_true rfl, Nat.le_of_ble_eq_true rfl⟩) hP hD hS hA [0, 1] [] jj34.1 jj34.2.1 jj34.2.2.1 (N := 2) jj34.2.2.2.2 (by decide) jj34.2.2.2.1 (fun H locs hP hD hS => ?_)
    refine lv_if_eq (tgt := 35) hx hb d_Tr_parseNumber_28 (by decide) (fun c35 => ?_) (fun c35 => ?_)
    · have h := it_t c35 h
      exact J35 u33.2 u30.2 0 vq0_value vq0_numbersRead vq0_failedAt x1 H locs ls hP hD hS (lv_sub hl [0, 1] rfl) h
    · have h := it_f c35 h
      refine lv_iconst (v := 1) hx hb d_Tr_parseNumber_31 (by decide) ?_
      refine lv_goto (tgt := 36) hx hb d_Tr_parseNumber_32 (by decide) ?_
      exact J36 u33.2 u30.2 0 vq0_value vq0_numbersRead vq0_failedAt x1 1 H locs ls hP hD hS (lv_sub hl [0, 1] rfl) h
theorem d_Tr_parseWhole_0 : decode prog_8_method_10_code 0 = .ok (.aload_n 0, 1) := by decide +kernel
theorem d_Tr_parseWhole_1 : decode prog_8_method_10_code 1 = .ok (.iconst 1, 1) := by decide +kernel
theorem d_Tr_parseWhole_2 : decode prog_8_method_10_code 2 = .ok (.invokevirtual 97, 3) := by decide +kernel
theorem d_Tr_parseWhole_5 : decode prog_8_method_10_code 5 = .ok (.ifCond .ne 5, 3) := by decide +kernel
theorem d_Tr_parseWhole_8 : decode prog_8_method_10_code 8 = .ok (.iconst 0, 1) := by decide +kernel
theorem d_Tr_parseWhole_9 : decode prog_8_method_10_code 9 = .ok (.ireturn, 1) := by decide +kernel
theorem d_Tr_parseWhole_10 : decode prog_8_method_10_code 10 = .ok (.aload_n 0, 1) := by decide +kernel
theorem d_Tr_parseWhole_11 : decode prog_8_method_10_code 11 = .ok (.getfield 35, 3) := by decide +kernel
theorem d_Tr_parseWhole_14 : decode prog_8_method_10_code 14 = .ok (.dconst 1, 1) := by decide +kernel
theorem d_Tr_parseWhole_15 : decode prog_8_method_10_code 15 = .ok (.dcmp .l, 1) := by decide +kernel
theorem d_Tr_parseWhole_16 : decode prog_8_method_10_code 16 = .ok (.ifCond .lt 13, 3) := by decide +kernel
theorem d_Tr_parseWhole_19 : decode prog_8_method_10_code 19 = .ok (.aload_n 0, 1) := by decide +kernel
theorem d_Tr_parseWhole_20 : decode prog_8_method_10_code 20 = .ok (.getfield 35, 3) := by decide +kernel
theorem d_Tr_parseWhole_23 : decode prog_8_method_10_code 23 = .ok (.iload_n 1, 1) := by decide +kernel
theorem d_Tr_parseWhole_24 : decode prog_8_method_10_code 24 = .ok (.i2d, 1) := by decide +kernel
theorem d_Tr_parseWhole_25 : decode prog_8_method_10_code 25 = .ok (.dcmp .g, 1) := by decide +kernel
theorem d_Tr_parseWhole_26 : decode prog_8_method_10_code 26 = .ok (.ifCond .le 14, 3) := by decide +kernel
theorem d_Tr_parseWhole_29 : decode prog_8_method_10_code 29 = .ok (.aload_n 0, 1) := by decide +kernel
theorem d_Tr_parseWhole_30 : decode prog_8_method_10_code 30 = .ok (.aload_n 0, 1) := by decide +kernel
theorem d_Tr_parseWhole_31 : decode prog_8_method_10_code 31 = .ok (.getfield 29, 3) := by decide +kernel
theorem d_Tr_parseWhole_34 : decode prog_8_method_10_code 34 = .ok (.invokevirtual 101, 3) := by decide +kernel
theorem d_Tr_parseWhole_37 : decode prog_8_method_10_code 37 = .ok (.ifCond .eq 7, 3) := by decide +kernel
theorem d_Tr_parseWhole_40 : decode prog_8_method_10_code 40 = .ok (.iconst 1, 1) := by decide +kernel
theorem d_Tr_parseWhole_41 : decode prog_8_method_10_code 41 = .ok (.goto 4, 3) := by decide +kernel
theorem d_Tr_parseWhole_44 : decode prog_8_method_10_code 44 = .ok (.iconst 0, 1) := by decide +kernel
theorem d_Tr_parseWhole_45 : decode prog_8_method_10_code 45 = .ok (.ireturn, 1) := by decide +kernel
abbrev w_Tr_parseWhole (T : Nat → ClassId) (q0 : Nat) (q0_characters : Nat) (q0_fresh : Nat) (vq0_length : Int32) (vq0_at : Int32) (vq0_first : Int32) (vq0_digits : Int32) (vq0_value : UInt64) (vq0_numbersRead : Int32) (vq0_failedAt : Int32) (vq0_characters : Nat → Int32) : va_W := [(q0, .inr (3, [.ref q0_characters, .ref q0_fresh, .int vq0_length, .int vq0_at, .int vq0_first, .int vq0_digits, .double vq0_value, .int vq0_numbersRead, .int vq0_failedAt])), (q0_characters, .inl (T 2, 300, .inl vq0_characters))]
def s_Tr_parseWhole_J40 (vq0_length : Int32) (vq0_at : Int32) (vq0_first : Int32) (vq0_digits : Int32) (vq0_value : UInt64) (vq0_numbersRead : Int32) (vq0_failedAt : Int32) (vq0_characters : Nat → Int32) : Option (Int32 × Int32 × Int32 × Int32 × UInt64 × Int32 × Int32) :=
  gd (isb 1) <| some (1, vq0_at, vq0_first, vq0_digits, vq0_value, vq0_numbersRead, vq0_failedAt)
def s_Tr_parseWhole_J29 (vq0_length : Int32) (vq0_at : Int32) (vq0_first : Int32) (vq0_digits : Int32) (vq0_value : UInt64) (vq0_numbersRead : Int32) (vq0_failedAt : Int32) (vq0_characters : Nat → Int32) : Option (Int32 × Int32 × Int32 × Int32 × UInt64 × Int32 × Int32) :=
  (s_Tr_failAt vq0_length vq0_at vq0_first vq0_digits vq0_value vq0_numbersRead vq0_failedAt vq0_first).bind fun u2 => if u2.1 = 0 then (gd (isb 0) <| some (0, vq0_at, vq0_first, vq0_digits, vq0_value, vq0_numbersRead, u2.2)) else (s_Tr_parseWhole_J40 vq0_length vq0_at vq0_first vq0_digits vq0_value vq0_numbersRead u2.2 vq0_characters)
def s_Tr_parseWhole (vq0_length : Int32) (vq0_at : Int32) (vq0_first : Int32) (vq0_digits : Int32) (vq0_value : UInt64) (vq0_numbersRead : Int32) (vq0_failedAt : Int32) (vq0_characters : Nat → Int32) (x1 : Int32) : Option (Int32 × Int32 × Int32 × Int32 × UInt64 × Int32 × Int32) :=
  (s_Tr_parseNumber vq0_length vq0_at vq0_first vq0_digits vq0_value vq0_numbersRead vq0_failedAt vq0_characters 1).bind fun u6 => if u6.1 = 0 then (gd (isb 0) <| some (0, u6.2.1, u6.2.2.1, u6.2.2.2.1, u6.2.2.2.2.1, u6.2.2.2.2.2.1, u6.2.2.2.2.2.2)) else (if (Op.cmpValue (FP.dcmp u6.2.2.2.2.1 FP.dconst1) .l) < 0 then (s_Tr_parseWhole_J29 vq0_length u6.2.1 u6.2.2.1 u6.2.2.2.1 u6.2.2.2.2.1 u6.2.2.2.2.2.1 u6.2.2.2.2.2.2 vq0_characters) else (if (Op.cmpValue (FP.dcmp u6.2.2.2.2.1 (FP.i2d x1)) .g) ≤ 0 then (s_Tr_parseWhole_J40 vq0_length u6.2.1 u6.2.2.1 u6.2.2.2.1 u6.2.2.2.2.1 u6.2.2.2.2.2.1 u6.2.2.2.2.2.2 vq0_characters) else (s_Tr_parseWhole_J29 vq0_length u6.2.1 u6.2.2.1 u6.2.2.2.1 u6.2.2.2.2.1 u6.2.2.2.2.2.1 u6.2.2.2.2.2.2 vq0_characters)))
set_option maxRecDepth 100000 in
theorem j_Tr_parseWhole_34 (T : Nat → ClassId) (q0 : Nat) (q0_characters : Nat) (q0_fresh : Nat) (vq0_length : Int32) (vq0_at : Int32) (vq0_first : Int32) (vq0_digits : Int32) (vq0_value : UInt64) (vq0_numbersRead : Int32) (vq0_failedAt : Int32) (vq0_characters : Nat → Int32) (zvq0_failedAt : Int32) : ([0].map (fun (i : Nat) => (w_Tr_parseWhole T q0 q0_characters q0_fresh vq0_length vq0_at vq0_first vq0_digits vq0_value vq0_numbersRead vq0_failedAt vq0_characters)[i]?) = (w_Tr_failAt T q0 q0_characters q0_fresh vq0_length vq0_at vq0_first vq0_digits vq0_value vq0_numbersRead vq0_failedAt).map some) ∧ ([0].map (fun (i : Nat) => (w_Tr_parseWhole T q0 q0_characters q0_fresh vq0_length vq0_at vq0_first vq0_digits vq0_value vq0_numbersRead zvq0_failedAt vq0_characters)[i]?) = (w_Tr_failAt T q0 q0_characters q0_fresh vq0_length vq0_at vq0_first vq0_digits vq0_value vq0_numbersRead zvq0_failedAt).map some) ∧ ([1].map (fun (i : Nat) => (w_Tr_parseWhole T q0 q0_characters q0_fresh vq0_length vq0_at vq0_first vq0_digits vq0_value vq0_numbersRead vq0_failedAt vq0_characters)[i]?) = [1].map (fun (i : Nat) => (w_Tr_parseWhole T q0 q0_characters q0_fresh vq0_length vq0_at vq0_first vq0_digits vq0_value vq0_numbersRead zvq0_failedAt vq0_characters)[i]?)) ∧ (w_Tr_failAt T q0 q0_characters q0_fresh vq0_length vq0_at vq0_first vq0_digits vq0_value vq0_numbersRead zvq0_failedAt).map Prod.fst = (w_Tr_failAt T q0 q0_characters q0_fresh vq0_length vq0_at vq0_first vq0_digits vq0_value vq0_numbersRead vq0_failedAt).map Prod.fst ∧ (w_Tr_parseWhole T q0 q0_characters q0_fresh vq0_length vq0_at vq0_first vq0_digits vq0_value vq0_numbersRead zvq0_failedAt vq0_characters).length = 2 :=
  ⟨rfl, rfl, Eq.trans (b := ([some (q0_characters, .inl (T 2, 300, .inl vq0_characters))] : List (Option (Nat × va_E)))) rfl rfl, rfl, rfl⟩
set_option maxRecDepth 100000 in
theorem j_Tr_parseWhole_2 (T : Nat → ClassId) (q0 : Nat) (q0_characters : Nat) (q0_fresh : Nat) (vq0_length : Int32) (vq0_at : Int32) (vq0_first : Int32) (vq0_digits : Int32) (vq0_value : UInt64) (vq0_numbersRead : Int32) (vq0_failedAt : Int32) (vq0_characters : Nat → Int32) (zvq0_at : Int32) (zvq0_first : Int32) (zvq0_digits : Int32) (zvq0_value : UInt64) (zvq0_numbersRead : Int32) (zvq0_failedAt : Int32) : ([0, 1].map (fun (i : Nat) => (w_Tr_parseWhole T q0 q0_characters q0_fresh vq0_length vq0_at vq0_first vq0_digits vq0_value vq0_numbersRead vq0_failedAt vq0_characters)[i]?) = (w_Tr_parseNumber T q0 q0_characters q0_fresh vq0_length vq0_at vq0_first vq0_digits vq0_value vq0_numbersRead vq0_failedAt vq0_characters).map some) ∧ ([0, 1].map (fun (i : Nat) => (w_Tr_parseWhole T q0 q0_characters q0_fresh vq0_length zvq0_at zvq0_first zvq0_digits zvq0_value zvq0_numbersRead zvq0_failedAt vq0_characters)[i]?) = (w_Tr_parseNumber T q0 q0_characters q0_fresh vq0_length zvq0_at zvq0_first zvq0_digits zvq0_value zvq0_numbersRead zvq0_failedAt vq0_characters).map some) ∧ ([].map (fun (i : Nat) => (w_Tr_parseWhole T q0 q0_characters q0_fresh vq0_length vq0_at vq0_first vq0_digits vq0_value vq0_numbersRead vq0_failedAt vq0_characters)[i]?) = [].map (fun (i : Nat) => (w_Tr_parseWhole T q0 q0_characters q0_fresh vq0_length zvq0_at zvq0_first zvq0_digits zvq0_value zvq0_numbersRead zvq0_failedAt vq0_characters)[i]?)) ∧ (w_Tr_parseNumber T q0 q0_characters q0_fresh vq0_length zvq0_at zvq0_first zvq0_digits zvq0_value zvq0_numbersRead zvq0_failedAt vq0_characters).map Prod.fst = (w_Tr_parseNumber T q0 q0_characters q0_fresh vq0_length vq0_at vq0_first vq0_digits vq0_value vq0_numbersRead vq0_failedAt vq0_characters).map Prod.fst ∧ (w_Tr_parseWhole T q0 q0_characters q0_fresh vq0_length zvq0_at zvq0_first zvq0_digits zvq0_value zvq0_numbersRead zvq0_failedAt vq0_characters).length = 2 :=
  ⟨rfl, rfl, Eq.trans (b := ([] : List (Option (Nat × va_E)))) rfl rfl, rfl, rfl⟩
set_option maxHeartbeats 40000000 in
set_option maxRecDepth 100000 in
theorem c_Tr_parseWhole (l : Launch) (D : va_G) (T : Nat → ClassId) (q0 : Nat) (q0_characters : Nat) (q0_fresh : Nat) (vq0_length : Int32) (vq0_at : Int32) (vq0_first : Int32) (vq0_digits : Int32) (vq0_value : UInt64) (vq0_numbersRead : Int32) (vq0_failedAt : Int32) (vq0_characters : Nat → Int32) (x1 : Int32) (rm : Int32 × Int32 × Int32 × Int32 × UInt64 × Int32 × Int32) (h : s_Tr_parseWhole vq0_length vq0_at vq0_first vq0_digits vq0_value vq0_numbersRead vq0_failedAt vq0_characters x1 = some rm) : CtI l y_Tr_parseWhole (Cond.code y_Tr_parseWhole prog_8_method_10_code 2 (some .boolean) :: BIG) 3 68 D T [.ref q0, .int x1] (w_Tr_parseWhole T q0 q0_characters q0_fresh vq0_length vq0_at vq0_first vq0_digits vq0_value vq0_numbersRead vq0_failedAt vq0_characters) (fun r => r.1) (fun r => (w_Tr_parseWhole T q0 q0_characters q0_fresh vq0_length r.2.1 r.2.2.1 r.2.2.2.1 r.2.2.2.2.1 r.2.2.2.2.2.1 r.2.2.2.2.2.2 vq0_characters)) rm := by
  refine cf_entry (y := y_Tr_parseWhole) (cc := prog_8_method_10_code) (nL := 2) (ret := (some .boolean)) (fr := 3) (lo := 68) (T := T) (av := [.ref q0, .int x1]) (w := (w_Tr_parseWhole T q0 q0_characters q0_fresh vq0_length vq0_at vq0_first vq0_digits vq0_value vq0_numbersRead vq0_failedAt vq0_characters)) (Qc := cfQi D (fun r => r.1) (fun r => (w_Tr_parseWhole T q0 q0_characters q0_fresh vq0_length r.2.1 r.2.2.1 r.2.2.2.1 r.2.2.2.2.1 r.2.2.2.2.2.1 r.2.2.2.2.2.2 vq0_characters)) rm) (by decide) rfl (Nat.le_of_ble_eq_true rfl) ?_
  intro p e s m args below meth c A Q H locs ls hx hb hr hlocks hml hown hts hNW hK hA hQ hP hD hS hl
  have hown : s.vm.findClass "ConeForge$TextReader" = some m.cls := hown
  have hl : lv_has ls 2 [(0, .ref q0), (1, .int x1)] := hl
  have J40 : ∀ (vq0_at : Int32) (vq0_first : Int32) (vq0_digits : Int32) (vq0_value : UInt64) (vq0_numbersRead : Int32) (vq0_failedAt : Int32), ∀ (H : Heap) (locs : List Loc) (ls : Array Slot), va_P D CL (w_Tr_parseWhole T q0 q0_characters q0_fresh vq0_length vq0_at vq0_first vq0_digits vq0_value vq0_numbersRead vq0_failedAt vq0_characters) H → va_D A (w_Tr_parseWhole T q0 q0_characters q0_fresh vq0_length vq0_at vq0_first vq0_digits vq0_value vq0_numbersRead vq0_failedAt vq0_characters) → va_S A s.heap H locs → lv_has ls 2 [] → s_Tr_parseWhole_J40 vq0_length vq0_at vq0_first vq0_digits vq0_value vq0_numbersRead vq0_failedAt vq0_characters = some rm → W p l e (rmk 3 68) s m args below meth c H locs 0 0 Q (F0 m 40 ls []) := by
    intro vq0_at vq0_first vq0_digits vq0_value vq0_numbersRead vq0_failedAt H locs ls hP hD hS hl h
    unfold s_Tr_parseWhole_J40 at h
    refine lv_iconst (v := 1) hx hb d_Tr_parseWhole_40 (by decide) ?_
    refine lv_goto (tgt := 45) hx hb d_Tr_parseWhole_41 (by decide) ?_
    obtain ⟨g1, h⟩ := gd_some h
    exact rtZ hx hb hr hlocks g1 hQ (Option.some.inj h) hP hS d_Tr_parseWhole_45 rfl rfl
  have J29 : ∀ (vq0_at : Int32) (vq0_first : Int32) (vq0_digits : Int32) (vq0_value : UInt64) (vq0_numbersRead : Int32) (vq0_failedAt : Int32), ∀ (H : Heap) (locs : List Loc) (ls : Array Slot), va_P D CL (w_Tr_parseWhole T q0 q0_characters q0_fresh vq0_length vq0_at vq0_first vq0_digits vq0_value vq0_numbersRead vq0_failedAt vq0_characters) H → va_D A (w_Tr_parseWhole T q0 q0_characters q0_fresh vq0_length vq0_at vq0_first vq0_digits vq0_value vq0_numbersRead vq0_failedAt vq0_characters) → va_S A s.heap H locs → lv_has ls 2 [(0, .ref q0)] → s_Tr_parseWhole_J29 vq0_length vq0_at vq0_first vq0_digits vq0_value vq0_numbersRead vq0_failedAt vq0_characters = some rm → W p l e (rmk 3 68) s m args below meth c H locs 0 0 Q (F0 m 29 ls []) := by
    intro vq0_at vq0_first vq0_digits vq0_value vq0_numbersRead vq0_failedAt H locs ls hP hD hS hl h
    unfold s_Tr_parseWhole_J29 at h
    refine lv_aload_n hx hb d_Tr_parseWhole_29 rfl (lv_at hl 0 rfl) ?_
    refine lv_aload_n hx hb d_Tr_parseWhole_30 rfl (lv_at hl 0 rfl) ?_
    refine va_get (D := D) (ci := 3) (v := .int vq0_first) (C := "ConeForge$TextReader") (T := FTr) (N := 9) hx hb hts iTr hown hK hP 0 rfl rfl 4 (by decide) (hts _ (bgc bw170)) (fun _ h9 => h9) rfl d_Tr_parseWhole_31 ?_
    obtain ⟨u2, hu2, h⟩ := bi_some h
    have jj3 := j_Tr_parseWhole_34 T q0 q0_characters q0_fresh vq0_length vq0_at vq0_first vq0_digits vq0_value vq0_numbersRead vq0_failedAt vq0_characters u2.2
    refine kI2 (v := u2.1) (wc := (w_Tr_failAt T q0 q0_characters q0_fresh vq0_length vq0_at vq0_first vq0_digits vq0_value vq0_numbersRead vq0_failedAt)) (wc' := (w_Tr_failAt T q0 q0_characters q0_fresh vq0_length vq0_at vq0_first vq0_digits vq0_value vq0_numbersRead u2.2)) (w_Tr_parseWhole T q0 q0_characters q0_fresh vq0_length vq0_at vq0_first vq0_digits vq0_value vq0_numbersRead u2.2 vq0_characters) (runOV (As := [.int vq0_first]) (rest := []) ((c_Tr_failAt l D T q0 q0_characters q0_fresh vq0_length vq0_at vq0_first vq0_digits vq0_value vq0_numbersRead vq0_failedAt vq0_first u2 hu2) H.size) ⟨hx, hb, hml, hown, hts⟩ (cwOV bw530 bw531 bw34 bw101 bw532 dd_Tr_failAt hts ⟨Nat.le_of_ble_eq_true rfl, Nat.le_of_ble_eq_true rfl⟩) (va_recv hK hP (ci := 3) (q0 := 0) rfl rfl) hNW hK hP hD [0] jj3.1 (by decide) rfl hl.1 rfl (lv_room (Nat.le_of_ble_eq_true rfl)) d_Tr_parseWhole_34 ⟨Nat.le_of_ble_eq_true rfl, Nat.le_of_ble_eq_true rfl⟩) hP hD hS hA [0] [1] jj3.1 jj3.2.1 jj3.2.2.1 (N := 2) jj3.2.2.2.2 (by decide) jj3.2.2.2.1 (fun H locs hP hD hS => ?_)
    refine lv_if_eq (tgt := 44) hx hb d_Tr_parseWhole_37 (by decide) (fun c4 => ?_) (fun c4 => ?_)
    · have h := it_t c4 h
      refine lv_iconst (v := 0) hx hb d_Tr_parseWhole_44 (by decide) ?_
      obtain ⟨g5, h⟩ := gd_some h
      exact rtZ hx hb hr hlocks g5 hQ (Option.some.inj h) hP hS d_Tr_parseWhole_45 rfl rfl
    · have h := it_f c4 h
      exact J40 vq0_at vq0_first vq0_digits vq0_value vq0_numbersRead u2.2 H locs ls hP hD hS (lv_sub hl [] rfl) h
  unfold s_Tr_parseWhole at h
  refine lv_aload_n hx hb d_Tr_parseWhole_0 rfl (lv_at hl 0 rfl) ?_
  refine lv_iconst (v := 1) hx hb d_Tr_parseWhole_1 (by decide) ?_
  obtain ⟨u6, hu6, h⟩ := bi_some h
  have jj7 := j_Tr_parseWhole_2 T q0 q0_characters q0_fresh vq0_length vq0_at vq0_first vq0_digits vq0_value vq0_numbersRead vq0_failedAt vq0_characters u6.2.1 u6.2.2.1 u6.2.2.2.1 u6.2.2.2.2.1 u6.2.2.2.2.2.1 u6.2.2.2.2.2.2
  refine kI2 (v := u6.1) (wc := (w_Tr_parseNumber T q0 q0_characters q0_fresh vq0_length vq0_at vq0_first vq0_digits vq0_value vq0_numbersRead vq0_failedAt vq0_characters)) (wc' := (w_Tr_parseNumber T q0 q0_characters q0_fresh vq0_length u6.2.1 u6.2.2.1 u6.2.2.2.1 u6.2.2.2.2.1 u6.2.2.2.2.2.1 u6.2.2.2.2.2.2 vq0_characters)) (w_Tr_parseWhole T q0 q0_characters q0_fresh vq0_length u6.2.1 u6.2.2.1 u6.2.2.2.1 u6.2.2.2.2.1 u6.2.2.2.2.2.1 u6.2.2.2.2.2.2 vq0_characters) (runOV (As := [.int 1]) (rest := []) ((c_Tr_parseNumber l D T q0 q0_characters q0_fresh vq0_length vq0_at vq0_first vq0_digits vq0_value vq0_numbersRead vq0_failedAt vq0_characters 1 u6 hu6) H.size) ⟨hx, hb, hml, hown, hts⟩ (cwOV bw515 bw516 bw29 bw101 bw517 dd_Tr_parseNumber hts ⟨Nat.le_of_ble_eq_true rfl, Nat.le_of_ble_eq_true rfl⟩) (va_recv hK hP (ci := 3) (q0 := 0) rfl rfl) hNW hK hP hD [0, 1] jj7.1 (by decide) rfl hl.1 rfl (lv_room (Nat.le_of_ble_eq_true rfl)) d_Tr_parseWhole_2 ⟨Nat.le_of_ble_eq_true rfl, Nat.le_of_ble_eq_true rfl⟩) hP hD hS hA [0, 1] [] jj7.1 jj7.2.1 jj7.2.2.1 (N := 2) jj7.2.2.2.2 (by decide) jj7.2.2.2.1 (fun H locs hP hD hS => ?_)
  refine lv_if_ne (tgt := 10) hx hb d_Tr_parseWhole_5 (by decide) (fun c8 => ?_) (fun c8 => ?_)
  · have h := it_f c8 h
    refine lv_aload_n hx hb d_Tr_parseWhole_10 rfl (lv_at hl 0 rfl) ?_
    refine va_get (D := D) (ci := 3) (v := .double u6.2.2.2.2.1) (C := "ConeForge$TextReader") (T := FTr) (N := 9) hx hb hts iTr hown hK hP 0 rfl rfl 6 (by decide) (hts _ (bgc bw172)) (fun _ h9 => h9) rfl d_Tr_parseWhole_11 ?_
    refine lv_dconst1 hx hb d_Tr_parseWhole_14 ?_
    refine lv_dcmp hx hb d_Tr_parseWhole_15 ?_
    refine lv_if_lt (tgt := 29) hx hb d_Tr_parseWhole_16 (by decide) (fun c9 => ?_) (fun c9 => ?_)
    · have h := it_t c9 h
      exact J29 u6.2.1 u6.2.2.1 u6.2.2.2.1 u6.2.2.2.2.1 u6.2.2.2.2.2.1 u6.2.2.2.2.2.2 H locs ls hP hD hS (lv_sub hl [0] rfl) h
    · have h := it_f c9 h
      refine lv_aload_n hx hb d_Tr_parseWhole_19 rfl (lv_at hl 0 rfl) ?_
      refine va_get (D := D) (ci := 3) (v := .double u6.2.2.2.2.1) (C := "ConeForge$TextReader") (T := FTr) (N := 9) hx hb hts iTr hown hK hP 0 rfl rfl 6 (by decide) (hts _ (bgc bw172)) (fun _ h9 => h9) rfl d_Tr_parseWhole_20 ?_
      refine lv_iload_n hx hb d_Tr_parseWhole_23 rfl (lv_at hl 1 rfl) ?_
      refine lv_i2d hx hb d_Tr_parseWhole_24 ?_
      refine lv_dcmp hx hb d_Tr_parseWhole_25 ?_
      refine lv_if_le (tgt := 40) hx hb d_Tr_parseWhole_26 (by decide) (fun c10 => ?_) (fun c10 => ?_)
      · have h := it_t c10 h
        exact J40 u6.2.1 u6.2.2.1 u6.2.2.2.1 u6.2.2.2.2.1 u6.2.2.2.2.2.1 u6.2.2.2.2.2.2 H locs ls hP hD hS (lv_sub hl [] rfl) h
      · have h := it_f c10 h
        exact J29 u6.2.1 u6.2.2.1 u6.2.2.2.1 u6.2.2.2.2.1 u6.2.2.2.2.2.1 u6.2.2.2.2.2.2 H locs ls hP hD hS (lv_sub hl [0] rfl) h
  · have h := it_t c8 h
    refine lv_iconst (v := 0) hx hb d_Tr_parseWhole_8 (by decide) ?_
    obtain ⟨g11, h⟩ := gd_some h
    exact rtZ hx hb hr hlocks g11 hQ (Option.some.inj h) hP hS d_Tr_parseWhole_9 rfl rfl
theorem d_Tr_parseSize_0 : decode prog_8_method_7_code 0 = .ok (.aload_n 0, 1) := by decide +kernel
theorem d_Tr_parseSize_1 : decode prog_8_method_7_code 1 = .ok (.iconst 5, 1) := by decide +kernel
theorem d_Tr_parseSize_2 : decode prog_8_method_7_code 2 = .ok (.invokevirtual 79, 3) := by decide +kernel
theorem d_Tr_parseSize_5 : decode prog_8_method_7_code 5 = .ok (.ifCond .ne 5, 3) := by decide +kernel
theorem d_Tr_parseSize_8 : decode prog_8_method_7_code 8 = .ok (.iconst 0, 1) := by decide +kernel
theorem d_Tr_parseSize_9 : decode prog_8_method_7_code 9 = .ok (.ireturn, 1) := by decide +kernel
theorem d_Tr_parseSize_10 : decode prog_8_method_7_code 10 = .ok (.aload_n 0, 1) := by decide +kernel
theorem d_Tr_parseSize_11 : decode prog_8_method_7_code 11 = .ok (.getfield 35, 3) := by decide +kernel
theorem d_Tr_parseSize_14 : decode prog_8_method_7_code 14 = .ok (.d2i, 1) := by decide +kernel
theorem d_Tr_parseSize_15 : decode prog_8_method_7_code 15 = .ok (.istore_n 1, 1) := by decide +kernel
theorem d_Tr_parseSize_16 : decode prog_8_method_7_code 16 = .ok (.aload_n 0, 1) := by decide +kernel
theorem d_Tr_parseSize_17 : decode prog_8_method_7_code 17 = .ok (.bipush 8, 2) := by decide +kernel
theorem d_Tr_parseSize_19 : decode prog_8_method_7_code 19 = .ok (.invokevirtual 79, 3) := by decide +kernel
theorem d_Tr_parseSize_22 : decode prog_8_method_7_code 22 = .ok (.ifCond .ne 5, 3) := by decide +kernel
theorem d_Tr_parseSize_25 : decode prog_8_method_7_code 25 = .ok (.iconst 0, 1) := by decide +kernel
theorem d_Tr_parseSize_26 : decode prog_8_method_7_code 26 = .ok (.ireturn, 1) := by decide +kernel
theorem d_Tr_parseSize_27 : decode prog_8_method_7_code 27 = .ok (.aload_n 0, 1) := by decide +kernel
theorem d_Tr_parseSize_28 : decode prog_8_method_7_code 28 = .ok (.getfield 18, 3) := by decide +kernel
theorem d_Tr_parseSize_31 : decode prog_8_method_7_code 31 = .ok (.iload_n 1, 1) := by decide +kernel
theorem d_Tr_parseSize_32 : decode prog_8_method_7_code 32 = .ok (.aload_n 0, 1) := by decide +kernel
theorem d_Tr_parseSize_33 : decode prog_8_method_7_code 33 = .ok (.getfield 35, 3) := by decide +kernel
theorem d_Tr_parseSize_36 : decode prog_8_method_7_code 36 = .ok (.d2i, 1) := by decide +kernel
theorem d_Tr_parseSize_37 : decode prog_8_method_7_code 37 = .ok (.invokevirtual 83, 3) := by decide +kernel
theorem d_Tr_parseSize_40 : decode prog_8_method_7_code 40 = .ok (.iconst 1, 1) := by decide +kernel
theorem d_Tr_parseSize_41 : decode prog_8_method_7_code 41 = .ok (.ireturn, 1) := by decide +kernel
abbrev w_Tr_parseSize (T : Nat → ClassId) (q0 : Nat) (q0_characters : Nat) (q0_fresh : Nat) (q0_fresh_a : Nat) (q0_fresh_b : Nat) (q0_fresh_c : Nat) (Rq0_fresh_a : Nat → Nat) (vq0_length : Int32) (vq0_at : Int32) (vq0_first : Int32) (vq0_digits : Int32) (vq0_value : UInt64) (vq0_numbersRead : Int32) (vq0_failedAt : Int32) (vq0_characters : Nat → Int32) (vq0_fresh_rows : Int32) (vq0_fresh_variables : Int32) (vq0_fresh_a : Nat → Nat → UInt64) (vq0_fresh_b : Nat → UInt64) (vq0_fresh_c : Nat → UInt64) : va_W := [(q0, .inr (3, [.ref q0_characters, .ref q0_fresh, .int vq0_length, .int vq0_at, .int vq0_first, .int vq0_digits, .double vq0_value, .int vq0_numbersRead, .int vq0_failedAt])), (q0_characters, .inl (T 2, 300, .inl vq0_characters)), (q0_fresh, .inr (0, [.int vq0_fresh_rows, .int vq0_fresh_variables, .ref q0_fresh_a, .ref q0_fresh_b, .ref q0_fresh_c])), (q0_fresh_a, .inl (T 3, 5, .inr (.inr (.inr (.inr (fun i => some (Rq0_fresh_a i))))))), (Rq0_fresh_a 0, .inl (T 0, 8, .inr (.inr (.inr (.inl (vq0_fresh_a 0)))))), (Rq0_fresh_a 1, .inl (T 0, 8, .inr (.inr (.inr (.inl (vq0_fresh_a 1)))))), (Rq0_fresh_a 2, .inl (T 0, 8, .inr (.inr (.inr (.inl (vq0_fresh_a 2)))))), (Rq0_fresh_a 3, .inl (T 0, 8, .inr (.inr (.inr (.inl (vq0_fresh_a 3)))))), (Rq0_fresh_a 4, .inl (T 0, 8, .inr (.inr (.inr (.inl (vq0_fresh_a 4)))))), (q0_fresh_b, .inl (T 0, 5, .inr (.inr (.inr (.inl vq0_fresh_b))))), (q0_fresh_c, .inl (T 0, 8, .inr (.inr (.inr (.inl vq0_fresh_c)))))]
def s_Tr_parseSize (vq0_length : Int32) (vq0_at : Int32) (vq0_first : Int32) (vq0_digits : Int32) (vq0_value : UInt64) (vq0_numbersRead : Int32) (vq0_failedAt : Int32) (vq0_characters : Nat → Int32) (vq0_fresh_rows : Int32) (vq0_fresh_variables : Int32) (vq0_fresh_a : Nat → Nat → UInt64) (vq0_fresh_b : Nat → UInt64) (vq0_fresh_c : Nat → UInt64) : Option (Int32 × Int32 × Int32 × Int32 × UInt64 × Int32 × Int32 × Int32 × Int32 × (Nat → Nat → UInt64) × (Nat → UInt64) × (Nat → UInt64)) :=
  (s_Tr_parseWhole vq0_length vq0_at vq0_first vq0_digits vq0_value vq0_numbersRead vq0_failedAt vq0_characters 5).bind fun u1 => if u1.1 = 0 then (gd (isb 0) <| some (0, u1.2.1, u1.2.2.1, u1.2.2.2.1, u1.2.2.2.2.1, u1.2.2.2.2.2.1, u1.2.2.2.2.2.2, vq0_fresh_rows, vq0_fresh_variables, vq0_fresh_a, vq0_fresh_b, vq0_fresh_c)) else ((s_Tr_parseWhole vq0_length u1.2.1 u1.2.2.1 u1.2.2.2.1 u1.2.2.2.2.1 u1.2.2.2.2.2.1 u1.2.2.2.2.2.2 vq0_characters 8).bind fun u4 => if u4.1 = 0 then (gd (isb 0) <| some (0, u4.2.1, u4.2.2.1, u4.2.2.2.1, u4.2.2.2.2.1, u4.2.2.2.2.2.1, u4.2.2.2.2.2.2, vq0_fresh_rows, vq0_fresh_variables, vq0_fresh_a, vq0_fresh_b, vq0_fresh_c)) else ((s_Pb_clear vq0_fresh_rows vq0_fresh_variables vq0_fresh_a vq0_fresh_b vq0_fresh_c (FP.d2i u1.2.2.2.2.1) (FP.d2i u4.2.2.2.2.1)).bind fun u7 => gd (isb 1) <| some (1, u4.2.1, u4.2.2.1, u4.2.2.2.1, u4.2.2.2.2.1, u4.2.2.2.2.2.1, u4.2.2.2.2.2.2, u7.1, u7.2.1, u7.2.2.1, u7.2.2.2.1, u7.2.2.2.2)))
set_option maxRecDepth 100000 in
theorem j_Tr_parseSize_2 (T : Nat → ClassId) (q0 : Nat) (q0_characters : Nat) (q0_fresh : Nat) (q0_fresh_a : Nat) (q0_fresh_b : Nat) (q0_fresh_c : Nat) (Rq0_fresh_a : Nat → Nat) (vq0_length : Int32) (vq0_at : Int32) (vq0_first : Int32) (vq0_digits : Int32) (vq0_value : UInt64) (vq0_numbersRead : Int32) (vq0_failedAt : Int32) (vq0_characters : Nat → Int32) (vq0_fresh_rows : Int32) (vq0_fresh_variables : Int32) (vq0_fresh_a : Nat → Nat → UInt64) (vq0_fresh_b : Nat → UInt64) (vq0_fresh_c : Nat → UInt64) (zvq0_at : Int32) (zvq0_first : Int32) (zvq0_digits : Int32) (zvq0_value : UInt64) (zvq0_numbersRead : Int32) (zvq0_failedAt : Int32) : ([0, 1].map (fun (i : Nat) => (w_Tr_parseSize T q0 q0_characters q0_fresh q0_fresh_a q0_fresh_b q0_fresh_c Rq0_fresh_a vq0_length vq0_at vq0_first vq0_digits vq0_value vq0_numbersRead vq0_failedAt vq0_characters vq0_fresh_rows vq0_fresh_variables vq0_fresh_a vq0_fresh_b vq0_fresh_c)[i]?) = (w_Tr_parseWhole T q0 q0_characters q0_fresh vq0_length vq0_at vq0_first vq0_digits vq0_value vq0_numbersRead vq0_failedAt vq0_characters).map some) ∧ ([0, 1].map (fun (i : Nat) => (w_Tr_parseSize T q0 q0_characters q0_fresh q0_fresh_a q0_fresh_b q0_fresh_c Rq0_fresh_a vq0_length zvq0_at zvq0_first zvq0_digits zvq0_value zvq0_numbersRead zvq0_failedAt vq0_characters vq0_fresh_rows vq0_fresh_variables vq0_fresh_a vq0_fresh_b vq0_fresh_c)[i]?) = (w_Tr_parseWhole T q0 q0_characters q0_fresh vq0_length zvq0_at zvq0_first zvq0_digits zvq0_value zvq0_numbersRead zvq0_failedAt vq0_characters).map some) ∧ ([2, 3, 4, 5, 6, 7, 8, 9, 10].map (fun (i : Nat) => (w_Tr_parseSize T q0 q0_characters q0_fresh q0_fresh_a q0_fresh_b q0_fresh_c Rq0_fresh_a vq0_length vq0_at vq0_first vq0_digits vq0_value vq0_numbersRead vq0_failedAt vq0_characters vq0_fresh_rows vq0_fresh_variables vq0_fresh_a vq0_fresh_b vq0_fresh_c)[i]?) = [2, 3, 4, 5, 6, 7, 8, 9, 10].map (fun (i : Nat) => (w_Tr_parseSize T q0 q0_characters q0_fresh q0_fresh_a q0_fresh_b q0_fresh_c Rq0_fresh_a vq0_length zvq0_at zvq0_first zvq0_digits zvq0_value zvq0_numbersRead zvq0_failedAt vq0_characters vq0_fresh_rows vq0_fresh_variables vq0_fresh_a vq0_fresh_b vq0_fresh_c)[i]?)) ∧ (w_Tr_parseWhole T q0 q0_characters q0_fresh vq0_length zvq0_at zvq0_first zvq0_digits zvq0_value zvq0_numbersRead zvq0_failedAt vq0_characters).map Prod.fst = (w_Tr_parseWhole T q0 q0_characters q0_fresh vq0_length vq0_at vq0_first vq0_digits vq0_value vq0_numbersRead vq0_failedAt vq0_characters).map Prod.fst ∧ (w_Tr_parseSize T q0 q0_characters q0_fresh q0_fresh_a q0_fresh_b q0_fresh_c Rq0_fresh_a vq0_length zvq0_at zvq0_first zvq0_digits zvq0_value zvq0_numbersRead zvq0_failedAt vq0_characters vq0_fresh_rows vq0_fresh_variables vq0_fresh_a vq0_fresh_b vq0_fresh_c).length = 11 :=
  ⟨rfl, rfl, Eq.trans (b := ([some (q0_fresh, .inr (0, [.int vq0_fresh_rows, .int vq0_fresh_variables, .ref q0_fresh_a, .ref q0_fresh_b, .ref q0_fresh_c])), some (q0_fresh_a, .inl (T 3, 5, .inr (.inr (.inr (.inr (fun i => some (Rq0_fresh_a i))))))), some (Rq0_fresh_a 0, .inl (T 0, 8, .inr (.inr (.inr (.inl (vq0_fresh_a 0)))))), some (Rq0_fresh_a 1, .inl (T 0, 8, .inr (.inr (.inr (.inl (vq0_fresh_a 1)))))), some (Rq0_fresh_a 2, .inl (T 0, 8, .inr (.inr (.inr (.inl (vq0_fresh_a 2)))))), some (Rq0_fresh_a 3, .inl (T 0, 8, .inr (.inr (.inr (.inl (vq0_fresh_a 3)))))), some (Rq0_fresh_a 4, .inl (T 0, 8, .inr (.inr (.inr (.inl (vq0_fresh_a 4)))))), some (q0_fresh_b, .inl (T 0, 5, .inr (.inr (.inr (.inl vq0_fresh_b))))), some (q0_fresh_c, .inl (T 0, 8, .inr (.inr (.inr (.inl vq0_fresh_c)))))] : List (Option (Nat × va_E)))) rfl rfl, rfl, rfl⟩
set_option maxRecDepth 100000 in
theorem j_Tr_parseSize_19 (T : Nat → ClassId) (q0 : Nat) (q0_characters : Nat) (q0_fresh : Nat) (q0_fresh_a : Nat) (q0_fresh_b : Nat) (q0_fresh_c : Nat) (Rq0_fresh_a : Nat → Nat) (vq0_length : Int32) (vq0_at : Int32) (vq0_first : Int32) (vq0_digits : Int32) (vq0_value : UInt64) (vq0_numbersRead : Int32) (vq0_failedAt : Int32) (vq0_characters : Nat → Int32) (vq0_fresh_rows : Int32) (vq0_fresh_variables : Int32) (vq0_fresh_a : Nat → Nat → UInt64) (vq0_fresh_b : Nat → UInt64) (vq0_fresh_c : Nat → UInt64) (zvq0_at : Int32) (zvq0_first : Int32) (zvq0_digits : Int32) (zvq0_value : UInt64) (zvq0_numbersRead : Int32) (zvq0_failedAt : Int32) : ([0, 1].map (fun (i : Nat) => (w_Tr_parseSize T q0 q0_characters q0_fresh q0_fresh_a q0_fresh_b q0_fresh_c Rq0_fresh_a vq0_length vq0_at vq0_first vq0_digits vq0_value vq0_numbersRead vq0_failedAt vq0_characters vq0_fresh_rows vq0_fresh_variables vq0_fresh_a vq0_fresh_b vq0_fresh_c)[i]?) = (w_Tr_parseWhole T q0 q0_characters q0_fresh vq0_length vq0_at vq0_first vq0_digits vq0_value vq0_numbersRead vq0_failedAt vq0_characters).map some) ∧ ([0, 1].map (fun (i : Nat) => (w_Tr_parseSize T q0 q0_characters q0_fresh q0_fresh_a q0_fresh_b q0_fresh_c Rq0_fresh_a vq0_length zvq0_at zvq0_first zvq0_digits zvq0_value zvq0_numbersRead zvq0_failedAt vq0_characters vq0_fresh_rows vq0_fresh_variables vq0_fresh_a vq0_fresh_b vq0_fresh_c)[i]?) = (w_Tr_parseWhole T q0 q0_characters q0_fresh vq0_length zvq0_at zvq0_first zvq0_digits zvq0_value zvq0_numbersRead zvq0_failedAt vq0_characters).map some) ∧ ([2, 3, 4, 5, 6, 7, 8, 9, 10].map (fun (i : Nat) => (w_Tr_parseSize T q0 q0_characters q0_fresh q0_fresh_a q0_fresh_b q0_fresh_c Rq0_fresh_a vq0_length vq0_at vq0_first vq0_digits vq0_value vq0_numbersRead vq0_failedAt vq0_characters vq0_fresh_rows vq0_fresh_variables vq0_fresh_a vq0_fresh_b vq0_fresh_c)[i]?) = [2, 3, 4, 5, 6, 7, 8, 9, 10].map (fun (i : Nat) => (w_Tr_parseSize T q0 q0_characters q0_fresh q0_fresh_a q0_fresh_b q0_fresh_c Rq0_fresh_a vq0_length zvq0_at zvq0_first zvq0_digits zvq0_value zvq0_numbersRead zvq0_failedAt vq0_characters vq0_fresh_rows vq0_fresh_variables vq0_fresh_a vq0_fresh_b vq0_fresh_c)[i]?)) ∧ (w_Tr_parseWhole T q0 q0_characters q0_fresh vq0_length zvq0_at zvq0_first zvq0_digits zvq0_value zvq0_numbersRead zvq0_failedAt vq0_characters).map Prod.fst = (w_Tr_parseWhole T q0 q0_characters q0_fresh vq0_length vq0_at vq0_first vq0_digits vq0_value vq0_numbersRead vq0_failedAt vq0_characters).map Prod.fst ∧ (w_Tr_parseSize T q0 q0_characters q0_fresh q0_fresh_a q0_fresh_b q0_fresh_c Rq0_fresh_a vq0_length zvq0_at zvq0_first zvq0_digits zvq0_value zvq0_numbersRead zvq0_failedAt vq0_characters vq0_fresh_rows vq0_fresh_variables vq0_fresh_a vq0_fresh_b vq0_fresh_c).length = 11 :=
  ⟨rfl, rfl, Eq.trans (b := ([some (q0_fresh, .inr (0, [.int vq0_fresh_rows, .int vq0_fresh_variables, .ref q0_fresh_a, .ref q0_fresh_b, .ref q0_fresh_c])), some (q0_fresh_a, .inl (T 3, 5, .inr (.inr (.inr (.inr (fun i => some (Rq0_fresh_a i))))))), some (Rq0_fresh_a 0, .inl (T 0, 8, .inr (.inr (.inr (.inl (vq0_fresh_a 0)))))), some (Rq0_fresh_a 1, .inl (T 0, 8, .inr (.inr (.inr (.inl (vq0_fresh_a 1)))))), some (Rq0_fresh_a 2, .inl (T 0, 8, .inr (.inr (.inr (.inl (vq0_fresh_a 2)))))), some (Rq0_fresh_a 3, .inl (T 0, 8, .inr (.inr (.inr (.inl (vq0_fresh_a 3)))))), some (Rq0_fresh_a 4, .inl (T 0, 8, .inr (.inr (.inr (.inl (vq0_fresh_a 4)))))), some (q0_fresh_b, .inl (T 0, 5, .inr (.inr (.inr (.inl vq0_fresh_b))))), some (q0_fresh_c, .inl (T 0, 8, .inr (.inr (.inr (.inl vq0_fresh_c)))))] : List (Option (Nat × va_E)))) rfl rfl, rfl, rfl⟩
set_option maxRecDepth 100000 in
theorem j_Tr_parseSize_37 (T : Nat → ClassId) (q0 : Nat) (q0_characters : Nat) (q0_fresh : Nat) (q0_fresh_a : Nat) (q0_fresh_b : Nat) (q0_fresh_c : Nat) (Rq0_fresh_a : Nat → Nat) (vq0_length : Int32) (vq0_at : Int32) (vq0_first : Int32) (vq0_digits : Int32) (vq0_value : UInt64) (vq0_numbersRead : Int32) (vq0_failedAt : Int32) (vq0_characters : Nat → Int32) (vq0_fresh_rows : Int32) (vq0_fresh_variables : Int32) (vq0_fresh_a : Nat → Nat → UInt64) (vq0_fresh_b : Nat → UInt64) (vq0_fresh_c : Nat → UInt64) (zvq0_fresh_rows : Int32) (zvq0_fresh_variables : Int32) (zvq0_fresh_a : Nat → Nat → UInt64) (zvq0_fresh_b : Nat → UInt64) (zvq0_fresh_c : Nat → UInt64) : ([2, 3, 4, 5, 6, 7, 8, 9, 10].map (fun (i : Nat) => (w_Tr_parseSize T q0 q0_characters q0_fresh q0_fresh_a q0_fresh_b q0_fresh_c Rq0_fresh_a vq0_length vq0_at vq0_first vq0_digits vq0_value vq0_numbersRead vq0_failedAt vq0_characters vq0_fresh_rows vq0_fresh_variables vq0_fresh_a vq0_fresh_b vq0_fresh_c)[i]?) = (w_Pb_clear T q0_fresh q0_fresh_a q0_fresh_b q0_fresh_c Rq0_fresh_a vq0_fresh_rows vq0_fresh_variables vq0_fresh_a vq0_fresh_b vq0_fresh_c).map some) ∧ ([2, 3, 4, 5, 6, 7, 8, 9, 10].map (fun (i : Nat) => (w_Tr_parseSize T q0 q0_characters q0_fresh q0_fresh_a q0_fresh_b q0_fresh_c Rq0_fresh_a vq0_length vq0_at vq0_first vq0_digits vq0_value vq0_numbersRead vq0_failedAt vq0_characters zvq0_fresh_rows zvq0_fresh_variables zvq0_fresh_a zvq0_fresh_b zvq0_fresh_c)[i]?) = (w_Pb_clear T q0_fresh q0_fresh_a q0_fresh_b q0_fresh_c Rq0_fresh_a zvq0_fresh_rows zvq0_fresh_variables zvq0_fresh_a zvq0_fresh_b zvq0_fresh_c).map some) ∧ ([0, 1].map (fun (i : Nat) => (w_Tr_parseSize T q0 q0_characters q0_fresh q0_fresh_a q0_fresh_b q0_fresh_c Rq0_fresh_a vq0_length vq0_at vq0_first vq0_digits vq0_value vq0_numbersRead vq0_failedAt vq0_characters vq0_fresh_rows vq0_fresh_variables vq0_fresh_a vq0_fresh_b vq0_fresh_c)[i]?) = [0, 1].map (fun (i : Nat) => (w_Tr_parseSize T q0 q0_characters q0_fresh q0_fresh_a q0_fresh_b q0_fresh_c Rq0_fresh_a vq0_length vq0_at vq0_first vq0_digits vq0_value vq0_numbersRead vq0_failedAt vq0_characters zvq0_fresh_rows zvq0_fresh_variables zvq0_fresh_a zvq0_fresh_b zvq0_fresh_c)[i]?)) ∧ (w_Pb_clear T q0_fresh q0_fresh_a q0_fresh_b q0_fresh_c Rq0_fresh_a zvq0_fresh_rows zvq0_fresh_variables zvq0_fresh_a zvq0_fresh_b zvq0_fresh_c).map Prod.fst = (w_Pb_clear T q0_fresh q0_fresh_a q0_fresh_b q0_fresh_c Rq0_fresh_a vq0_fresh_rows vq0_fresh_variables vq0_fresh_a vq0_fresh_b vq0_fresh_c).map Prod.fst ∧ (w_Tr_parseSize T q0 q0_characters q0_fresh q0_fresh_a q0_fresh_b q0_fresh_c Rq0_fresh_a vq0_length vq0_at vq0_first vq0_digits vq0_value vq0_numbersRead vq0_failedAt vq0_characters zvq0_fresh_rows zvq0_fresh_variables zvq0_fresh_a zvq0_fresh_b zvq0_fresh_c).length = 11 :=
  ⟨rfl, rfl, Eq.trans (b := ([some (q0, .inr (3, [.ref q0_characters, .ref q0_fresh, .int vq0_length, .int vq0_at, .int vq0_first, .int vq0_digits, .double vq0_value, .int vq0_numbersRead, .int vq0_failedAt])), some (q0_characters, .inl (T 2, 300, .inl vq0_characters))] : List (Option (Nat × va_E)))) rfl rfl, rfl, rfl⟩
set_option maxHeartbeats 40000000 in
set_option maxRecDepth 100000 in
theorem c_Tr_parseSize (l : Launch) (D : va_G) (T : Nat → ClassId) (q0 : Nat) (q0_characters : Nat) (q0_fresh : Nat) (q0_fresh_a : Nat) (q0_fresh_b : Nat) (q0_fresh_c : Nat) (Rq0_fresh_a : Nat → Nat) (vq0_length : Int32) (vq0_at : Int32) (vq0_first : Int32) (vq0_digits : Int32) (vq0_value : UInt64) (vq0_numbersRead : Int32) (vq0_failedAt : Int32) (vq0_characters : Nat → Int32) (vq0_fresh_rows : Int32) (vq0_fresh_variables : Int32) (vq0_fresh_a : Nat → Nat → UInt64) (vq0_fresh_b : Nat → UInt64) (vq0_fresh_c : Nat → UInt64) (rm : Int32 × Int32 × Int32 × Int32 × UInt64 × Int32 × Int32 × Int32 × Int32 × (Nat → Nat → UInt64) × (Nat → UInt64) × (Nat → UInt64)) (h : s_Tr_parseSize vq0_length vq0_at vq0_first vq0_digits vq0_value vq0_numbersRead vq0_failedAt vq0_characters vq0_fresh_rows vq0_fresh_variables vq0_fresh_a vq0_fresh_b vq0_fresh_c = some rm) : CtI l y_Tr_parseSize (Cond.code y_Tr_parseSize prog_8_method_7_code 2 (some .boolean) :: BIG) 4 89 D T [.ref q0] (w_Tr_parseSize T q0 q0_characters q0_fresh q0_fresh_a q0_fresh_b q0_fresh_c Rq0_fresh_a vq0_length vq0_at vq0_first vq0_digits vq0_value vq0_numbersRead vq0_failedAt vq0_characters vq0_fresh_rows vq0_fresh_variables vq0_fresh_a vq0_fresh_b vq0_fresh_c) (fun r => r.1) (fun r => (w_Tr_parseSize T q0 q0_characters q0_fresh q0_fresh_a q0_fresh_b q0_fresh_c Rq0_fresh_a vq0_length r.2.1 r.2.2.1 r.2.2.2.1 r.2.2.2.2.1 r.2.2.2.2.2.1 r.2.2.2.2.2.2.1 vq0_characters r.2.2.2.2.2.2.2.1 r.2.2.2.2.2.2.2.2.1 r.2.2.2.2.2.2.2.2.2.1 r.2.2.2.2.2.2.2.2.2.2.1 r.2.2.2.2.2.2.2.2.2.2.2)) rm := by
  refine cf_entry (y := y_Tr_parseSize) (cc := prog_8_method_7_code) (nL := 2) (ret := (some .boolean)) (fr := 4) (lo := 89) (T := T) (av := [.ref q0]) (w := (w_Tr_parseSize T q0 q0_characters q0_fresh q0_fresh_a q0_fresh_b q0_fresh_c Rq0_fresh_a vq0_length vq0_at vq0_first vq0_digits vq0_value vq0_numbersRead vq0_failedAt vq0_characters vq0_fresh_rows vq0_fresh_variables vq0_fresh_a vq0_fresh_b vq0_fresh_c)) (Qc := cfQi D (fun r => r.1) (fun r => (w_Tr_parseSize T q0 q0_characters q0_fresh q0_fresh_a q0_fresh_b q0_fresh_c Rq0_fresh_a vq0_length r.2.1 r.2.2.1 r.2.2.2.1 r.2.2.2.2.1 r.2.2.2.2.2.1 r.2.2.2.2.2.2.1 vq0_characters r.2.2.2.2.2.2.2.1 r.2.2.2.2.2.2.2.2.1 r.2.2.2.2.2.2.2.2.2.1 r.2.2.2.2.2.2.2.2.2.2.1 r.2.2.2.2.2.2.2.2.2.2.2)) rm) (by decide) rfl (Nat.le_of_ble_eq_true rfl) ?_
  intro p e s m args below meth c A Q H locs ls hx hb hr hlocks hml hown hts hNW hK hA hQ hP hD hS hl
  have hown : s.vm.findClass "ConeForge$TextReader" = some m.cls := hown
  have hl : lv_has ls 2 [(0, .ref q0)] := hl
  unfold s_Tr_parseSize at h
  refine lv_aload_n hx hb d_Tr_parseSize_0 rfl (lv_at hl 0 rfl) ?_
  refine lv_iconst (v := 5) hx hb d_Tr_parseSize_1 (by decide) ?_
  obtain ⟨u1, hu1, h⟩ := bi_some h
  have jj2 := j_Tr_parseSize_2 T q0 q0_characters q0_fresh q0_fresh_a q0_fresh_b q0_fresh_c Rq0_fresh_a vq0_length vq0_at vq0_first vq0_digits vq0_value vq0_numbersRead vq0_failedAt vq0_characters vq0_fresh_rows vq0_fresh_variables vq0_fresh_a vq0_fresh_b vq0_fresh_c u1.2.1 u1.2.2.1 u1.2.2.2.1 u1.2.2.2.2.1 u1.2.2.2.2.2.1 u1.2.2.2.2.2.2
  refine kI2 (v := u1.1) (wc := (w_Tr_parseWhole T q0 q0_characters q0_fresh vq0_length vq0_at vq0_first vq0_digits vq0_value vq0_numbersRead vq0_failedAt vq0_characters)) (wc' := (w_Tr_parseWhole T q0 q0_characters q0_fresh vq0_length u1.2.1 u1.2.2.1 u1.2.2.2.1 u1.2.2.2.2.1 u1.2.2.2.2.2.1 u1.2.2.2.2.2.2 vq0_characters)) (w_Tr_parseSize T q0 q0_characters q0_fresh q0_fresh_a q0_fresh_b q0_fresh_c Rq0_fresh_a vq0_length u1.2.1 u1.2.2.1 u1.2.2.2.1 u1.2.2.2.2.1 u1.2.2.2.2.2.1 u1.2.2.2.2.2.2 vq0_characters vq0_fresh_rows vq0_fresh_variables vq0_fresh_a vq0_fresh_b vq0_fresh_c) (runOV (As := [.int 5]) (rest := []) ((c_Tr_parseWhole l D T q0 q0_characters q0_fresh vq0_length vq0_at vq0_first vq0_digits vq0_value vq0_numbersRead vq0_failedAt vq0_characters 5 u1 hu1) H.size) ⟨hx, hb, hml, hown, hts⟩ (cwOV bw512 bw513 bw28 bw101 bw514 dd_Tr_parseWhole hts ⟨Nat.le_of_ble_eq_true rfl, Nat.le_of_ble_eq_true rfl⟩) (va_recv hK hP (ci := 3) (q0 := 0) rfl rfl) hNW hK hP hD [0, 1] jj2.1 (by decide) rfl hl.1 rfl (lv_room (Nat.le_of_ble_eq_true rfl)) d_Tr_parseSize_2 ⟨Nat.le_of_ble_eq_true rfl, Nat.le_of_ble_eq_true rfl⟩) hP hD hS hA [0, 1] [2, 3, 4, 5, 6, 7, 8, 9, 10] jj2.1 jj2.2.1 jj2.2.2.1 (N := 11) jj2.2.2.2.2 (by decide) jj2.2.2.2.1 (fun H locs hP hD hS => ?_)
  refine lv_if_ne (tgt := 10) hx hb d_Tr_parseSize_5 (by decide) (fun c3 => ?_) (fun c3 => ?_)
  · have h := it_f c3 h
    refine lv_aload_n hx hb d_Tr_parseSize_10 rfl (lv_at hl 0 rfl) ?_
    refine va_get (D := D) (ci := 3) (v := .double u1.2.2.2.2.1) (C := "ConeForge$TextReader") (T := FTr) (N := 9) hx hb hts iTr hown hK hP 0 rfl rfl 6 (by decide) (hts _ (bgc bw172)) (fun _ h9 => h9) rfl d_Tr_parseSize_11 ?_
    refine lv_d2i hx hb d_Tr_parseSize_14 ?_
    refine lv_istore_n (lv' := [(1, .int (FP.d2i u1.2.2.2.2.1)), (0, .ref q0)]) hx hb d_Tr_parseSize_15 rfl hl (by decide) rfl (fun ls hl => ?_)
    refine lv_aload_n hx hb d_Tr_parseSize_16 rfl (lv_at hl 1 rfl) ?_
    refine lv_bipush (v := 8) hx hb d_Tr_parseSize_17 (by decide) ?_
    obtain ⟨u4, hu4, h⟩ := bi_some h
    have jj5 := j_Tr_parseSize_19 T q0 q0_characters q0_fresh q0_fresh_a q0_fresh_b q0_fresh_c Rq0_fresh_a vq0_length u1.2.1 u1.2.2.1 u1.2.2.2.1 u1.2.2.2.2.1 u1.2.2.2.2.2.1 u1.2.2.2.2.2.2 vq0_characters vq0_fresh_rows vq0_fresh_variables vq0_fresh_a vq0_fresh_b vq0_fresh_c u4.2.1 u4.2.2.1 u4.2.2.2.1 u4.2.2.2.2.1 u4.2.2.2.2.2.1 u4.2.2.2.2.2.2
    refine kI2 (v := u4.1) (wc := (w_Tr_parseWhole T q0 q0_characters q0_fresh vq0_length u1.2.1 u1.2.2.1 u1.2.2.2.1 u1.2.2.2.2.1 u1.2.2.2.2.2.1 u1.2.2.2.2.2.2 vq0_characters)) (wc' := (w_Tr_parseWhole T q0 q0_characters q0_fresh vq0_length u4.2.1 u4.2.2.1 u4.2.2.2.1 u4.2.2.2.2.1 u4.2.2.2.2.2.1 u4.2.2.2.2.2.2 vq0_characters)) (w_Tr_parseSize T q0 q0_characters q0_fresh q0_fresh_a q0_fresh_b q0_fresh_c Rq0_fresh_a vq0_length u4.2.1 u4.2.2.1 u4.2.2.2.1 u4.2.2.2.2.1 u4.2.2.2.2.2.1 u4.2.2.2.2.2.2 vq0_characters vq0_fresh_rows vq0_fresh_variables vq0_fresh_a vq0_fresh_b vq0_fresh_c) (runOV (As := [.int 8]) (rest := []) ((c_Tr_parseWhole l D T q0 q0_characters q0_fresh vq0_length u1.2.1 u1.2.2.1 u1.2.2.2.1 u1.2.2.2.2.1 u1.2.2.2.2.2.1 u1.2.2.2.2.2.2 vq0_characters 8 u4 hu4) H.size) ⟨hx, hb, hml, hown, hts⟩ (cwOV bw512 bw513 bw28 bw101 bw514 dd_Tr_parseWhole hts ⟨Nat.le_of_ble_eq_true rfl, Nat.le_of_ble_eq_true rfl⟩) (va_recv hK hP (ci := 3) (q0 := 0) rfl rfl) hNW hK hP hD [0, 1] jj5.1 (by decide) rfl hl.1 rfl (lv_room (Nat.le_of_ble_eq_true rfl)) d_Tr_parseSize_19 ⟨Nat.le_of_ble_eq_true rfl, Nat.le_of_ble_eq_true rfl⟩) hP hD hS hA [0, 1] [2, 3, 4, 5, 6, 7, 8, 9, 10] jj5.1 jj5.2.1 jj5.2.2.1 (N := 11) jj5.2.2.2.2 (by decide) jj5.2.2.2.1 (fun H locs hP hD hS => ?_)
    refine lv_if_ne (tgt := 27) hx hb d_Tr_parseSize_22 (by decide) (fun c6 => ?_) (fun c6 => ?_)
    · have h := it_f c6 h
      refine lv_aload_n hx hb d_Tr_parseSize_27 rfl (lv_at hl 1 rfl) ?_
      refine va_get (D := D) (ci := 3) (v := .ref q0_fresh) (C := "ConeForge$TextReader") (T := FTr) (N := 9) hx hb hts iTr hown hK hP 0 rfl rfl 1 (by decide) (hts _ (bgc bw167)) (fun _ h9 => h9) rfl d_Tr_parseSize_28 ?_
      refine lv_iload_n hx hb d_Tr_parseSize_31 rfl (lv_at hl 0 rfl) ?_
      refine lv_aload_n hx hb d_Tr_parseSize_32 rfl (lv_at hl 1 rfl) ?_
      refine va_get (D := D) (ci := 3) (v := .double u4.2.2.2.2.1) (C := "ConeForge$TextReader") (T := FTr) (N := 9) hx hb hts iTr hown hK hP 0 rfl rfl 6 (by decide) (hts _ (bgc bw172)) (fun _ h9 => h9) rfl d_Tr_parseSize_33 ?_
      refine lv_d2i hx hb d_Tr_parseSize_36 ?_
      obtain ⟨u7, hu7, h⟩ := bi_some h
      have jj8 := j_Tr_parseSize_37 T q0 q0_characters q0_fresh q0_fresh_a q0_fresh_b q0_fresh_c Rq0_fresh_a vq0_length u4.2.1 u4.2.2.1 u4.2.2.2.1 u4.2.2.2.2.1 u4.2.2.2.2.2.1 u4.2.2.2.2.2.2 vq0_characters vq0_fresh_rows vq0_fresh_variables vq0_fresh_a vq0_fresh_b vq0_fresh_c u7.1 u7.2.1 u7.2.2.1 u7.2.2.2.1 u7.2.2.2.2
      refine kV2 (wc := (w_Pb_clear T q0_fresh q0_fresh_a q0_fresh_b q0_fresh_c Rq0_fresh_a vq0_fresh_rows vq0_fresh_variables vq0_fresh_a vq0_fresh_b vq0_fresh_c)) (wc' := (w_Pb_clear T q0_fresh q0_fresh_a q0_fresh_b q0_fresh_c Rq0_fresh_a u7.1 u7.2.1 u7.2.2.1 u7.2.2.2.1 u7.2.2.2.2)) (w_Tr_parseSize T q0 q0_characters q0_fresh q0_fresh_a q0_fresh_b q0_fresh_c Rq0_fresh_a vq0_length u4.2.1 u4.2.2.1 u4.2.2.2.1 u4.2.2.2.2.1 u4.2.2.2.2.2.1 u4.2.2.2.2.2.2 vq0_characters u7.1 u7.2.1 u7.2.2.1 u7.2.2.2.1 u7.2.2.2.2) (runNV (As := [.int (FP.d2i u1.2.2.2.2.1), .int (FP.d2i u4.2.2.2.2.1)]) (rest := []) ((c_Pb_clear l D T q0_fresh q0_fresh_a q0_fresh_b q0_fresh_c Rq0_fresh_a vq0_fresh_rows vq0_fresh_variables vq0_fresh_a vq0_fresh_b vq0_fresh_c (FP.d2i u1.2.2.2.2.1) (FP.d2i u4.2.2.2.2.1) u7 hu7) H.size) ⟨hx, hb, hml, hown, hts⟩ (cwNV nw79 bw318 bw4 bw98 bw319 dd_Pb_clear hts hNW ⟨Nat.le_of_ble_eq_true rfl, Nat.le_of_ble_eq_true rfl⟩) (va_recv hK hP (ci := 0) (q0 := 2) rfl rfl) hNW hK hP hD [2, 3, 4, 5, 6, 7, 8, 9, 10] jj8.1 (by decide) rfl hl.1 rfl (lv_room (Nat.le_of_ble_eq_true rfl)) d_Tr_parseSize_37 ⟨Nat.le_of_ble_eq_true rfl, Nat.le_of_ble_eq_true rfl⟩) hP hD hS hA [2, 3, 4, 5, 6, 7, 8, 9, 10] [0, 1] jj8.1 jj8.2.1 jj8.2.2.1 (N := 11) jj8.2.2.2.2 (by decide) jj8.2.2.2.1 (fun H locs hP hD hS => ?_)
      refine lv_iconst (v := 1) hx hb d_Tr_parseSize_40 (by decide) ?_
      obtain ⟨g9, h⟩ := gd_some h
      exact rtZ hx hb hr hlocks g9 hQ (Option.some.inj h) hP hS d_Tr_parseSize_41 rfl rfl
    · have h := it_t c6 h
      refine lv_iconst (v := 0) hx hb d_Tr_parseSize_25 (by decide) ?_
      obtain ⟨g10, h⟩ := gd_some h
      exact rtZ hx hb hr hlocks g10 hQ (Option.some.inj h) hP hS d_Tr_parseSize_26 rfl rfl
  · have h := it_t c3 h
    refine lv_iconst (v := 0) hx hb d_Tr_parseSize_8 (by decide) ?_
    obtain ⟨g11, h⟩ := gd_some h
    exact rtZ hx hb hr hlocks g11 hQ (Option.some.inj h) hP hS d_Tr_parseSize_9 rfl rfl
