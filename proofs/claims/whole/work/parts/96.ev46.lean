/-! the law -/
theorem lim_iff {L k : Nat} (hL : L ≤ 2560) (hk : k ≤ 600) : (Int32.ofNat L - 5 < nI (5 * k)) ↔ L < 5 * k + 5 := by
  have e : (Int32.ofNat L - 5).toInt = (L : Int) - 5 := by
    have h1 : (Int32.ofNat L).toInt = (L : Int) := nI_toInt (by omega)
    rw [Int32.toInt_sub, h1, show (5 : Int32).toInt = 5 from rfl]
    refine Int.bmod_eq_of_le ?_ ?_ <;> omega
  rw [Int32.lt_iff_toInt_lt, e, nI_toInt (by omega)]
  omega
theorem k_B28 {L k : Nat} {xs : Nat → Int32} {scalingOn : Int32} {ptTold : Int32} {latestEffort : Int32} {failedAt : Int32} {pb_rows : Int32} {pb_variables : Int32} {pb_a : Nat → Nat → UInt64} {pb_b : Nat → UInt64} {pb_c : Nat → UInt64} {scales_ofRows : Nat → UInt64} {scales_ofVariables : Nat → UInt64} {pt_x : Nat → UInt64} {pt_s : Nat → UInt64} {pt_y : Nat → UInt64} {reader_length : Int32} {reader_at : Int32} {reader_first : Int32} {reader_digits : Int32} {reader_value : UInt64} {reader_numbersRead : Int32} {reader_failedAt : Int32} {reader_characters : Nat → Int32} {reader_fresh_rows : Int32} {reader_fresh_variables : Int32} {reader_fresh_a : Nat → Nat → UInt64} {reader_fresh_b : Nat → UInt64} {reader_fresh_c : Nat → UInt64} {im_g : UInt64} {im_turnsBegun : Int32} {im_pb_rows : Int32} {im_pb_variables : Int32} {im_pb_a : Nat → Nat → UInt64} {im_pb_b : Nat → UInt64} {im_pb_c : Nat → UInt64} {im_pt_x : Nat → UInt64} {im_pt_s : Nat → UInt64} {im_pt_y : Nat → UInt64} {im_matrix_entries : Nat → Nat → UInt64} {im_matrix_lower : Nat → Nat → UInt64} {im_matrix_diagonal : Nat → UInt64} {im_matrix_middle : Nat → UInt64} {im_p : Nat → UInt64} {im_d : Nat → UInt64} {im_h : Nat → UInt64} {im_f : Nat → UInt64} {im_r : Nat → UInt64} {im_stepOfX : Nat → UInt64} {im_stepOfS : Nat → UInt64} {im_stepOfY : Nat → UInt64} {sm_rows : Int32} {sm_variables : Int32} {sm_columns : Int32} {sm_stepsDone : Int32} {sm_pb_rows : Int32} {sm_pb_variables : Int32} {sm_pb_a : Nat → Nat → UInt64} {sm_pb_b : Nat → UInt64} {sm_pb_c : Nat → UInt64} {sm_pt_x : Nat → UInt64} {sm_pt_s : Nat → UInt64} {sm_pt_y : Nat → UInt64} {sm_table : Nat → Nat → UInt64} {sm_right : Nat → UInt64} {sm_cost : Nat → UInt64} {sm_basic : Nat → Int32} {M_m : Int32} {M_n : Int32} {M_length : Int32} {M_where : Int32} {M_effort : Int32} {M_thrown : Int32} {M_at : Int32} {M_scaled : Int32} {M_solved : Int32} {M_second : Int32} {M_nm : Int32} {M_nn : Int32} {M_number : UInt64} {M_bad : Int32} {M_a : Nat → UInt64} {M_b : Nat → UInt64} {M_c : Nat → UInt64} {M_rowScale : Nat → UInt64} {M_columnScale : Nat → UInt64} {M_sa : Nat → UInt64} {M_sb : Nat → UInt64} {M_sc : Nat → UInt64} {M_x : Nat → UInt64} {M_s : Nat → UInt64} {M_y : Nat → UInt64} {M_p : Nat → UInt64} {M_d : Nat → UInt64} {M_h : Nat → UInt64} {M_f : Nat → UInt64} {M_mm : Nat → UInt64} {M_low : Nat → UInt64} {M_dd : Nat → UInt64} {M_r : Nat → UInt64} {M_big : Nat → UInt64} {M_dt : Nat → UInt64} {M_dx : Nat → UInt64} {M_t : Nat → UInt64} {M_cost : Nat → UInt64} {M_rowScaleNow : Nat → UInt64} {M_columnScaleNow : Nat → UInt64} {M_basic : Nat → Int32} {M_text : Nat → Int32} {M_turned : Nat → Int32} {M_na : Nat → UInt64} {M_nb : Nat → UInt64} {M_nc : Nat → UInt64} {o3 : Nat → Int64} {o4 : Nat → UInt64} {x5 : Int32} (hx : x5 = nI (5 * k)) (hL : L ≤ 2560) (hk6 : k ≤ 512) (h : LwI scalingOn ptTold latestEffort failedAt pb_rows pb_variables pb_a pb_b pb_c pt_x pt_s pt_y reader_length reader_characters M_m M_n M_length M_where M_effort M_scaled M_solved M_a M_b M_c M_x M_s M_y M_text) : Ok (s_L_law_B28 L xs scalingOn ptTold latestEffort failedAt pb_rows pb_variables pb_a pb_b pb_c scales_ofRows scales_ofVariables pt_x pt_s pt_y reader_length reader_at reader_first reader_digits reader_value reader_numbersRead reader_failedAt reader_characters reader_fresh_rows reader_fresh_variables reader_fresh_a reader_fresh_b reader_fresh_c im_g im_turnsBegun im_pb_rows im_pb_variables im_pb_a im_pb_b im_pb_c im_pt_x im_pt_s im_pt_y im_matrix_entries im_matrix_lower im_matrix_diagonal im_matrix_middle im_p im_d im_h im_f im_r im_stepOfX im_stepOfS im_stepOfY sm_rows sm_variables sm_columns sm_stepsDone sm_pb_rows sm_pb_variables sm_pb_a sm_pb_b sm_pb_c sm_pt_x sm_pt_s sm_pt_y sm_table sm_right sm_cost sm_basic M_m M_n M_length M_where M_effort M_thrown M_at M_scaled M_solved M_second M_nm M_nn M_number M_bad M_a M_b M_c M_rowScale M_columnScale M_sa M_sb M_sc M_x M_s M_y M_p M_d M_h M_f M_mm M_low M_dd M_r M_big M_dt M_dx M_t M_cost M_rowScaleNow M_columnScaleNow M_basic M_text M_turned M_na M_nb M_nc o3 o4 x5) (fun r => Sum.elim (fun st => k < 512 ∧ LwS (k + 1) st) (fun v => v = 1) r) := by

  unfold s_L_law_B28
  by_cases hl : L < 5 * k + 5
  · rw [if_pos (by rw [hx]; exact (lim_iff hL (by omega)).mpr hl)]
    exact Ok.mk rfl
  · rw [if_neg (by rw [hx]; exact fun q => hl ((lim_iff hL (by omega)).mp q))]
    have hk : 5 * k + 4 < L := by omega
    have T : ∀ {o : Option (LwT ⊕ Int32)}, Ok o (LwQ k) → Ok o (fun r => Sum.elim (fun st => k < 512 ∧ LwS (k + 1) st) (fun v => v = 1) r) := fun ho => ho.imp fun r hr => by
      cases r with
      | inl st => exact ⟨by omega, hr⟩
      | inr v => exact hr
    refine Ok.gd (by rw [hx]; exact (inbk hk hL).1) ?_
    by_cases c0 : ((xs x5.toNatClampNeg) &&& 15) = 0
    · rw [if_pos c0]
      exact T (k_116 hx hk hL h)
    rw [if_neg c0]
    by_cases c1 : ((xs x5.toNatClampNeg) &&& 15) = 1
    · rw [if_pos c1]
      exact T (k_184 hx hk hL h)
    rw [if_neg c1]
    by_cases c2 : ((xs x5.toNatClampNeg) &&& 15) = 2
    · rw [if_pos c2]
      exact T (k_307 hx hk hL h)
    rw [if_neg c2]
    by_cases c3 : ((xs x5.toNatClampNeg) &&& 15) = 3
    · rw [if_pos c3]
      exact T (k_348 hx hk hL h)
    rw [if_neg c3]
    by_cases c4 : ((xs x5.toNatClampNeg) &&& 15) = 4
    · rw [if_pos c4]
      exact T (k_436 hx hk hL h)
    rw [if_neg c4]
    by_cases c5 : ((xs x5.toNatClampNeg) &&& 15) = 5
    · rw [if_pos c5]
      exact T (k_480 hx hk hL h)
    rw [if_neg c5]
    by_cases c6 : ((xs x5.toNatClampNeg) &&& 15) = 6
    · rw [if_pos c6]
      exact T (k_493 hx hk hL h)
    rw [if_neg c6]
    by_cases c7 : ((xs x5.toNatClampNeg) &&& 15) = 7
    · rw [if_pos c7]
      exact T (k_549 hx hk hL h)
    rw [if_neg c7]
    by_cases c8 : ((xs x5.toNatClampNeg) &&& 15) = 8
    · rw [if_pos c8]
      exact T (k_562 hx hk hL h)
    rw [if_neg c8]
    by_cases c9 : ((xs x5.toNatClampNeg) &&& 15) = 9
    · rw [if_pos c9]
      exact T (k_651 hx hk hL h)
    rw [if_neg c9]
    by_cases c10 : ((xs x5.toNatClampNeg) &&& 15) = 10
    · rw [if_pos c10]
      exact T (k_664 hx hk hL h)
    rw [if_neg c10]
    by_cases c11 : ((xs x5.toNatClampNeg) &&& 15) = 11
    · rw [if_pos c11]
      exact T (k_741 hx hk hL h)
    rw [if_neg c11]
    by_cases c12 : ((xs x5.toNatClampNeg) &&& 15) = 12
    · rw [if_pos c12]
      exact T (k_826 hx hk hL h)
    rw [if_neg c12]
    by_cases c13 : ((xs x5.toNatClampNeg) &&& 15) = 13
    · rw [if_pos c13]
      exact T (k_882 hx hk hL h)
    rw [if_neg c13]
    exact T (k_971 hx hk hL h)
theorem z_0 : (0 : UInt64) = FP.dconst0 := rfl
theorem li_start : IP 1 1 (fun _ _ => 0) (fun _ => 0) (fun _ => 0) (fun _ => 0) (fun _ => 0) (fun _ => 0) := by
  refine ⟨⟨by omega, by omega, by omega, by omega, fun i hi j hj => okn_0, fun i hi => okn_0, fun j hj => okn_0⟩, fun i hi j hj => ⟨rfl, fun _ => rfl⟩, fun i hi => rfl, fun j hj => rfl⟩
theorem law_true (L : Nat) (xs : Nat → Int32) (hL : L ≤ 2560) : s_law L xs = some 1 := by
  unfold s_law s_L_law_loop
  refine Ok.eq (Ok.loop (fun k st => LwS k st) 512 ?_ 512 0 600 _ (by omega) (by omega) (LwS.mk rfl ⟨1, 1, 0, rfl, rfl, rfl, rfl, li_start, rfl, Or.inr rfl, rfl, Or.inl rfl, rfl, rfl, rfl, rfl, by omega, fun p hp => absurd hp (by omega), fun q => absurd q i32_m2⟩))
  intro k st hk h
  exact k_B28 h.1 hL hk h.2
