/-! numbers that may stand in a problem -/
theorem one64_eq : (FP.Core.one64 : Int) = ((2 ^ 1074 : Nat) : Int) := by decide +kernel
theorem zv_i2d (k : Int32) : zv (FP.i2d k) = k.toInt * ((2 ^ 1074 : Nat) : Int) := by
  rw [← one64_eq]
  exact FP.Core.DInt_zval (FP.Core.i2d_int k)
theorem i2d_bc (k : Int32) : Bc 1 1105 (FP.i2d k) := by
  refine ⟨FP.Core.i2d_fin k, ?_⟩
  have h := congrArg Int.natAbs (zv_i2d k)
  rw [zv_mz, Int.natAbs_mul, Int.natAbs_natCast] at h
  rw [h, Nat.one_mul, show (1105 : Nat) = 31 + 1074 from rfl, Nat.pow_add]
  refine Nat.mul_le_mul_right _ ?_
  have h1 := k.toInt_lt
  have h2 := k.le_toInt
  omega
theorem v8_bc (k : Int32) : Bc 1 1105 (FP.dmul (FP.i2d k) 4593671619917905920) := mul_bc (i2d_bc k) (show Bc 1 1074 4593671619917905920 from ⟨fin_of (by decide +kernel), by decide +kernel⟩) (by decide) (by decide)
abbrev c1000 : UInt64 := 4652007308841189376
abbrev cm1000 : UInt64 := 13875379345695965184
abbrev c6 : UInt64 := 4517329193108106637
abbrev cm6 : UInt64 := 13740701229962882445
def alw (v : UInt64) : Prop := ¬ zv v < zv cm1000 ∧ ¬ zv c1000 < zv v ∧ (zv v = 0 ∨ ¬ zv (dabs v) < zv c6)
theorem nn_1000 : nnan c1000 ∧ nnan cm1000 ∧ nnan c6 ∧ nnan cm6 := by
  unfold nnan
  decide +kernel
theorem z_1000 : zv c1000 ≤ (2 : Int) ^ 1084 ∧ zv cm1000 = -zv c1000 ∧ (2 : Int) ^ 1054 ≤ zv c6 ∧ zv cm6 = -zv c6 := by decide +kernel
theorem e_isAllowed {v : UInt64} (h : nnan v) : Ok (s_C_isAllowed v) (fun r => (r = 1 ∧ alw v) ∨ (r = 0 ∧ ¬ alw v)) := by
  obtain ⟨n1, n2, n3, n4⟩ := nn_1000
  unfold s_C_isAllowed s_C_isAllowed_J37 s_C_isAllowed_J33 alw
  simp only [cv_lt h n2, cv_gt h n1, cv_eq h nn_0, zv_0, e_absolute h, Option.bind_some, cv_lt (nn_abs h) n3, isb_0, isb_1, gd_t]
  by_cases c1 : zv v < zv cm1000
  · rw [if_pos c1]
    exact Ok.mk (Or.inr ⟨rfl, fun q => q.1 c1⟩)
  · rw [if_neg c1]
    by_cases c2 : zv c1000 < zv v
    · rw [if_pos c2]
      exact Ok.mk (Or.inr ⟨rfl, fun q => q.2.1 c2⟩)
    · rw [if_neg c2]
      by_cases c3 : zv v = 0
      · rw [if_pos c3]
        exact Ok.mk (Or.inl ⟨rfl, c1, c2, Or.inl c3⟩)
      · rw [if_neg c3]
        by_cases c4 : zv (dabs v) < zv c6
        · rw [if_pos c4]
          exact Ok.mk (Or.inr ⟨rfl, fun q => q.2.2.elim c3 (fun q => q c4)⟩)
        · rw [if_neg c4]
          exact Ok.mk (Or.inl ⟨rfl, c1, c2, Or.inr c4⟩)
theorem alw_okn {v : UInt64} (hf : FP.Core.DFin v) (h : alw v) : okn v := by
  obtain ⟨z1, z2, z3, z4⟩ := z_1000
  obtain ⟨h1, h2, h3⟩ := h
  have hm : (mz v : Int) ≤ (2 : Int) ^ 1084 := by
    rw [z2] at h1
    have e := zv_mz v
    have q1 := Int.not_lt.mp h1
    have q2 := Int.not_lt.mp h2
    generalize zv v = Z at *
    generalize mz v = N at *
    generalize zv c1000 = C at *
    generalize (2 : Int) ^ 1084 = E at *
    omega
  refine ⟨⟨hf, ?_⟩, ?_⟩
  · rw [Nat.one_mul]
    exact_mod_cast hm
  · rcases h3 with q | q
    · left
      have e := zv_mz v
      rw [q] at e
      exact e.symm
    · right
      have q1 := Int.le_trans z3 (Int.not_lt.mp q)
      rw [zv_abs, zv_mz] at q1
      exact_mod_cast q1
theorem zv_abs_lt {v : UInt64} : zv (dabs v) < zv c6 ↔ zv v < zv c6 ∧ zv cm6 < zv v := by
  rw [zv_abs, z_1000.2.2.2]
  generalize zv v = Z
  generalize zv c6 = C
  omega
/-! set -/
def sIO : String := "java/lang/IndexOutOfBoundsException"
theorem e_reqIndex (x : Int32) (N : Nat) : s_C_requireIndex x (nI N) = some (if 0 ≤ x ∧ x < nI N then Sum.inr () else Sum.inl "java/lang/IndexOutOfBoundsException") := by
  unfold s_C_requireIndex
  by_cases h1 : x < 0
  · rw [if_pos h1, if_neg (fun q => i32_nle q.1 h1)]
  · rw [if_neg h1]
    by_cases h2 : x < nI N
    · rw [if_pos h2, if_pos ⟨nlt_le h1, h2⟩]
    · rw [if_neg h2, if_neg (fun q => h2 q.2)]
theorem pre_lt {x : Int32} {N : Nat} (hN : 1 ≤ N) (hb : N < 2 ^ 31) : (x < 0 ∨ nI N - 1 < x) ↔ ¬ (0 ≤ x ∧ x < nI N) := by
  obtain ⟨k, rfl⟩ : ∃ k, N = k + 1 := ⟨N - 1, by omega⟩
  rw [nI_pred]
  have e1 := nI_toInt (n := k) (by omega)
  have e2 := nI_toInt (n := k + 1) hb
  rw [Int32.lt_iff_toInt_lt, Int32.lt_iff_toInt_lt, Int32.lt_iff_toInt_lt, Int32.le_iff_toInt_le, e1, e2]
  have e0 : (0 : Int32).toInt = 0 := rfl
  omega
theorem e_minx {x : Int32} {N : Nat} (hN : 1 ≤ N) (hb : N < 2 ^ 31) : s_M_in x 0 (nI N - 1) = some (if 0 ≤ x ∧ x < nI N then 1 else 0) := by
  rw [e_in]
  by_cases h : 0 ≤ x ∧ x < nI N
  · rw [if_neg (fun q => (pre_lt hN hb).mp q h), if_pos h]
  · rw [if_pos ((pre_lt hN hb).mpr h), if_neg h]
theorem idx {x : Int32} {N : Nat} (hb : N < 2 ^ 31) (h : 0 ≤ x ∧ x < nI N) : ∃ k, k < N ∧ x = nI k := by
  obtain ⟨k, hk, rfl⟩ := nI_of (fun q => i32_nle h.1 q)
  exact ⟨k, (nI_ltI hk hb).mp h.2, rfl⟩
theorem dcmp_self {v : UInt64} (h : nnan v) : Op.cmpValue (FP.dcmp v v) .l = 0 := (cv_eq h h).mpr rfl
def SetPost (M N : Nat) (pt : Int32) (u : Int32 × Int32 × (Nat → Nat → UInt64) × (Nat → UInt64) × (Nat → UInt64) × (Nat → UInt64)) (w : UInt64 × Int32 × Int32 × (Nat → UInt64) × (Nat → UInt64) × (Nat → UInt64)) : Prop :=
  w.2.1 = u.1 ∧ (u.1 = 0 → Op.cmpValue (FP.dcmp (u.2.2.2.2.2 0) w.1) .l = 0) ∧ w.2.2.1 = u.2.1 ∧ IP M N u.2.2.1 u.2.2.2.1 u.2.2.2.2.1 w.2.2.2.1 w.2.2.2.2.1 w.2.2.2.2.2 ∧ (u.2.1 = 0 ∨ u.2.1 = pt)
theorem ip_a {M N i j : Nat} {a : (Nat → Nat → UInt64)} {b c ma mb mc : (Nat → UInt64)} {v : UInt64} (h : IP M N a b c ma mb mc) (hi : i < M) (hj : j < N) (hv : okn v) : IP M N (gset a i (vf_upd (a i) j v)) b c (vf_upd ma (8 * i + j) v) mb mc := by
  obtain ⟨⟨h1, h2, h3, h4, h5, h6, h7⟩, h8, h9, h10⟩ := h
  have e : ∀ i' j', gset a i (vf_upd (a i) j v) i' j' = if i' = i ∧ j' = j then v else a i' j' := fun i' j' => by
    unfold gset vf_upd
    by_cases c1 : i' = i
    · subst c1
      by_cases c2 : j' = j
      · subst c2; simp
      · simp [c2]
    · simp [c1]
  refine ⟨⟨h1, h2, h3, h4, fun i' hi' j' hj' => ?_, h6, h7⟩, fun i' hi' j' hj' => ⟨?_, fun q => ?_⟩, h9, h10⟩
  · rw [e]
    split
    · exact hv
    · exact h5 i' hi' j' hj'
  · rw [e]
    by_cases c1 : i' = i ∧ j' = j
    · rw [if_pos c1, c1.1, c1.2]
      exact upd_at _ _ _
    · rw [if_neg c1]
      exact (upd_ne (by omega)).trans (h8 i' hi' j' hj').1
  · rw [e, if_neg (fun c => q ⟨by omega, by omega⟩)]
    exact (h8 i' hi' j' hj').2 q
theorem ip_b {M N i : Nat} {a : (Nat → Nat → UInt64)} {b c ma mb mc : (Nat → UInt64)} {v : UInt64} (h : IP M N a b c ma mb mc) (hi : i < M) (hv : okn v) : IP M N a (vf_upd b i v) c ma (vf_upd mb i v) mc := by
  obtain ⟨⟨h1, h2, h3, h4, h5, h6, h7⟩, h8, h9, h10⟩ := h
  refine ⟨⟨h1, h2, h3, h4, h5, fun i' hi' => ?_, h7⟩, h8, fun i' hi' => ?_, h10⟩
  · unfold vf_upd
    split
    · exact hv
    · exact h6 i' hi'
  · unfold vf_upd
    split
    · rfl
    · exact h9 i' hi'
theorem ip_c {M N j : Nat} {a : (Nat → Nat → UInt64)} {b c ma mb mc : (Nat → UInt64)} {v : UInt64} (h : IP M N a b c ma mb mc) (hj : j < N) (hv : okn v) : IP M N a b (vf_upd c j v) ma mb (vf_upd mc j v) := by
  obtain ⟨⟨h1, h2, h3, h4, h5, h6, h7⟩, h8, h9, h10⟩ := h
  refine ⟨⟨h1, h2, h3, h4, h5, h6, fun i' hi' => ?_⟩, h8, h9, fun i' hi' => ?_⟩
  · unfold vf_upd
    split
    · exact hv
    · exact h7 i' hi'
  · unfold vf_upd
    split
    · rfl
    · exact h10 i' hi'
theorem i32_set : ¬ (0 : Int32) = 2 ∧ ¬ (0 : Int32) = 1 ∧ ¬ (1 : Int32) = 2 ∧ ¬ (2 : Int32) ≤ 0 ∧ ¬ (2 : Int32) ≤ 1 ∧ ¬ (2 : Int32) = 1 ∧ ¬ (2 : Int32) = 0 ∧ (2 : Int32) ≤ 2 ∧ (1 : Int32) ≤ 2 ∧ (0 : Int32) ≤ 2 := by decide
theorem what3 {x : Int32} (h1 : ¬ x < 0) (h2 : x ≤ 2) : x = 0 ∨ x = 1 ∨ x = 2 := by
  obtain ⟨k, hk, rfl⟩ := nI_of2 (x := x) (M := 2) (n := 2) rfl h1 h2
  match k, hk with
  | 0, _ => exact Or.inl rfl
  | 1, _ => exact Or.inr (Or.inl rfl)
  | 2, _ => exact Or.inr (Or.inr rfl)
theorem j_set {M N : Nat} {a : (Nat → Nat → UInt64)} {b c ma mb mc o : (Nat → UInt64)} (sc pt ef fa : Int32) (vl vw ve vt va vs v2 vnm vnn : Int32) (vnu : UInt64) (vb : Int32) (x1 x2 x3 : Int32) (v : UInt64) (hv : FP.Core.DFin v) (hI : IP M N a b c ma mb mc) :
    Ok (s_L_set 1 sc pt ef fa (nI M) (nI N) a b c o x1 x2 x3 v) (fun u => Ok (s_M_set (nI M) (nI N) vl vw ve vt va vs pt v2 vnm vnn vnu vb ma mb mc x1 x2 x3 v) (fun w => SetPost M N pt u w)) := by
  have hP := hI.1
  obtain ⟨hM1, hM5, hN1, hN8, hAo, hBo, hCo⟩ := hP
  obtain ⟨n1, n2, n3, n4⟩ := nn_1000
  have nv := DFin.nn hv
  have bad : s_M_set_J53 (nI M) (nI N) vl vw ve vt va vs pt v2 vnm vnn vnu vb ma mb mc x1 x2 x3 v = some (FP.dconst0, 1, pt, ma, mb, mc) := by
    unfold s_M_set_J53 s_M_set_J100
    rw [if_neg (by decide)]
  have badi : s_M_set_J95 (nI M) (nI N) vl vw ve vt va vs pt v2 vnm vnn vnu vb ma mb mc x1 x2 x3 v = some (FP.dconst0, 2, pt, ma, mb, mc) := by
    unfold s_M_set_J95 s_M_set_J100
    rw [if_neg (by decide)]
  have pb : Ok (some (1, pt, a, b, c, o) : Option (Int32 × Int32 × (Nat → Nat → UInt64) × (Nat → UInt64) × (Nat → UInt64) × (Nat → UInt64))) (fun u => Ok (some (FP.dconst0, 1, pt, ma, mb, mc) : Option (UInt64 × Int32 × Int32 × (Nat → UInt64) × (Nat → UInt64) × (Nat → UInt64))) (fun w => SetPost M N pt u w)) := Ok.mk (Ok.mk ⟨rfl, fun q => absurd q i32_10, rfl, hI, Or.inr rfl⟩)
  have pi : Ok (some (2, pt, a, b, c, o) : Option (Int32 × Int32 × (Nat → Nat → UInt64) × (Nat → UInt64) × (Nat → UInt64) × (Nat → UInt64))) (fun u => Ok (some (FP.dconst0, 2, pt, ma, mb, mc) : Option (UInt64 × Int32 × Int32 × (Nat → UInt64) × (Nat → UInt64) × (Nat → UInt64))) (fun w => SetPost M N pt u w)) := Ok.mk (Ok.mk ⟨rfl, fun q => absurd q i32_set.2.2.2.2.2.2.1, rfl, hI, Or.inr rfl⟩)
  unfold s_L_set s_C_set s_M_set
  rw [e_in]
  by_cases h1 : x1 < 0
  · simp only [h1, ↓reduceIte, Option.bind_some, Sum.elim_inl, true_or, bad]
    exact pb
  · by_cases h2 : x1 ≤ 2
    · have h2' : ¬ 2 < x1 := fun q => lt_nlt q h2
      obtain ⟨r, er, hr⟩ := e_isAllowed nv
      have em : ¬ (x1 < 0 ∨ 2 < x1) := by rintro (q | q) <;> contradiction
      rcases hr with ⟨rfl, hal⟩ | ⟨rfl, hal⟩
      · have hok := alw_okn hv hal
        have mid : (if 0 < (Op.cmpValue (FP.dcmp v 4652007308841189376) .g) then (s_M_set_J53 (nI M) (nI N) vl vw ve vt va vs pt v2 vnm vnn vnu vb ma mb mc x1 x2 x3 v) else (if (Op.cmpValue (FP.dcmp v 13875379345695965184) .l) < 0 then (s_M_set_J53 (nI M) (nI N) vl vw ve vt va vs pt v2 vnm vnn vnu vb ma mb mc x1 x2 x3 v) else (if (Op.cmpValue (FP.dcmp v FP.dconst0) .l) = 0 then (s_M_set_J57 (nI M) (nI N) vl vw ve vt va vs pt v2 vnm vnn vnu vb ma mb mc x1 x2 x3 v) else (if 0 ≤ (Op.cmpValue (FP.dcmp v 4517329193108106637) .g) then (s_M_set_J57 (nI M) (nI N) vl vw ve vt va vs pt v2 vnm vnn vnu vb ma mb mc x1 x2 x3 v) else (if (Op.cmpValue (FP.dcmp v 13740701229962882445) .l) ≤ 0 then (s_M_set_J57 (nI M) (nI N) vl vw ve vt va vs pt v2 vnm vnn vnu vb ma mb mc x1 x2 x3 v) else (s_M_set_J53 (nI M) (nI N) vl vw ve vt va vs pt v2 vnm vnn vnu vb ma mb mc x1 x2 x3 v)))))) = s_M_set_J57 (nI M) (nI N) vl vw ve vt va vs pt v2 vnm vnn vnu vb ma mb mc x1 x2 x3 v := by
          simp only [cv_gt nv n1, cv_lt nv n2, cv_eq nv nn_0, zv_0, cv_ge nv n3, cv_le nv n4]
          obtain ⟨a1, a2, a3⟩ := hal
          rw [if_neg a2, if_neg a1]
          by_cases c3 : zv v = 0
          · rw [if_pos c3]
          · rw [if_neg c3]
            by_cases c4 : zv c6 ≤ zv v
            · rw [if_pos c4]
            · rw [if_neg c4]
              rcases a3 with q | q
              · exact absurd q c3
              · rw [zv_abs_lt] at q
                rw [if_pos (Int.not_lt.mp fun q2 => q ⟨Int.not_le.mp c4, q2⟩)]
        simp only [h1, h2, em, ↓reduceIte, Option.bind_some, er, i32_10]
        rw [mid]
        rcases what3 h1 h2 with rfl | rfl | rfl
        · simp only [i32_set.1, i32_set.2.1, ↓reduceIte, s_C_set_J53, s_C_set_J69, s_M_set_J57, s_M_set_J76, i32_set.2.2.2.1, e_reqIndex, e_minx hM1 (by omega), e_minx hN1 (by omega), Option.bind_some]
          by_cases c1 : 0 ≤ x2 ∧ x2 < nI M
          · obtain ⟨i, hi, rfl⟩ := idx (by omega) c1
            simp only [c1, and_self, ↓reduceIte, Sum.elim_inr, i32_10]
            by_cases c2 : 0 ≤ x3 ∧ x3 < nI N
            · obtain ⟨j, hj, rfl⟩ := idx (by omega) c2
              have eA := (hI.2.1 i (by omega) j (by omega)).1
              simp only [c2, and_self, ↓reduceIte, Sum.elim_inr, i32_10]
              simp (disch := omega) only [↓ite_le_t, ↓ite_le_f, ↓ite_lt_t, ↓ite_lt_f, li5, li8, nI_leI, nI_ltI, nI_eqI, if_pos, if_neg, ↓reduceIte, inb_nI, gd_t, nI_clamp, Option.bind_some, nI_1, isb_0, isb_1, lit13, lit14, lit40, nI_mul, nI_add, s_C_exchange, Sum.elim_inr, s_M_set_J99, s_M_set_J100, s_M_set_J155, Int32.le_refl, eA, inb01]
              refine Ok.mk (Ok.mk ⟨rfl, fun _ => ?_, rfl, ip_a hI hi hj hok, Or.inl rfl⟩)
              dsimp only
              rw [cl0, upd_at]
              exact dcmp_self (hAo i hi j hj).1.nn
            · simp only [c2, ↓reduceIte, Sum.elim_inl, badi]
              exact pi
          · simp only [c1, ↓reduceIte, Sum.elim_inl, badi]
            exact pi
        · simp only [i32_set.2.2.1, i32_10, ↓reduceIte, s_C_set_J53, s_C_set_J69, s_M_set_J57, s_M_set_J76, i32_set.2.2.2.2.1, e_reqIndex, e_minx hM1 (by omega), Option.bind_some]
          by_cases c1 : 0 ≤ x2 ∧ x2 < nI M
          · obtain ⟨i, hi, rfl⟩ := idx (by omega) c1
            have eB := hI.2.2.1 i hi
            simp only [c1, and_self, ↓reduceIte, Sum.elim_inr, i32_10]
            simp (disch := omega) only [↓ite_le_t, ↓ite_le_f, ↓ite_lt_t, ↓ite_lt_f, li5, li8, nI_leI, nI_ltI, nI_eqI, if_pos, if_neg, ↓reduceIte, inb_nI, gd_t, nI_clamp, Option.bind_some, nI_1, isb_0, isb_1, lit13, lit14, lit40, nI_mul, nI_add, s_C_exchange, Sum.elim_inr, s_M_set_J99, s_M_set_J100, s_M_set_J155, Int32.le_refl, eB, inb01, i32_10]
            refine Ok.mk (Ok.mk ⟨rfl, fun _ => ?_, rfl, ip_b hI hi hok, Or.inl rfl⟩)
            dsimp only
            rw [cl0, upd_at]
            exact dcmp_self (hBo i hi).1.nn
          · simp only [c1, ↓reduceIte, Sum.elim_inl, badi]
            exact pi
        · simp only [↓reduceIte, s_C_set_J53, s_C_set_J69, s_M_set_J57, s_M_set_J76, i32_set.2.2.2.2.2.1, i32_set.2.2.2.2.2.2.1, i32_set.2.2.2.2.2.2.2.1, e_reqIndex, e_minx hN1 (by omega), Option.bind_some]
          by_cases c2 : 0 ≤ x3 ∧ x3 < nI N
          · obtain ⟨j, hj, rfl⟩ := idx (by omega) c2
            have eC := hI.2.2.2 j hj
            simp only [c2, and_self, ↓reduceIte, Sum.elim_inr, i32_10]
            simp (disch := omega) only [↓ite_le_t, ↓ite_le_f, ↓ite_lt_t, ↓ite_lt_f, li5, li8, nI_leI, nI_ltI, nI_eqI, if_pos, if_neg, ↓reduceIte, inb_nI, gd_t, nI_clamp, Option.bind_some, nI_1, isb_0, isb_1, lit13, lit14, lit40, nI_mul, nI_add, s_C_exchange, Sum.elim_inr, s_M_set_J99, s_M_set_J100, s_M_set_J155, Int32.le_refl, eC, inb01, i32_set.2.2.2.2.2.1, i32_set.2.2.2.2.2.2.1]
            refine Ok.mk (Ok.mk ⟨rfl, fun _ => ?_, rfl, ip_c hI hj hok, Or.inl rfl⟩)
            dsimp only
            rw [cl0, upd_at]
            exact dcmp_self (hCo j hj).1.nn
          · simp only [c2, ↓reduceIte, Sum.elim_inl, badi]
            exact pi
      · simp only [h1, h2, h2', or_self, false_or, ↓reduceIte, Option.bind_some, er, Sum.elim_inl, i32_10]
        have mid : (if 0 < (Op.cmpValue (FP.dcmp v 4652007308841189376) .g) then (s_M_set_J53 (nI M) (nI N) vl vw ve vt va vs pt v2 vnm vnn vnu vb ma mb mc x1 x2 x3 v) else (if (Op.cmpValue (FP.dcmp v 13875379345695965184) .l) < 0 then (s_M_set_J53 (nI M) (nI N) vl vw ve vt va vs pt v2 vnm vnn vnu vb ma mb mc x1 x2 x3 v) else (if (Op.cmpValue (FP.dcmp v FP.dconst0) .l) = 0 then (s_M_set_J57 (nI M) (nI N) vl vw ve vt va vs pt v2 vnm vnn vnu vb ma mb mc x1 x2 x3 v) else (if 0 ≤ (Op.cmpValue (FP.dcmp v 4517329193108106637) .g) then (s_M_set_J57 (nI M) (nI N) vl vw ve vt va vs pt v2 vnm vnn vnu vb ma mb mc x1 x2 x3 v) else (if (Op.cmpValue (FP.dcmp v 13740701229962882445) .l) ≤ 0 then (s_M_set_J57 (nI M) (nI N) vl vw ve vt va vs pt v2 vnm vnn vnu vb ma mb mc x1 x2 x3 v) else (s_M_set_J53 (nI M) (nI N) vl vw ve vt va vs pt v2 vnm vnn vnu vb ma mb mc x1 x2 x3 v)))))) = some (FP.dconst0, 1, pt, ma, mb, mc) := by
          simp only [cv_gt nv n1, cv_lt nv n2, cv_eq nv nn_0, zv_0, cv_ge nv n3, cv_le nv n4, bad]
          by_cases c2 : zv c1000 < zv v
          · rw [if_pos c2]
          · rw [if_neg c2]
            by_cases c1 : zv v < zv cm1000
            · rw [if_pos c1]
            · rw [if_neg c1]
              have q : ¬ (zv v = 0 ∨ ¬ zv (dabs v) < zv c6) := fun q => hal ⟨c1, c2, q⟩
              have q1 : ¬ zv v = 0 := fun h => q (Or.inl h)
              have q2 : zv (dabs v) < zv c6 := Classical.byContradiction fun h => q (Or.inr h)
              rw [zv_abs_lt] at q2
              rw [if_neg q1, if_neg (Int.not_le.mpr q2.1), if_neg (Int.not_le.mpr q2.2)]
        rw [mid]
        exact pb
    · have h2' : 2 < x1 := nle_lt h2
      simp only [h1, h2, h2', ↓reduceIte, Option.bind_some, Sum.elim_inl, or_true, bad]
      exact pb
