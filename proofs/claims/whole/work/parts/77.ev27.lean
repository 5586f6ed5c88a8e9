/-! what holds between the class and the reference -/
def IP (M N : Nat) (a : (Nat → Nat → UInt64)) (b c ma mb mc : (Nat → UInt64)) : Prop := Prob M N a b c ∧ (∀ i, i < 5 → ∀ j, j < 8 → ma (8 * i + j) = a i j ∧ (¬ (i < M ∧ j < N) → a i j = FP.dconst0)) ∧ (∀ i, i < M → mb i = b i) ∧ ∀ j, j < N → mc j = c j
def Pnt (M N : Nat) (x s y : (Nat → UInt64)) : Prop := (∀ j, j < N → Bc 1 1958 (x j) ∧ Bc 1 1958 (s j)) ∧ (∀ i, i < M → Bc 1 1900 (y i)) ∧ okA (fun j => FP.dmul (x j) (s j)) N FP.dconst0 ∧ nnan (sumR (fun j => FP.dmul (x j) (s j)) N FP.dconst0)
def IX (M N : Nat) (x s y mx ms my : (Nat → UInt64)) : Prop := Pnt M N x s y ∧ (∀ j, j < N → mx j = x j ∧ ms j = s j) ∧ ∀ i, i < M → my i = y i
theorem okn_0 : okn FP.dconst0 := ⟨bc_0 _ _, Or.inl (by decide +kernel)⟩
theorem lg_self (x : Int64) : lg_cmp x x = 0 := by
  unfold lg_cmp
  rw [if_neg (fun h => absurd h (Int64.lt_irrefl)), if_pos rfl]
theorem updL_at (f : Nat → Int64) (k : Nat) (v : Int64) : vp_updL f k v k = v := if_pos rfl
theorem cl0 : (0 : Int32).toNatClampNeg = 0 := rfl
theorem inb01 : inb 0 1 = true := by decide
theorem lt_nlt {a b : Int32} (h : a < b) : ¬ b ≤ a := by
  rw [Int32.le_iff_toInt_le]
  have := Int32.lt_iff_toInt_lt.mp h
  omega
theorem nlt_le {a b : Int32} (h : ¬ a < b) : b ≤ a := by
  rw [Int32.lt_iff_toInt_lt] at h
  rw [Int32.le_iff_toInt_le]
  omega
theorem nle_lt {a b : Int32} (h : ¬ a ≤ b) : b < a := by
  rw [Int32.le_iff_toInt_le] at h
  rw [Int32.lt_iff_toInt_lt]
  omega
theorem ge1_nn {x : Int32} (h : ¬ x < 1) : ¬ x < 0 := by
  rw [Int32.lt_iff_toInt_lt] at *
  have e1 : (1 : Int32).toInt = 1 := rfl
  have e0 : (0 : Int32).toInt = 0 := rfl
  omega
theorem e_mbegin {ma mb mc : (Nat → UInt64)} (vm vn vl vw ve vt va vs vo v2 vnm vnn : Int32) (vnu : UInt64) (vb x1 x2 : Int32) (h1 : ¬ x1 < 1) (h2 : ¬ 5 < x1) (h3 : ¬ x2 < 1) (h4 : ¬ 8 < x2) : s_M_begin vm vn vl vw ve vt va vs vo v2 vnm vnn vnu vb ma mb mc x1 x2 = some (x1 * x2, x1, x2, 0, 0, wr 40 (fun _ => FP.dconst0) ma, wr 5 (fun _ => FP.dconst0) mb, wr 8 (fun _ => FP.dconst0) mc) := by
  unfold s_M_begin
  rw [e_in, if_neg (by rintro (q | q) <;> contradiction), e_in, if_neg (by rintro (q | q) <;> contradiction)]
  simp only [Option.bind_some, i32_10, ↓reduceIte]
  unfold s_M_begin_J25
  rw [if_pos (by decide)]
  unfold s_M_begin_L49
  refine loop_b 40 (fun k => (wr k (fun _ => FP.dconst0) ma, nI k)) (wr 40 (fun _ => FP.dconst0) ma) (by rw [wr_0]; rfl) (by omega) (fun k hk => ?_) ?_ ?_
  · simp (disch := omega) only [↓ite_le_t, ↓ite_le_f, ↓ite_lt_t, ↓ite_lt_f, li5, li8, nI_leI, nI_ltI, nI_eqI, if_pos, if_neg, ↓reduceIte, inb_nI, gd_t, nI_clamp, Option.bind_some, nI_1, isb_0, isb_1, lit13, lit14, lit40, nI_mul, nI_add, s_M_begin_B49, wr_s (F := fun _ => FP.dconst0)]
  · simp (disch := omega) only [s_M_begin_B49, lit40, ↓reduceIte, Int32.le_refl]
  · unfold s_M_begin_L70
    refine loop_b 5 (fun k => (wr k (fun _ => FP.dconst0) mb, nI k)) (wr 5 (fun _ => FP.dconst0) mb) (by rw [wr_0]; rfl) (by omega) (fun k hk => ?_) ?_ ?_
    · simp (disch := omega) only [↓ite_le_t, ↓ite_le_f, ↓ite_lt_t, ↓ite_lt_f, li5, li8, nI_leI, nI_ltI, nI_eqI, if_pos, if_neg, ↓reduceIte, inb_nI, gd_t, nI_clamp, Option.bind_some, nI_1, isb_0, isb_1, lit13, lit14, lit40, nI_mul, nI_add, s_M_begin_B70, wr_s (F := fun _ => FP.dconst0)]
    · simp (disch := omega) only [↓ite_le_t, ↓ite_le_f, ↓ite_lt_t, ↓ite_lt_f, li5, li8, nI_leI, nI_ltI, nI_eqI, if_pos, if_neg, ↓reduceIte, inb_nI, gd_t, nI_clamp, Option.bind_some, nI_1, isb_0, isb_1, lit13, lit14, lit40, nI_mul, nI_add, s_M_begin_B70]
    · unfold s_M_begin_L90
      refine loop_b 8 (fun k => (wr k (fun _ => FP.dconst0) mc, nI k)) (wr 8 (fun _ => FP.dconst0) mc) (by rw [wr_0]; rfl) (by omega) (fun k hk => ?_) ?_ rfl
      · simp (disch := omega) only [↓ite_le_t, ↓ite_le_f, ↓ite_lt_t, ↓ite_lt_f, li5, li8, nI_leI, nI_ltI, nI_eqI, if_pos, if_neg, ↓reduceIte, inb_nI, gd_t, nI_clamp, Option.bind_some, nI_1, isb_0, isb_1, lit13, lit14, lit40, nI_mul, nI_add, s_M_begin_B90, wr_s (F := fun _ => FP.dconst0)]
      · simp (disch := omega) only [↓ite_le_t, ↓ite_le_f, ↓ite_lt_t, ↓ite_lt_f, li5, li8, nI_leI, nI_ltI, nI_eqI, if_pos, if_neg, ↓reduceIte, inb_nI, gd_t, nI_clamp, Option.bind_some, nI_1, isb_0, isb_1, lit13, lit14, lit40, nI_mul, nI_add, s_M_begin_B90]
theorem e_mbegin_bad {ma mb mc : (Nat → UInt64)} (vm vn vl vw ve vt va vs vo v2 vnm vnn : Int32) (vnu : UInt64) (vb x1 x2 : Int32) (h : x1 < 1 ∨ 5 < x1 ∨ x2 < 1 ∨ 8 < x2) : s_M_begin vm vn vl vw ve vt va vs vo v2 vnm vnn vnu vb ma mb mc x1 x2 = some (0, vm, vn, 1, vo, ma, mb, mc) := by
  have bad : s_M_begin_J24 vm vn vl vw ve vt va vs vo v2 vnm vnn vnu vb ma mb mc x1 x2 = some (0, vm, vn, 1, vo, ma, mb, mc) := by
    unfold s_M_begin_J24 s_M_begin_J25
    rw [if_neg (by decide)]
  unfold s_M_begin
  rw [e_in, e_in]
  simp only [Option.bind_some]
  by_cases c1 : x1 < 1 ∨ 5 < x1
  · rw [if_pos c1, if_pos rfl]
    exact bad
  · rw [if_neg c1, if_neg i32_10]
    have c2 : x2 < 1 ∨ 8 < x2 := by
      rcases h with q | q | q | q
      · exact absurd (Or.inl q) c1
      · exact absurd (Or.inr q) c1
      · exact Or.inl q
      · exact Or.inr q
    rw [if_pos c2, if_pos rfl]
    exact bad
theorem ip_clear {M N : Nat} {a : (Nat → Nat → UInt64)} {b c ma mb mc : (Nat → UInt64)} (h1 : 1 ≤ M) (h2 : M ≤ 5) (h3 : 1 ≤ N) (h4 : N ≤ 8) : IP M N (wr 5 (fun i => wr 8 (fun _ => FP.dconst0) (a i)) a) (wr 5 (fun _ => FP.dconst0) b) (wr 8 (fun _ => FP.dconst0) c) (wr 40 (fun _ => FP.dconst0) ma) (wr 5 (fun _ => FP.dconst0) mb) (wr 8 (fun _ => FP.dconst0) mc) := by
  have e1 : ∀ i, i < 5 → ∀ j, j < 8 → wr 5 (fun i => wr 8 (fun _ => FP.dconst0) (a i)) a i j = FP.dconst0 := fun i hi j hj => by rw [wr_in hi, wr_in hj]
  refine ⟨⟨h1, h2, h3, h4, fun i hi j hj => ?_, fun i hi => ?_, fun j hj => ?_⟩, fun i hi j hj => ⟨?_, fun _ => e1 i hi j hj⟩, fun i hi => ?_, fun j hj => ?_⟩
  · rw [e1 i (by omega) j (by omega)]; exact okn_0
  · rw [wr_in (by omega)]; exact okn_0
  · rw [wr_in (by omega)]; exact okn_0
  · rw [e1 i hi j hj, wr_in (by omega)]
  · rw [wr_in (by omega), wr_in (by omega)]
  · rw [wr_in (by omega), wr_in (by omega)]
def sIA : String := "java/lang/IllegalArgumentException"
theorem j_begin {M N : Nat} {a : (Nat → Nat → UInt64)} {b c ma mb mc : (Nat → UInt64)} {o : Nat → Int64} (sc pt ef fa : Int32) (vl vw ve vt va vs v2 vnm vnn : Int32) (vnu : UInt64) (vb : Int32) (x1 x2 : Int32) (hI : IP M N a b c ma mb mc) :
    Ok (s_L_begin 1 sc pt ef fa (nI M) (nI N) a b c o x1 x2) (fun u => Ok (s_M_begin (nI M) (nI N) vl vw ve vt va vs pt v2 vnm vnn vnu vb ma mb mc x1 x2) (fun w => w.2.2.2.1 = u.1 ∧ (u.1 = 0 → lg_cmp (u.2.2.2.2.2.2.2 0) w.1.toInt64 = 0) ∧ w.2.2.2.2.1 = u.2.1 ∧ ∃ M' N', u.2.2.1 = nI M' ∧ u.2.2.2.1 = nI N' ∧ w.2.1 = nI M' ∧ w.2.2.1 = nI N' ∧ IP M' N' u.2.2.2.2.1 u.2.2.2.2.2.1 u.2.2.2.2.2.2.1 w.2.2.2.2.2.1 w.2.2.2.2.2.2.1 w.2.2.2.2.2.2.2 ∧ (u.2.1 = 0 ∨ (u.2.1 = pt ∧ M' = M ∧ N' = N)))) := by
  have bad : (x1 < 1 ∨ 5 < x1 ∨ x2 < 1 ∨ 8 < x2) → Ok (some (1, pt, nI M, nI N, a, b, c, o) : Option (Int32 × Int32 × Int32 × Int32 × (Nat → Nat → UInt64) × (Nat → UInt64) × (Nat → UInt64) × (Nat → Int64))) (fun u => Ok (s_M_begin (nI M) (nI N) vl vw ve vt va vs pt v2 vnm vnn vnu vb ma mb mc x1 x2) (fun w => w.2.2.2.1 = u.1 ∧ (u.1 = 0 → lg_cmp (u.2.2.2.2.2.2.2 0) w.1.toInt64 = 0) ∧ w.2.2.2.2.1 = u.2.1 ∧ ∃ M' N', u.2.2.1 = nI M' ∧ u.2.2.2.1 = nI N' ∧ w.2.1 = nI M' ∧ w.2.2.1 = nI N' ∧ IP M' N' u.2.2.2.2.1 u.2.2.2.2.2.1 u.2.2.2.2.2.2.1 w.2.2.2.2.2.1 w.2.2.2.2.2.2.1 w.2.2.2.2.2.2.2 ∧ (u.2.1 = 0 ∨ (u.2.1 = pt ∧ M' = M ∧ N' = N)))) := by
    intro h
    refine Ok.mk (Ok.of (e_mbegin_bad _ _ _ _ _ _ _ _ _ _ _ _ _ _ _ _ h) ⟨rfl, fun q => absurd q i32_10, rfl, M, N, rfl, rfl, rfl, rfl, hI, Or.inr ⟨rfl, rfl, rfl⟩⟩)
  unfold s_L_begin s_C_begin
  by_cases h1 : x1 < 1
  · simp only [h1, ↓reduceIte, Option.bind_some, Sum.elim_inl]
    exact bad (Or.inl h1)
  · by_cases h2 : 5 < x1
    · simp only [h1, h2, ↓reduceIte, Option.bind_some, Sum.elim_inl]
      exact bad (Or.inr (Or.inl h2))
    · by_cases h3 : x2 < 1
      · simp only [h1, h2, h3, ↓reduceIte, Option.bind_some, Sum.elim_inl]
        exact bad (Or.inr (Or.inr (Or.inl h3)))
      · by_cases h4 : x2 ≤ 8
        · have h4' : ¬ 8 < x2 := fun q => lt_nlt q h4
          obtain ⟨M', hM, rfl⟩ := nI_of2 (x := x1) (M := 5) (n := 5) rfl (ge1_nn h1) (nlt_le h2)
          obtain ⟨N', hN, rfl⟩ := nI_of2 (x := x2) (M := 8) (n := 8) rfl (ge1_nn h3) h4
          have hM1 : 1 ≤ M' := by
            have : ¬ nI M' < nI 1 := h1
            rw [nI_ltI (by omega) (by omega)] at this
            omega
          have hN1 : 1 ≤ N' := by
            have : ¬ nI N' < nI 1 := h3
            rw [nI_ltI (by omega) (by omega)] at this
            omega
          simp only [h1, h2, h3, h4, ↓reduceIte, e_clear, Option.bind_some, isb_0, gd_t, Sum.elim_inr, inb01, cl0]
          refine Ok.mk (Ok.of (e_mbegin _ _ _ _ _ _ _ _ _ _ _ _ _ _ _ _ h1 h2 h3 h4') ⟨rfl, fun _ => ?_, rfl, M', N', rfl, rfl, rfl, rfl, ip_clear hM1 hM hN1 hN, Or.inl rfl⟩)
          dsimp only
          rw [updL_at]
          exact lg_self _
        · simp only [h1, h2, h3, h4, ↓reduceIte, Option.bind_some, Sum.elim_inl]
          exact bad (Or.inr (Or.inr (Or.inr (nle_lt h4))))
