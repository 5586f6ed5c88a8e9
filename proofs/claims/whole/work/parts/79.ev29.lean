/-! what is told of a point -/
def wB (b y : (Nat → UInt64)) (M : Nat) : UInt64 := sumR (fun i => FP.dmul (b i) (y i)) M FP.dconst0
def pcol (a : (Nat → Nat → UInt64)) (y : (Nat → UInt64)) (M j : Nat) : UInt64 := sumR (fun i => FP.dmul (a i j) (y i)) M FP.dconst0
def prow (a : (Nat → Nat → UInt64)) (x : (Nat → UInt64)) (N i : Nat) : UInt64 := sumR (fun j => FP.dmul (a i j) (x j)) N FP.dconst0
def PtOk (M N : Nat) (a : (Nat → Nat → UInt64)) (b c x s y : (Nat → UInt64)) : Prop :=
  (∀ i, i < M → okS (fun j => FP.dmul (a i j) (x j)) N (b i) ∧ nnan (tP a b x N i)) ∧
  (∀ j, j < N → okS (fun i => FP.dmul (a i j) (y i)) M (c j) ∧ nnan (tDc a c y M j) ∧ nnan (tD a c y s M j)) ∧
  (okA (fun j => FP.dmul (c j) (x j)) N FP.dconst0 ∧ nnan (vC c x N)) ∧ (okA (fun i => FP.dmul (b i) (y i)) M FP.dconst0 ∧ nnan (wB b y M)) ∧
  (∀ j, j < N → okA (fun i => FP.dmul (a i j) (y i)) M FP.dconst0 ∧ nnan (pcol a y M j)) ∧ (∀ i, i < M → okA (fun j => FP.dmul (a i j) (x j)) N FP.dconst0 ∧ nnan (prow a x N i)) ∧
  (∀ j, j < N → nnan (x j) ∧ nnan (s j)) ∧ (∀ i, i < M → nnan (y i)) ∧ okA (fun j => FP.dmul (x j) (s j)) N FP.dconst0 ∧ nnan (tG x s N)
theorem ptOk_of {M N : Nat} {a : (Nat → Nat → UInt64)} {b c x s y : (Nat → UInt64)} (hP : Prob M N a b c) (h : Pnt M N x s y) : PtOk M N a b c x s y := by
  obtain ⟨h1, h2, h3, h4, hA, hB, hC⟩ := hP
  obtain ⟨hx, hy, hg⟩ := h
  have ax : ∀ i, i < M → ∀ j, j < N → Bc 1 1968 (FP.dmul (a i j) (x j)) := fun i hi j hj => mul_bc (hA i hi j hj).1 (hx j hj).1 (by decide) (by decide)
  have ay : ∀ i, i < M → ∀ j, j < N → Bc 1 1910 (FP.dmul (a i j) (y i)) := fun i hi j hj => mul_bc (hA i hi j hj).1 (hy i hi) (by decide) (by decide)
  have p := fun i hi => okS_bc (K := 1968) (n := N) (f := fun j => FP.dmul (a i j) (x j)) (z := b i) h4 (by decide) (fun j hj => ax i hi j hj) ((hB i hi).1.k (by decide))
  have d := fun j hj => okS_bc (K := 1910) (n := M) (f := fun i => FP.dmul (a i j) (y i)) (z := c j) (by omega) (by decide) (fun i hi => ay i hi j hj) ((hC j hj).1.k (by decide))
  have v := okA_bc (K := 1968) (n := N) (f := fun j => FP.dmul (c j) (x j)) (z := FP.dconst0) h4 (by decide) (fun j hj => mul_bc (hC j hj).1 (hx j hj).1 (by decide) (by decide)) (bc_0 _ _)
  have w := okA_bc (K := 1910) (n := M) (f := fun i => FP.dmul (b i) (y i)) (z := FP.dconst0) (by omega) (by decide) (fun i hi => mul_bc (hB i hi).1 (hy i hi) (by decide) (by decide)) (bc_0 _ _)
  have pc := fun j hj => okA_bc (K := 1910) (n := M) (f := fun i => FP.dmul (a i j) (y i)) (z := FP.dconst0) (by omega) (by decide) (fun i hi => ay i hi j hj) (bc_0 _ _)
  have pr := fun i hi => okA_bc (K := 1968) (n := N) (f := fun j => FP.dmul (a i j) (x j)) (z := FP.dconst0) h4 (by decide) (fun j hj => ax i hi j hj) (bc_0 _ _)
  refine ⟨fun i hi => ⟨(p i hi).1, (p i hi).2.nn⟩, fun j hj => ⟨(d j hj).1, (d j hj).2.nn, ?_⟩, ⟨v.1, v.2.nn⟩, ⟨w.1, w.2.nn⟩, fun j hj => ⟨(pc j hj).1, (pc j hj).2.nn⟩, fun i hi => ⟨(pr i hi).1, (pr i hi).2.nn⟩, fun j hj => ⟨(hx j hj).1.nn, (hx j hj).2.nn⟩, fun i hi => (hy i hi).nn, hg⟩
  exact (sub2 (K := 1958) ((d j hj).2.k (by decide)) (hx j hj).2 (by decide)).nn
def pg (M N : Nat) (a : (Nat → Nat → UInt64)) (b x : (Nat → UInt64)) : UInt64 := mxR (tP a b x N) M FP.dconst0
def dg (M N : Nat) (a : (Nat → Nat → UInt64)) (c s y : (Nat → UInt64)) : UInt64 := mxR (tD a c y s M) N FP.dconst0
theorem e_primalGap {M N : Nat} {a : (Nat → Nat → UInt64)} {b c x s y : (Nat → UInt64)} (k1 k2 k3 k4 : Int32) (hM : M ≤ 5) (hN : N ≤ 8) (h : PtOk M N a b c x s y) : s_C_primalGap k1 k2 k3 k4 (nI M) (nI N) a b x = some (pg M N a b x) := by
  unfold s_C_primalGap s_C_primalGap_L4
  refine loop_b M (fun k => (mxR (tP a b x N) k FP.dconst0, nI k)) (pg M N a b x) rfl (by omega) (fun i hi => ?_) ?_ rfl
  · obtain ⟨o1, o2⟩ := h.1 i hi
    have e1 : s_Pb_lessRow 8 (nI M) (nI N) a x (b i) (nI i) = some (tP a b x N i) := e_lessRow2 _ hN hN (by decide) (by omega) o1
    have e2 := e_greater (nn_fd_max (n := i) nn_0 (fun k hk => (h.1 k (by omega)).2)) (nn_abs o2)
    simp (disch := omega) only [↓ite_le_t, ↓ite_le_f, ↓ite_lt_t, ↓ite_lt_f, li5, li8, nI_leI, nI_ltI, nI_eqI, if_pos, if_neg, ↓reduceIte, inb_nI, gd_t, nI_clamp, Option.bind_some, nI_1, isb_0, isb_1, lit13, lit14, lit40, nI_mul, nI_add, s_C_primalGap_B4, e1, e_absolute o2, e2, ← mxR_s]
  · simp (disch := omega) only [↓ite_le_t, ↓ite_le_f, ↓ite_lt_t, ↓ite_lt_f, s_C_primalGap_B4]
    rfl
theorem e_dualGap {M N : Nat} {a : (Nat → Nat → UInt64)} {b c x s y : (Nat → UInt64)} (k1 k2 k3 k4 : Int32) (hM : M ≤ 5) (hN : N ≤ 8) (h : PtOk M N a b c x s y) : s_C_dualGap k1 k2 k3 k4 (nI M) (nI N) a c s y = some (dg M N a c s y) := by
  unfold s_C_dualGap s_C_dualGap_L4
  refine loop_b N (fun k => (mxR (tD a c y s M) k FP.dconst0, nI k)) (dg M N a c s y) rfl (by omega) (fun j hj => ?_) ?_ rfl
  · obtain ⟨o1, o2, o3⟩ := h.2.1 j hj
    have e1 : s_Pb_lessColumn 5 (nI M) (nI N) a y (c j) (nI j) = some (tDc a c y M j) := e_lessColumn _ hM hM (by decide) (by omega) o1
    have e2 := e_greater (nn_fd_max (n := j) nn_0 (fun k hk => (h.2.1 k (by omega)).2.2)) (nn_abs o3)
    have e3 : FP.dsub (tDc a c y M j) (s j) = tD a c y s M j := rfl
    simp (disch := omega) only [↓ite_le_t, ↓ite_le_f, ↓ite_lt_t, ↓ite_lt_f, li5, li8, nI_leI, nI_ltI, nI_eqI, if_pos, if_neg, ↓reduceIte, inb_nI, gd_t, nI_clamp, Option.bind_some, nI_1, isb_0, isb_1, lit13, lit14, lit40, nI_mul, nI_add, s_C_dualGap_B4, e1, e3, isn_of o3, e_absolute o3, e2, ← mxR_s]
  · simp (disch := omega) only [↓ite_le_t, ↓ite_le_f, ↓ite_lt_t, ↓ite_lt_f, s_C_dualGap_B4]
    rfl
theorem e_gapOf {M N : Nat} {a : (Nat → Nat → UInt64)} {b c x s y : (Nat → UInt64)} (k1 k2 k3 k4 : Int32) (hM : M ≤ 5) (hN : N ≤ 8) (h : PtOk M N a b c x s y) : s_C_gapOf k1 k2 k3 k4 (nI M) (nI N) a b c x s y 0 = some (pg M N a b x) ∧ s_C_gapOf k1 k2 k3 k4 (nI M) (nI N) a b c x s y 1 = some (dg M N a c s y) ∧ s_C_gapOf k1 k2 k3 k4 (nI M) (nI N) a b c x s y 2 = some (tG x s N) ∧ s_C_gapOf k1 k2 k3 k4 (nI M) (nI N) a b c x s y 3 = some (dpR x s N FP.dconst0) := by
  have e1 := e_primalGap k1 k2 k3 k4 hM hN h
  have e2 := e_dualGap k1 k2 k3 k4 hM hN h
  have e3 : s_Pt_complementarity x s (nI N) = some (tG x s N) := e_complementarity hN h.2.2.2.2.2.2.2.2.1
  have e4 : s_Pt_deepest x s (nI N) = some (dpR x s N FP.dconst0) := e_deepest hN (fun k hk => (h.2.2.2.2.2.2.1 k hk).1) (fun k hk => (h.2.2.2.2.2.2.1 k hk).2)
  unfold s_C_gapOf
  rw [e1, e2, e3, e4]
  exact ⟨rfl, rfl, rfl, rfl⟩
/-- the reference's point is the class's -/
def MX (M N : Nat) (a : (Nat → Nat → UInt64)) (b c x s y ma mb mc mx ms my : (Nat → UInt64)) : Prop := (∀ i, i < M → ∀ j, j < N → ma (8 * i + j) = a i j) ∧ (∀ i, i < M → mb i = b i) ∧ (∀ j, j < N → mc j = c j) ∧ (∀ j, j < N → mx j = x j ∧ ms j = s j) ∧ ∀ i, i < M → my i = y i
theorem e_far0 {m n : Nat} {a : (Nat → Nat → UInt64)} {b c x s y ma mb mc mx ms my : (Nat → UInt64)} (vl vw ve vt va vs vo v2 vnm vnn : Int32) (vnu : UInt64) (vb : Int32) (hM : m ≤ 5) (hN : n ≤ 8) (h : PtOk m n a b c x s y) (e : MX m n a b c x s y ma mb mc mx ms my) : s_M_far (nI m) (nI n) vl vw ve vt va vs vo v2 vnm vnn vnu vb ma mb mc mx ms my 0 = some (pg m n a b x) := by
  unfold s_M_far
  rw [if_pos rfl]
  unfold s_M_far_L9
  refine loop_b m (fun k => (mxR (tP a b x n) k FP.dconst0, nI k)) (pg m n a b x) rfl (by omega) (fun i hi => ?_) ?_ rfl
  · obtain ⟨o1, o2⟩ := h.1 i hi
    have e2 := e_mmax (nn_fd_max (n := i) nn_0 (fun k hk => (h.1 k (by omega)).2)) (nn_abs o2)
    simp (disch := omega) only [↓ite_le_t, ↓ite_le_f, ↓ite_lt_t, ↓ite_lt_f, li5, li8, nI_leI, nI_ltI, nI_eqI, if_pos, if_neg, ↓reduceIte, inb_nI, gd_t, nI_clamp, Option.bind_some, nI_1, isb_0, isb_1, lit13, lit14, lit40, nI_mul, nI_add, s_M_far_B9]
    unfold s_M_far_L30
    refine loop_b n (fun k => (subR (fun j => FP.dmul (a i j) (x j)) k (b i), nI k)) (tP a b x n i) (by rw [e.2.1 i hi]; rfl) (by omega) (fun j hj => ?_) ?_ ?_
    · simp (disch := omega) only [↓ite_le_t, ↓ite_le_f, ↓ite_lt_t, ↓ite_lt_f, li5, li8, nI_leI, nI_ltI, nI_eqI, if_pos, if_neg, ↓reduceIte, inb_nI, gd_t, nI_clamp, Option.bind_some, nI_1, isb_0, isb_1, lit13, lit14, lit40, nI_mul, nI_add, s_M_far_B30, e.1 i hi j hj, (e.2.2.2.1 j hj).1, o1.1 j hj, ← subR_s (fun j => FP.dmul (a i j) (x j)), o1.2 j hj]
    · simp (disch := omega) only [↓ite_le_t, ↓ite_le_f, ↓ite_lt_t, ↓ite_lt_f, s_M_far_B30]
      rfl
    · simp (disch := omega) only [↓ite_le_t, ↓ite_le_f, ↓ite_lt_t, ↓ite_lt_f, li5, li8, nI_leI, nI_ltI, nI_eqI, if_pos, if_neg, ↓reduceIte, inb_nI, gd_t, nI_clamp, Option.bind_some, nI_1, isb_0, isb_1, lit13, lit14, lit40, nI_mul, nI_add, e_mabs o2, e2, ← mxR_s]
  · simp (disch := omega) only [↓ite_le_t, ↓ite_le_f, ↓ite_lt_t, ↓ite_lt_f, s_M_far_B9]
    rfl
theorem i32_far : ¬ (1 : Int32) = 0 ∧ ¬ (2 : Int32) = 0 ∧ ¬ (3 : Int32) = 0 ∧ ¬ (1 : Int32) = 2 ∧ ¬ (1 : Int32) = 3 ∧ ¬ (3 : Int32) = 2 := by decide
theorem e_far1 {m n : Nat} {a : (Nat → Nat → UInt64)} {b c x s y ma mb mc mx ms my : (Nat → UInt64)} (vl vw ve vt va vs vo v2 vnm vnn : Int32) (vnu : UInt64) (vb : Int32) (hM : m ≤ 5) (hN : n ≤ 8) (h : PtOk m n a b c x s y) (e : MX m n a b c x s y ma mb mc mx ms my) : s_M_far (nI m) (nI n) vl vw ve vt va vs vo v2 vnm vnn vnu vb ma mb mc mx ms my 1 = some (dg m n a c s y) := by
  unfold s_M_far
  rw [if_neg i32_far.1]
  unfold s_M_far_L92
  refine loop_b n (fun k => (mxR (tD a c y s m) k FP.dconst0, nI k)) (dg m n a c s y) rfl (by omega) (fun j hj => ?_) ?_ rfl
  · obtain ⟨o1, o2, o3⟩ := h.2.1 j hj
    have e2 := e_mmax (nn_fd_max (n := j) nn_0 (fun k hk => (h.2.1 k (by omega)).2.2)) (nn_abs o3)
    simp (disch := omega) only [↓ite_le_t, ↓ite_le_f, ↓ite_lt_t, ↓ite_lt_f, li5, li8, nI_leI, nI_ltI, nI_eqI, if_pos, if_neg, ↓reduceIte, inb_nI, gd_t, nI_clamp, Option.bind_some, nI_1, isb_0, isb_1, lit13, lit14, lit40, nI_mul, nI_add, s_M_far_B92, i32_far.2.2.2.1, i32_far.2.2.2.2.1]
    unfold s_M_far_L173
    refine loop_b m (fun k => (subR (fun i => FP.dmul (a i j) (y i)) k (c j), nI k)) (tDc a c y m j) (by rw [e.2.2.1 j hj]; rfl) (by omega) (fun i hi => ?_) ?_ ?_
    · simp (disch := omega) only [↓ite_le_t, ↓ite_le_f, ↓ite_lt_t, ↓ite_lt_f, li5, li8, nI_leI, nI_ltI, nI_eqI, if_pos, if_neg, ↓reduceIte, inb_nI, gd_t, nI_clamp, Option.bind_some, nI_1, isb_0, isb_1, lit13, lit14, lit40, nI_mul, nI_add, s_M_far_B173, e.1 i hi j hj, e.2.2.2.2 i hi, o1.1 i hi, ← subR_s (fun i => FP.dmul (a i j) (y i)), o1.2 i hi]
    · simp (disch := omega) only [↓ite_le_t, ↓ite_le_f, ↓ite_lt_t, ↓ite_lt_f, s_M_far_B173]
      rfl
    · have e3 : FP.dsub (tDc a c y m j) (s j) = tD a c y s m j := rfl
      simp (disch := omega) only [↓ite_le_t, ↓ite_le_f, ↓ite_lt_t, ↓ite_lt_f, li5, li8, nI_leI, nI_ltI, nI_eqI, if_pos, if_neg, ↓reduceIte, inb_nI, gd_t, nI_clamp, Option.bind_some, nI_1, isb_0, isb_1, lit13, lit14, lit40, nI_mul, nI_add, (e.2.2.2.1 j hj).2, e3, isn_of o3, e_mabs o3, e2, s_M_far_J232, ← mxR_s]
  · simp (disch := omega) only [↓ite_le_t, ↓ite_le_f, ↓ite_lt_t, ↓ite_lt_f, s_M_far_B92]
    rfl
theorem e_far2 {m n : Nat} {a : (Nat → Nat → UInt64)} {b c x s y ma mb mc mx ms my : (Nat → UInt64)} (vl vw ve vt va vs vo v2 vnm vnn : Int32) (vnu : UInt64) (vb : Int32) (hM : m ≤ 5) (hN : n ≤ 8) (h : PtOk m n a b c x s y) (e : MX m n a b c x s y ma mb mc mx ms my) : s_M_far (nI m) (nI n) vl vw ve vt va vs vo v2 vnm vnn vnu vb ma mb mc mx ms my 2 = some (tG x s n) := by
  unfold s_M_far
  rw [if_neg i32_far.2.1]
  unfold s_M_far_L92
  have o := h.2.2.2.2.2.2.2.2.1
  refine loop_b n (fun k => (sumR (fun j => FP.dmul (x j) (s j)) k FP.dconst0, nI k)) (tG x s n) rfl (by omega) (fun j hj => ?_) ?_ rfl
  · simp (disch := omega) only [↓ite_le_t, ↓ite_le_f, ↓ite_lt_t, ↓ite_lt_f, li5, li8, nI_leI, nI_ltI, nI_eqI, if_pos, if_neg, ↓reduceIte, inb_nI, gd_t, nI_clamp, Option.bind_some, nI_1, isb_0, isb_1, lit13, lit14, lit40, nI_mul, nI_add, s_M_far_B92, s_M_far_J232, (e.2.2.2.1 j hj).1, (e.2.2.2.1 j hj).2, o.1 j hj, ← sumR_s (fun j => FP.dmul (x j) (s j)), o.2 j hj]
  · simp (disch := omega) only [↓ite_le_t, ↓ite_le_f, ↓ite_lt_t, ↓ite_lt_f, s_M_far_B92]
    rfl
theorem e_far3 {m n : Nat} {a : (Nat → Nat → UInt64)} {b c x s y ma mb mc mx ms my : (Nat → UInt64)} (vl vw ve vt va vs vo v2 vnm vnn : Int32) (vnu : UInt64) (vb : Int32) (hM : m ≤ 5) (hN : n ≤ 8) (h : PtOk m n a b c x s y) (e : MX m n a b c x s y ma mb mc mx ms my) : s_M_far (nI m) (nI n) vl vw ve vt va vs vo v2 vnm vnn vnu vb ma mb mc mx ms my 3 = some (dpR x s n FP.dconst0) := by
  unfold s_M_far
  rw [if_neg i32_far.2.2.1]
  unfold s_M_far_L92
  have hx := h.2.2.2.2.2.2.1
  have hnn := nn_dpR (n := n) (fun k hk => (hx k hk).1) (fun k hk => (hx k hk).2)
  refine loop_b n (fun k => (dpR x s k FP.dconst0, nI k)) (dpR x s n FP.dconst0) rfl (by omega) (fun j hj => ?_) ?_ rfl
  · have g1 := nn_neg.mpr (hx j hj).1
    have g2 := nn_neg.mpr (hx j hj).2
    simp (disch := omega) only [↓ite_le_t, ↓ite_le_f, ↓ite_lt_t, ↓ite_lt_f, li5, li8, nI_leI, nI_ltI, nI_eqI, if_pos, if_neg, ↓reduceIte, inb_nI, gd_t, nI_clamp, Option.bind_some, nI_1, isb_0, isb_1, lit13, lit14, lit40, nI_mul, nI_add, s_M_far_B92, s_M_far_J232, i32_far.2.2.2.2.2, (e.2.2.2.1 j hj).1, (e.2.2.2.1 j hj).2, e_mmax (hnn j (by omega)) g1, e_mmax (nn_max (hnn j (by omega)) g1) g2]
    rfl
  · simp (disch := omega) only [↓ite_le_t, ↓ite_le_f, ↓ite_lt_t, ↓ite_lt_f, s_M_far_B92]
theorem e_total {m n : Nat} {a : (Nat → Nat → UInt64)} {b c x s y ma mb mc mx ms my : (Nat → UInt64)} (vl vw ve vt va vs vo v2 vnm vnn : Int32) (vnu : UInt64) (vb : Int32) (hM : m ≤ 5) (hN : n ≤ 8) (h : PtOk m n a b c x s y) (e : MX m n a b c x s y ma mb mc mx ms my) : s_M_total (nI m) (nI n) vl vw ve vt va vs vo v2 vnm vnn vnu vb mb mc mx my 3 = some (vC c x n) ∧ s_M_total (nI m) (nI n) vl vw ve vt va vs vo v2 vnm vnn vnu vb mb mc mx my 4 = some (wB b y m) := by
  unfold s_M_total
  rw [if_pos rfl, if_neg (by decide)]
  constructor
  · unfold s_M_total_L10
    have o := h.2.2.1.1
    refine loop_b n (fun k => (sumR (fun j => FP.dmul (c j) (x j)) k FP.dconst0, nI k)) (vC c x n) rfl (by omega) (fun j hj => ?_) ?_ rfl
    · simp (disch := omega) only [↓ite_le_t, ↓ite_le_f, ↓ite_lt_t, ↓ite_lt_f, li5, li8, nI_leI, nI_ltI, nI_eqI, if_pos, if_neg, ↓reduceIte, inb_nI, gd_t, nI_clamp, Option.bind_some, nI_1, isb_0, isb_1, lit13, lit14, lit40, nI_mul, nI_add, s_M_total_B10, e.2.2.1 j hj, (e.2.2.2.1 j hj).1, o.1 j hj, ← sumR_s (fun j => FP.dmul (c j) (x j)), o.2 j hj]
    · simp (disch := omega) only [↓ite_le_t, ↓ite_le_f, ↓ite_lt_t, ↓ite_lt_f, s_M_total_B10]
      rfl
  · unfold s_M_total_L49
    have o := h.2.2.2.1.1
    refine loop_b m (fun k => (sumR (fun i => FP.dmul (b i) (y i)) k FP.dconst0, nI k)) (wB b y m) rfl (by omega) (fun i hi => ?_) ?_ rfl
    · simp (disch := omega) only [↓ite_le_t, ↓ite_le_f, ↓ite_lt_t, ↓ite_lt_f, li5, li8, nI_leI, nI_ltI, nI_eqI, if_pos, if_neg, ↓reduceIte, inb_nI, gd_t, nI_clamp, Option.bind_some, nI_1, isb_0, isb_1, lit13, lit14, lit40, nI_mul, nI_add, s_M_total_B49, e.2.1 i hi, e.2.2.2.2 i hi, o.1 i hi, ← sumR_s (fun i => FP.dmul (b i) (y i)), o.2 i hi]
    · simp (disch := omega) only [↓ite_le_t, ↓ite_le_f, ↓ite_lt_t, ↓ite_lt_f, s_M_total_B49]
      rfl
/-- the certificates -/
def cS (M N : Nat) (a : (Nat → Nat → UInt64)) (b c x s y : (Nat → UInt64)) (e : UInt64) : Prop := ¬ zv e < zv (pg M N a b x) ∧ ¬ zv e < zv (dg M N a c s y) ∧ ¬ zv e < zv (dpR x s N FP.dconst0) ∧ ¬ zv e < zv (tG x s N) ∧ ¬ zv (tG x s N) < zv (FP.dneg e)
def cN (M N : Nat) (a : (Nat → Nat → UInt64)) (b y : (Nat → UInt64)) (e : UInt64) : Prop := (∀ j, j < N → ¬ zv e < zv (pcol a y M j)) ∧ zv e < zv (wB b y M)
def cL (M N : Nat) (a : (Nat → Nat → UInt64)) (c x : (Nat → UInt64)) (e : UInt64) : Prop := (∀ j, j < N → ¬ zv (x j) < zv (FP.dneg e)) ∧ (∀ i, i < M → ¬ zv e < zv (dabs (prow a x N i))) ∧ zv (vC c x N) < zv (FP.dneg e)
theorem ptOk_nn {M N : Nat} {a : (Nat → Nat → UInt64)} {b c x s y : (Nat → UInt64)} (h : PtOk M N a b c x s y) : nnan (pg M N a b x) ∧ nnan (dg M N a c s y) ∧ nnan (dpR x s N FP.dconst0) ∧ nnan (tG x s N) :=
  ⟨nn_fd_max nn_0 (fun i hi => (h.1 i hi).2), nn_fd_max nn_0 (fun j hj => (h.2.1 j hj).2.2), nn_dpR (fun k hk => (h.2.2.2.2.2.2.1 k hk).1) (fun k hk => (h.2.2.2.2.2.2.1 k hk).2) N (Nat.le_refl _), h.2.2.2.2.2.2.2.2.2⟩
theorem e_isSolution {M N : Nat} {a : (Nat → Nat → UInt64)} {b c x s y : (Nat → UInt64)} {e : UInt64} (k1 k2 k3 k4 : Int32) (hM : M ≤ 5) (hN : N ≤ 8) (he : nnan e) (h : PtOk M N a b c x s y) : Ok (s_C_isSolution k1 k2 k3 k4 (nI M) (nI N) a b c x s y e) (fun r => (r = 1 ∧ cS M N a b c x s y e) ∨ (r = 0 ∧ ¬ cS M N a b c x s y e)) := by
  obtain ⟨g0, g1, g2, g3⟩ := e_gapOf k1 k2 k3 k4 hM hN h
  obtain ⟨n0, n1, n3, n2⟩ := ptOk_nn h
  unfold s_C_isSolution s_C_isSolution_J53 cS
  simp only [g0, g1, g2, g3, Option.bind_some, cv_gt n0 he, cv_gt n1 he, cv_gt n3 he, cv_gt n2 he, cv_lt n2 (nn_neg.mpr he), isb_0, isb_1, gd_t]
  by_cases c0 : zv e < zv (pg M N a b x)
  · rw [if_pos c0]; exact Ok.mk (Or.inr ⟨rfl, fun q => q.1 c0⟩)
  · rw [if_neg c0]
    by_cases c1 : zv e < zv (dg M N a c s y)
    · rw [if_pos c1]; exact Ok.mk (Or.inr ⟨rfl, fun q => q.2.1 c1⟩)
    · rw [if_neg c1]
      by_cases c3 : zv e < zv (dpR x s N FP.dconst0)
      · rw [if_pos c3]; exact Ok.mk (Or.inr ⟨rfl, fun q => q.2.2.1 c3⟩)
      · rw [if_neg c3]
        by_cases c2 : zv e < zv (tG x s N)
        · rw [if_pos c2]; exact Ok.mk (Or.inr ⟨rfl, fun q => q.2.2.2.1 c2⟩)
        · rw [if_neg c2]
          by_cases c4 : zv (tG x s N) < zv (FP.dneg e)
          · rw [if_pos c4]; exact Ok.mk (Or.inr ⟨rfl, fun q => q.2.2.2.2 c4⟩)
          · rw [if_neg c4]; exact Ok.mk (Or.inl ⟨rfl, c0, c1, c3, c2, c4⟩)
theorem e_showsNoSolution {M N : Nat} {a : (Nat → Nat → UInt64)} {b c x s y : (Nat → UInt64)} {e : UInt64} (k1 k2 k3 k4 : Int32) (hM : M ≤ 5) (hN : N ≤ 8) (he : nnan e) (h : PtOk M N a b c x s y) : Ok (s_C_showsNoSolution k1 k2 k3 k4 (nI M) (nI N) a b y e) (fun r => (r = 1 ∧ cN M N a b y e) ∨ (r = 0 ∧ ¬ cN M N a b y e)) := by
  have hp := h.2.2.2.2.1
  obtain ⟨ow, nw⟩ := h.2.2.2.1
  unfold s_C_showsNoSolution s_C_showsNoSolution_L2
  refine Ok.bind (P := fun v => Sum.elim (fun _ => ∀ j, j < N → ¬ zv e < zv (pcol a y M j)) (fun r => r = 0 ∧ ¬ cN M N a b y e) v) ?_ ?_
  · refine Ok.for (fun t st => st = nI t ∧ ∀ j, j < t → ¬ zv e < zv (pcol a y M j)) N (by omega) ⟨rfl, fun i hi => absurd hi (Nat.not_lt_zero _)⟩ ?_ ?_
    · rintro j st hj ⟨rfl, g⟩
      obtain ⟨o1, o2⟩ := hp j hj
      have e1 : s_Pb_plusColumn 5 (nI M) (nI N) a y FP.dconst0 (nI j) = some (pcol a y M j) := e_plusColumn _ hM hM (by decide) (by omega) o1
      have e2 := cv_le (op := .l) o2 he
      simp (disch := omega) only [↓ite_le_t, ↓ite_le_f, ↓ite_lt_t, ↓ite_lt_f, li5, li8, nI_leI, nI_ltI, nI_eqI, if_pos, if_neg, ↓reduceIte, inb_nI, gd_t, nI_clamp, Option.bind_some, nI_1, isb_0, isb_1, lit13, lit14, lit40, nI_mul, nI_add, s_C_showsNoSolution_B2, e1]
      by_cases c1 : zv (pcol a y M j) ≤ zv e
      · rw [if_pos (e2.mpr c1)]
        refine Ok.mk ⟨rfl, fun j' hj' => ?_⟩
        by_cases q : j' = j
        · subst q; exact Int.not_lt.mpr c1
        · exact g j' (by omega)
      · rw [if_neg (fun q => c1 (e2.mp q))]
        exact Ok.mk ⟨rfl, fun q => q.1 j hj (Int.not_le.mp c1)⟩
    · rintro st ⟨rfl, g⟩
      simp (disch := omega) only [↓ite_le_t, ↓ite_le_f, ↓ite_lt_t, ↓ite_lt_f, s_C_showsNoSolution_B2]
      exact Ok.mk g
  · rintro (v | v) hv
    · have e1 : s_Pb_worthOf 5 (nI M) (nI N) b y = some (wB b y M) := e_worthOf _ hM hM (by decide) ow
      have e2 := cv_le (op := .l) nw he
      simp only [Sum.elim_inl, e1, Option.bind_some, isb_0, isb_1, gd_t]
      by_cases c1 : zv (wB b y M) ≤ zv e
      · rw [if_pos (e2.mpr c1)]
        exact Ok.mk (Or.inr ⟨rfl, fun q => absurd q.2 (Int.not_lt.mpr c1)⟩)
      · rw [if_neg (fun q => c1 (e2.mp q))]
        exact Ok.mk (Or.inl ⟨rfl, hv, Int.not_le.mp c1⟩)
    · exact Ok.mk (Or.inr hv)
theorem e_showsNoLeast {M N : Nat} {a : (Nat → Nat → UInt64)} {b c x s y : (Nat → UInt64)} {e : UInt64} (k1 k2 k3 k4 : Int32) (hM : M ≤ 5) (hN : N ≤ 8) (he : nnan e) (h : PtOk M N a b c x s y) : Ok (s_C_showsNoLeast k1 k2 k3 k4 (nI M) (nI N) a c x e) (fun r => (r = 1 ∧ cL M N a c x e) ∨ (r = 0 ∧ ¬ cL M N a c x e)) := by
  have hp := h.2.2.2.2.2.1
  have hx := h.2.2.2.2.2.2.1
  obtain ⟨ow, nw⟩ := h.2.2.1
  have hne := nn_neg.mpr he
  unfold s_C_showsNoLeast s_C_showsNoLeast_L2
  refine Ok.bind (P := fun v => Sum.elim (fun _ => ∀ j, j < N → ¬ zv (x j) < zv (FP.dneg e)) (fun r => r = 0 ∧ ¬ cL M N a c x e) v) ?_ ?_
  · refine Ok.for (fun t st => st = nI t ∧ ∀ j, j < t → ¬ zv (x j) < zv (FP.dneg e)) N (by omega) ⟨rfl, fun i hi => absurd hi (Nat.not_lt_zero _)⟩ ?_ ?_
    · rintro j st hj ⟨rfl, g⟩
      have e2 := cv_ge (op := .g) (hx j hj).1 hne
      simp (disch := omega) only [↓ite_le_t, ↓ite_le_f, ↓ite_lt_t, ↓ite_lt_f, li5, li8, nI_leI, nI_ltI, nI_eqI, if_pos, if_neg, ↓reduceIte, inb_nI, gd_t, nI_clamp, Option.bind_some, nI_1, isb_0, isb_1, lit13, lit14, lit40, nI_mul, nI_add, s_C_showsNoLeast_B2]
      by_cases c1 : zv (FP.dneg e) ≤ zv (x j)
      · rw [if_pos (e2.mpr c1)]
        refine Ok.mk ⟨rfl, fun j' hj' => ?_⟩
        by_cases q : j' = j
        · subst q; exact Int.not_lt.mpr c1
        · exact g j' (by omega)
      · rw [if_neg (fun q => c1 (e2.mp q))]
        exact Ok.mk ⟨rfl, fun q => q.1 j hj (Int.not_le.mp c1)⟩
    · rintro st ⟨rfl, g⟩
      simp (disch := omega) only [↓ite_le_t, ↓ite_le_f, ↓ite_lt_t, ↓ite_lt_f, s_C_showsNoLeast_B2]
      exact Ok.mk g
  · rintro (v | v) hv
    · simp only [Sum.elim_inl]
      unfold s_C_showsNoLeast_L38
      refine Ok.bind (P := fun v => Sum.elim (fun _ => ∀ i, i < M → ¬ zv e < zv (dabs (prow a x N i))) (fun r => r = 0 ∧ ¬ cL M N a c x e) v) ?_ ?_
      · refine Ok.for (fun t st => st = nI t ∧ ∀ i, i < t → ¬ zv e < zv (dabs (prow a x N i))) M (by omega) ⟨rfl, fun i hi => absurd hi (Nat.not_lt_zero _)⟩ ?_ ?_
        · rintro i st hi ⟨rfl, g⟩
          obtain ⟨o1, o2⟩ := hp i hi
          have e1 : s_Pb_plusRow 8 (nI M) (nI N) a x FP.dconst0 (nI i) = some (prow a x N i) := e_plusRow _ hN hN (by decide) (by omega) o1
          have e2 := cv_le (op := .l) (nn_abs o2) he
          simp (disch := omega) only [↓ite_le_t, ↓ite_le_f, ↓ite_lt_t, ↓ite_lt_f, li5, li8, nI_leI, nI_ltI, nI_eqI, if_pos, if_neg, ↓reduceIte, inb_nI, gd_t, nI_clamp, Option.bind_some, nI_1, isb_0, isb_1, lit13, lit14, lit40, nI_mul, nI_add, s_C_showsNoLeast_B38, e1, e_absolute o2]
          by_cases c1 : zv (dabs (prow a x N i)) ≤ zv e
          · rw [if_pos (e2.mpr c1)]
            refine Ok.mk ⟨rfl, fun i' hi' => ?_⟩
            by_cases q : i' = i
            · subst q; exact Int.not_lt.mpr c1
            · exact g i' (by omega)
          · rw [if_neg (fun q => c1 (e2.mp q))]
            exact Ok.mk ⟨rfl, fun q => q.2.1 i hi (Int.not_le.mp c1)⟩
        · rintro st ⟨rfl, g⟩
          simp (disch := omega) only [↓ite_le_t, ↓ite_le_f, ↓ite_lt_t, ↓ite_lt_f, s_C_showsNoLeast_B38]
          exact Ok.mk g
      · rintro (w | w) hw
        · have e1 : s_Pb_costOf 8 (nI M) (nI N) c x = some (vC c x N) := e_costOf _ hN hN (by decide) ow
          have e2 := cv_ge (op := .g) nw hne
          simp only [Sum.elim_inl, e1, Option.bind_some, isb_0, isb_1, gd_t]
          by_cases c1 : zv (FP.dneg e) ≤ zv (vC c x N)
          · rw [if_pos (e2.mpr c1)]
            exact Ok.mk (Or.inr ⟨rfl, fun q => absurd q.2.2 (Int.not_lt.mpr c1)⟩)
          · rw [if_neg (fun q => c1 (e2.mp q))]
            exact Ok.mk (Or.inl ⟨rfl, hv, hw, Int.not_le.mp c1⟩)
        · exact Ok.mk (Or.inr hw)
    · exact Ok.mk (Or.inr hv)
theorem e_isNone {m n : Nat} {a : (Nat → Nat → UInt64)} {b c x s y ma mb mc mx ms my : (Nat → UInt64)} {e : UInt64} (vl vw ve vt va vs vo v2 vnm vnn : Int32) (vnu : UInt64) (vb : Int32) (hM : m ≤ 5) (hN : n ≤ 8) (he : nnan e) (h : PtOk m n a b c x s y) (q : MX m n a b c x s y ma mb mc mx ms my) : Ok (s_M_isNone (nI m) (nI n) vl vw ve vt va vs vo v2 vnm vnn vnu vb ma mb mc mx my e) (fun r => (r = 1 ∧ cN m n a b y e) ∨ (r = 0 ∧ ¬ cN m n a b y e)) := by
  have hp := h.2.2.2.2.1
  obtain ⟨ow, nw⟩ := h.2.2.2.1
  have e2 := cv_gt (op := .l) nw he
  unfold s_M_isNone
  rw [(e_total vl vw ve vt va vs vo v2 vnm vnn vnu vb hM hN h q).2]
  simp only [Option.bind_some, isb_0, gd_t]
  by_cases c0 : zv e < zv (wB b y m)
  · rw [if_pos (e2.mpr c0)]
    unfold s_M_isNone_L14
    refine Ok.bind (P := fun v => Sum.elim (fun _ => ∀ j, j < n → ¬ zv e < zv (pcol a y m j)) (fun r => r = 0 ∧ ¬ cN m n a b y e) v) ?_ ?_
    · refine Ok.for (fun t st => st = nI t ∧ ∀ j, j < t → ¬ zv e < zv (pcol a y m j)) n (by omega) ⟨rfl, fun i hi => absurd hi (Nat.not_lt_zero _)⟩ ?_ ?_
      · rintro j st hj ⟨rfl, g⟩
        obtain ⟨o1, o2⟩ := hp j hj
        have e3 := cv_le (op := .l) o2 he
        simp (disch := omega) only [↓ite_le_t, ↓ite_le_f, ↓ite_lt_t, ↓ite_lt_f, li5, li8, nI_leI, nI_ltI, nI_eqI, if_pos, if_neg, ↓reduceIte, inb_nI, gd_t, nI_clamp, Option.bind_some, nI_1, isb_0, isb_1, lit13, lit14, lit40, nI_mul, nI_add, s_M_isNone_B14]
        unfold s_M_isNone_L28
        refine Ok.bind (P := fun v => v = pcol a y m j) ?_ ?_
        · refine loop_ok m (fun k => (sumR (fun i => FP.dmul (a i j) (y i)) k FP.dconst0, nI k)) _ rfl (by omega) (fun i hi => ?_) ?_
          · simp (disch := omega) only [↓ite_le_t, ↓ite_le_f, ↓ite_lt_t, ↓ite_lt_f, li5, li8, nI_leI, nI_ltI, nI_eqI, if_pos, if_neg, ↓reduceIte, inb_nI, gd_t, nI_clamp, Option.bind_some, nI_1, isb_0, isb_1, lit13, lit14, lit40, nI_mul, nI_add, s_M_isNone_B28, q.1 i hi j hj, q.2.2.2.2 i hi, o1.1 i hi, ← sumR_s (fun i => FP.dmul (a i j) (y i)), o1.2 i hi]
          · simp (disch := omega) only [↓ite_le_t, ↓ite_le_f, ↓ite_lt_t, ↓ite_lt_f, s_M_isNone_B28]
            rfl
        · rintro v rfl
          by_cases c1 : zv (pcol a y m j) ≤ zv e
          · rw [if_pos (e3.mpr c1)]
            refine Ok.mk ⟨nI_1 j, fun j' hj' => ?_⟩
            by_cases w : j' = j
            · subst w; exact Int.not_lt.mpr c1
            · exact g j' (by omega)
          · rw [if_neg (fun w => c1 (e3.mp w))]
            exact Ok.mk ⟨rfl, fun w => w.1 j hj (Int.not_le.mp c1)⟩
      · rintro st ⟨rfl, g⟩
        simp (disch := omega) only [↓ite_le_t, ↓ite_le_f, ↓ite_lt_t, ↓ite_lt_f, s_M_isNone_B14]
        exact Ok.mk g
    · rintro (v | v) hv
      · exact Ok.mk (Or.inl ⟨rfl, hv, c0⟩)
      · exact Ok.mk (Or.inr hv)
  · rw [if_neg (fun w => c0 (e2.mp w))]
    exact Ok.mk (Or.inr ⟨rfl, fun w => c0 w.2⟩)
theorem e_isRay {m n : Nat} {a : (Nat → Nat → UInt64)} {b c x s y ma mb mc mx ms my : (Nat → UInt64)} {e : UInt64} (vl vw ve vt va vs vo v2 vnm vnn : Int32) (vnu : UInt64) (vb : Int32) (hM : m ≤ 5) (hN : n ≤ 8) (he : nnan e) (h : PtOk m n a b c x s y) (q : MX m n a b c x s y ma mb mc mx ms my) : Ok (s_M_isRay (nI m) (nI n) vl vw ve vt va vs vo v2 vnm vnn vnu vb ma mb mc mx my e) (fun r => (r = 1 ∧ cL m n a c x e) ∨ (r = 0 ∧ ¬ cL m n a c x e)) := by
  have hp := h.2.2.2.2.2.1
  have hx := h.2.2.2.2.2.2.1
  obtain ⟨ow, nw⟩ := h.2.2.1
  have hne := nn_neg.mpr he
  unfold s_M_isRay s_M_isRay_L2
  refine Ok.bind (P := fun v => Sum.elim (fun _ => ∀ j, j < n → ¬ zv (x j) < zv (FP.dneg e)) (fun r => r = 0 ∧ ¬ cL m n a c x e) v) ?_ ?_
  · refine Ok.for (fun t st => st = nI t ∧ ∀ j, j < t → ¬ zv (x j) < zv (FP.dneg e)) n (by omega) ⟨rfl, fun i hi => absurd hi (Nat.not_lt_zero _)⟩ ?_ ?_
    · rintro j st hj ⟨rfl, g⟩
      have e2 := cv_ge (op := .g) (hx j hj).1 hne
      simp (disch := omega) only [↓ite_le_t, ↓ite_le_f, ↓ite_lt_t, ↓ite_lt_f, li5, li8, nI_leI, nI_ltI, nI_eqI, if_pos, if_neg, ↓reduceIte, inb_nI, gd_t, nI_clamp, Option.bind_some, nI_1, isb_0, isb_1, lit13, lit14, lit40, nI_mul, nI_add, s_M_isRay_B2, (q.2.2.2.1 j hj).1]
      by_cases c1 : zv (FP.dneg e) ≤ zv (x j)
      · rw [if_pos (e2.mpr c1)]
        refine Ok.mk ⟨rfl, fun j' hj' => ?_⟩
        by_cases w : j' = j
        · subst w; exact Int.not_lt.mpr c1
        · exact g j' (by omega)
      · rw [if_neg (fun w => c1 (e2.mp w))]
        exact Ok.mk ⟨rfl, fun w => w.1 j hj (Int.not_le.mp c1)⟩
    · rintro st ⟨rfl, g⟩
      simp (disch := omega) only [↓ite_le_t, ↓ite_le_f, ↓ite_lt_t, ↓ite_lt_f, s_M_isRay_B2]
      exact Ok.mk g
  · rintro (v | v) hv
    · simp only [Sum.elim_inl]
      unfold s_M_isRay_L32
      refine Ok.bind (P := fun v => Sum.elim (fun _ => ∀ i, i < m → ¬ zv e < zv (dabs (prow a x n i))) (fun r => r = 0 ∧ ¬ cL m n a c x e) v) ?_ ?_
      · refine Ok.for (fun t st => st = nI t ∧ ∀ i, i < t → ¬ zv e < zv (dabs (prow a x n i))) m (by omega) ⟨rfl, fun i hi => absurd hi (Nat.not_lt_zero _)⟩ ?_ ?_
        · rintro i st hi ⟨rfl, g⟩
          obtain ⟨o1, o2⟩ := hp i hi
          have e2 := cv_le (op := .l) (nn_abs o2) he
          simp (disch := omega) only [↓ite_le_t, ↓ite_le_f, ↓ite_lt_t, ↓ite_lt_f, li5, li8, nI_leI, nI_ltI, nI_eqI, if_pos, if_neg, ↓reduceIte, inb_nI, gd_t, nI_clamp, Option.bind_some, nI_1, isb_0, isb_1, lit13, lit14, lit40, nI_mul, nI_add, s_M_isRay_B32]
          unfold s_M_isRay_L46
          refine Ok.bind (P := fun v => v = prow a x n i) ?_ ?_
          · refine loop_ok n (fun k => (sumR (fun j => FP.dmul (a i j) (x j)) k FP.dconst0, nI k)) _ rfl (by omega) (fun j hj => ?_) ?_
            · simp (disch := omega) only [↓ite_le_t, ↓ite_le_f, ↓ite_lt_t, ↓ite_lt_f, li5, li8, nI_leI, nI_ltI, nI_eqI, if_pos, if_neg, ↓reduceIte, inb_nI, gd_t, nI_clamp, Option.bind_some, nI_1, isb_0, isb_1, lit13, lit14, lit40, nI_mul, nI_add, s_M_isRay_B46, q.1 i hi j hj, (q.2.2.2.1 j hj).1, o1.1 j hj, ← sumR_s (fun j => FP.dmul (a i j) (x j)), o1.2 j hj]
            · simp (disch := omega) only [↓ite_le_t, ↓ite_le_f, ↓ite_lt_t, ↓ite_lt_f, s_M_isRay_B46]
              rfl
          · rintro v rfl
            rw [e_mabs o2]
            simp only [Option.bind_some]
            by_cases c1 : zv (dabs (prow a x n i)) ≤ zv e
            · rw [if_pos (e2.mpr c1)]
              refine Ok.mk ⟨nI_1 i, fun i' hi' => ?_⟩
              by_cases w : i' = i
              · subst w; exact Int.not_lt.mpr c1
              · exact g i' (by omega)
            · rw [if_neg (fun w => c1 (e2.mp w))]
              exact Ok.mk ⟨rfl, fun w => w.2.1 i hi (Int.not_le.mp c1)⟩
        · rintro st ⟨rfl, g⟩
          simp (disch := omega) only [↓ite_le_t, ↓ite_le_f, ↓ite_lt_t, ↓ite_lt_f, s_M_isRay_B32]
          exact Ok.mk g
      · rintro (w | w) hw
        · have e1 := (e_total vl vw ve vt va vs vo v2 vnm vnn vnu vb hM hN h q).1
          have e2 := cv_ge (op := .g) nw hne
          simp only [Sum.elim_inl, e1, Option.bind_some, isb_0, isb_1, gd_t]
          by_cases c1 : zv (FP.dneg e) ≤ zv (vC c x n)
          · rw [if_pos (e2.mpr c1)]
            exact Ok.mk (Or.inr ⟨rfl, fun w => absurd w.2.2 (Int.not_lt.mpr c1)⟩)
          · rw [if_neg (fun w => c1 (e2.mp w))]
            exact Ok.mk (Or.inl ⟨rfl, hv, hw, Int.not_le.mp c1⟩)
        · exact Ok.mk (Or.inr hw)
    · exact Ok.mk (Or.inr hv)
