/-! the interior method: what holds at every turn -/
def SPb (m n : Nat) (A : (Nat → Nat → UInt64)) (b c : (Nat → UInt64)) : Prop := 1 ≤ m ∧ m ≤ 5 ∧ 1 ≤ n ∧ n ≤ 8 ∧ (∀ i, i < m → ∀ j, j < n → Bc 1 1084 (A i j)) ∧ (∀ i, i < m → Bc 1 1105 (b i)) ∧ ∀ j, j < n → Bc 1 1115 (c j)
theorem spb_of {m n : Nat} {A : (Nat → Nat → UInt64)} {b c : (Nat → UInt64)} {on : Int32} (h : Prob m n A b c) : SPb m n (sA on A m n) (sB on A b n) (sC on A c m n) := by
  obtain ⟨h1, h2, h3, h4, h5, h6, h7⟩ := h
  exact ⟨h1, h2, h3, h4, fun i hi j hj => sA_bc h5 hi hj, fun i hi => sB_bc (h5 i hi) (h6 i hi), fun j hj => sC_bc h5 hj (h7 j hj)⟩
def Itr (m n : Nat) (x s y : (Nat → UInt64)) : Prop := (∀ j, j < n → Bc 1 1927 (x j) ∧ 0 ≤ zv (x j) ∧ Bc 1 1856 (s j) ∧ 0 ≤ zv (s j)) ∧ ∀ i, i < m → Bc 1 1842 (y i)
theorem z9 : zv 4741671816366391296 ≤ (2 : Int) ^ 1104 := by decide +kernel
theorem z12 : (2 : Int) ^ 1034 ≤ zv 4427486594234968593 := by decide +kernel
/-- a number that is not outside -/
def ins (v : UInt64) : Prop := Bc 1 1104 v ∧ sg v = false ∧ 2 ^ 1034 ≤ mz v
theorem ins_of {v : UInt64} (hf : FP.Core.DFin v) (h : ¬ outs v) : ins v := by
  have h1 : zv v ≤ zv 4741671816366391296 := Int.not_lt.mp fun q => h (Or.inl q)
  have h2 : zv 4427486594234968593 ≤ zv v := Int.not_lt.mp fun q => h (Or.inr q)
  have h3 := Int.le_trans z12 h2
  have h4 := Int.le_trans h1 z9
  have h5 := zv_pos (Int.lt_of_lt_of_le (Int.pow_pos (by decide)) h3)
  rw [zv_f h5.1] at h3 h4
  refine ⟨⟨hf, ?_⟩, h5.1, ?_⟩
  · rw [Nat.one_mul]
    exact_mod_cast h4
  · exact_mod_cast h3
theorem bc2 {a : UInt64} {K : Nat} (h : Bc 2 K a) : Bc 1 (K + 1) a := h.one 1 (by decide)
theorem sub2 {a b : UInt64} {K : Nat} (ha : Bc 1 K a) (hb : Bc 1 K b) (hK : K ≤ 2045) : Bc 1 (K + 1) (FP.dsub a b) := bc2 (Bc.sub ha hb (by decide) hK)
theorem add2 {a b : UInt64} {K : Nat} (ha : Bc 1 K a) (hb : Bc 1 K b) (hK : K ≤ 2045) : Bc 1 (K + 1) (FP.dadd a b) := bc2 (Bc.add ha hb (by decide) hK)
theorem mx_bc {f : (Nat → UInt64)} {n K : Nat} (h : ∀ j, j < n → Bc 1 K (f j)) : Bc 1 K (mxR f n FP.dconst0) := by
  induction n with
  | zero => exact bc_0 _ _
  | succ n ih => exact Bc.max (ih fun j hj => h j (by omega)) (h n (by omega)).abs
theorem b_1 : Bc 1 1074 FP.dconst1 := ⟨⟨_, _, _, FP.Core.val64_dconst1⟩, by rw [m1, Nat.one_mul]; exact Nat.le_refl _⟩
theorem b_e8 : Bc 1 1074 e8 := ⟨fin_of (by decide +kernel), by decide +kernel⟩
theorem b_01 : Bc 1 1074 4591870180066957722 := ⟨fin_of (by decide +kernel), by decide +kernel⟩
theorem i2d_n : ∀ n, n < 9 → 1 ≤ n → fin64 (FP.i2d (nI n)) = true ∧ 2 ^ 1074 ≤ mz (FP.i2d (nI n)) := by decide +kernel
theorem lim_bc {w : UInt64} {K : Nat} (h : Bc 1 K w) (h1 : 1074 ≤ K) (hK : K ≤ 2044) : isn (FP.dadd FP.dconst1 w) = true ∧ isn (lim w) = true := by
  have a := add2 (b_1.k h1) h (by omega)
  exact ⟨a.isn, (mul_bc (M := K + 1) b_e8 a (by omega) (by omega)).isn⟩
/-- the measuring, by bounds of x, s, y -/
theorem meas {m n : Nat} {A : (Nat → Nat → UInt64)} {b c x s y : (Nat → UInt64)} {Kx Ky Ks : Nat} (hP : SPb m n A b c) (hKx : 1095 ≤ Kx ∧ Kx ≤ 1927) (hKy : 1105 ≤ Ky ∧ Ky ≤ 1856) (hKs : Ks ≤ Ky + 14) (hx : ∀ j, j < n → Bc 1 Kx (x j)) (hs : ∀ j, j < n → Bc 1 Ks (s j)) (hy : ∀ i, i < m → Bc 1 Ky (y i)) (hxs : okA (fun j => FP.dmul (x j) (s j)) n FP.dconst0 ∧ nnan (qg m n A b c x s y)) : MsOk m n A b c x s y ∧ EnOk m n A b c x s y ∧ (∀ i, i < m → Bc 1 (Kx + 14) (qP m n A b c x s y i)) ∧ ∀ j, j < n → Bc 1 (Ky + 15) (qD m n A b c x s y j) := by
  obtain ⟨m1', m5, n1', n8, hA, hb, hc⟩ := hP
  have p : ∀ i, i < m → okS (fun j => FP.dmul (A i j) (x j)) n (b i) ∧ Bc 1 (Kx + 10 + 4) (qP m n A b c x s y i) := fun i hi => okS_bc n8 (by omega) (fun j hj => mul_bc (hA i hi j hj) (hx j hj) (by omega) (by omega)) ((hb i hi).k (by omega))
  have d : ∀ j, j < n → okS (fun i => FP.dmul (A i j) (y i)) m (c j) ∧ Bc 1 (Ky + 10 + 4) (tDc A c y m j) := fun j hj => okS_bc (by omega) (by omega) (fun i hi => mul_bc (hA i hi j hj) (hy i hi) (by omega) (by omega)) ((hc j hj).k (by omega))
  have dd : ∀ j, j < n → Bc 1 (Ky + 15) (qD m n A b c x s y j) := fun j hj => sub2 (K := Ky + 14) (d j hj).2 ((hs j hj).k (by omega)) (by omega)
  have v : okA (fun j => FP.dmul (c j) (x j)) n FP.dconst0 ∧ Bc 1 (Kx + 41 + 4) (vC c x n) := okA_bc n8 (by omega) (fun j hj => mul_bc (hc j hj) (hx j hj) (by omega) (by omega)) (bc_0 _ _)
  refine ⟨⟨fun i hi => (p i hi).1, fun j hj => ⟨(d j hj).1, (dd j hj).isn⟩, hxs.1⟩, ⟨v.1, fun i hi => (p i hi).2.nn, fun j hj => (dd j hj).nn, hxs.2, fun i hi => (hb i hi).nn, fun j hj => (hc j hj).nn, fun j hj => (hx j hj).nn, fun j hj => (hs j hj).nn, fun i hi => (hy i hi).nn, v.2.nn, ?_⟩, fun i hi => (p i hi).2, dd⟩
  rintro w (rfl | rfl | rfl)
  · exact lim_bc (mx_bc hb) (by decide) (by decide)
  · exact lim_bc (mx_bc hc) (by decide) (by decide)
  · exact lim_bc v.2.abs (by omega) (by omega)
theorem inv_itr {m n : Nat} {A : (Nat → Nat → UInt64)} {b c : (Nat → UInt64)} (hP : SPb m n A b c) : InvI m n A b c (Itr m n) := by
  intro x s y ⟨hxs, hy⟩
  have gnn : ∀ j, j < n → nnan (FP.dmul (x j) (s j)) ∧ 0 ≤ zv (FP.dmul (x j) (s j)) := fun j hj => mul_nn (hxs j hj).1.fin (hxs j hj).2.2.1.fin (Or.inl ⟨(hxs j hj).2.1, (hxs j hj).2.2.2⟩)
  have g0 : okA (fun j => FP.dmul (x j) (s j)) n FP.dconst0 ∧ nnan (qg m n A b c x s y) := ⟨okA_nn gnn, (sums_nn gnn n (Nat.le_refl _)).1⟩
  obtain ⟨ms, en, -, -⟩ := meas hP (Kx := 1927) (Ky := 1842) (Ks := 1856) (by decide) (by decide) (by decide) (fun j hj => (hxs j hj).1) (fun j hj => (hxs j hj).2.2.1) hy g0
  refine ⟨ms, en, fun hl => ?_⟩
  have hl1 : ∀ j, j < n → ins (x j) ∧ ins (s j) := fun j hj => ⟨ins_of (hxs j hj).1.fin fun q => hl (Or.inl ⟨j, hj, Or.inl q⟩), ins_of (hxs j hj).2.2.1.fin fun q => hl (Or.inl ⟨j, hj, Or.inr q⟩)⟩
  have hl2 : ∀ i, i < m → Bc 1 1104 (y i) := fun i hi => by
    have h1 : zv (dabs (y i)) ≤ zv 4741671816366391296 := Int.not_lt.mp fun q => hl (Or.inr ⟨i, hi, q⟩)
    have h2 := Int.le_trans h1 z9
    rw [zv_abs, zv_mz] at h2
    refine ⟨(hy i hi).fin, ?_⟩
    rw [Nat.one_mul]
    exact_mod_cast h2
  obtain ⟨-, -, hp, hd⟩ := meas (y := y) hP (Kx := 1104) (Ky := 1105) (Ks := 1104) (by decide) (by decide) (by decide) (fun j hj => (hl1 j hj).1.1) (fun j hj => (hl1 j hj).2.1) (fun i hi => (hl2 i hi).k (by decide)) g0
  obtain ⟨m1', m5, n1', n8, hA, hb, hc⟩ := hP
  have hg : Bc 1 1138 (qg m n A b c x s y) := (okA_bc (K := 1134) n8 (by decide) (fun j hj => mul_bc (hl1 j hj).1.1 (hl1 j hj).2.1 (by decide) (by decide)) (bc_0 _ _)).2
  obtain ⟨n2, n3⟩ := i2d_n n (by omega) n1'
  have hgn : Bc 1 1138 (FP.ddiv (qg m n A b c x s y) (FP.i2d (nI n))) := div_bc hg (fin_of n2) n3 (by decide) (by decide)
  have hu : Bc 1 1138 (qu m n A b c x s y) := mul_bc b_01 hgn (by decide) (by decide)
  have hh : ∀ j, j < n → Bc 1 1144 (tH x s j) := fun j hj => div_bc (hl1 j hj).1.1 (hl1 j hj).2.1.fin (hl1 j hj).2.2.2 (by decide) (by decide)
  have hus : ∀ j, j < n → Bc 1 1178 (FP.ddiv (qu m n A b c x s y) (s j)) := fun j hj => div_bc hu (hl1 j hj).2.1.fin (hl1 j hj).2.2.2 (by decide) (by decide)
  have hxu : ∀ j, j < n → Bc 1 1179 (FP.dsub (x j) (FP.ddiv (qu m n A b c x s y) (s j))) := fun j hj => sub2 ((hl1 j hj).1.1.k (by decide)) (hus j hj) (by decide)
  have hhd : ∀ j, j < n → Bc 1 1190 (FP.dmul (tH x s j) (qD m n A b c x s y j)) := fun j hj => mul_bc (hh j hj) (hd j hj) (by decide) (by decide)
  have hf : ∀ j, j < n → Bc 1 1191 (qf m n A b c x s y j) := fun j hj => add2 ((hxu j hj).k (by decide)) (hhd j hj) (by decide)
  have hr : ∀ i, i < m → okA (fun j => FP.dmul (A i j) (qf m n A b c x s y j)) n (qP m n A b c x s y i) ∧ Bc 1 1205 (qr m n A b c x s y i) := fun i hi => okA_bc (K := 1201) n8 (by decide) (fun j hj => mul_bc (hA i hi j hj) (hf j hj) (by decide) (by decide)) ((hp i hi).k (by decide))
  have hah : ∀ i, i < m → ∀ j, j < n → Bc 1 1154 (FP.dmul (A i j) (tH x s j)) := fun i hi j hj => mul_bc (hA i hi j hj) (hh j hj) (by decide) (by decide)
  have hG : ∀ i, i < m → ∀ k, k ≤ i → okA (fun j => FP.dmul (FP.dmul (A i j) (tH x s j)) (A k j)) n FP.dconst0 ∧ Bc 1 1168 (qG m n A b c x s y i k) := fun i hi k hk => okA_bc (K := 1164) n8 (by decide) (fun j hj => mul_bc (hah i hi j hj) (hA k (by omega) j hj) (by decide) (by decide)) (bc_0 _ _)
  have hG' : ∀ i, i < m → ∀ k, k ≤ i → Bc 1 1168 (qG m n A b c x s y i k) := fun i hi k hk => (hG i hi k hk).2
  refine ⟨⟨hgn.isn, hu.isn, fun j hj => ⟨(hh j hj).isn, (hus j hj).isn, (hxu j hj).isn, (hhd j hj).isn, (hf j hj).isn⟩, fun i hi => (hr i hi).1, fun i hi k hk => ⟨fun j hj => (hah i hi j hj).isn, (hG i hi k hk).1⟩, facOk_of m5 hG'⟩, fun hgood => ?_⟩
  have rows := rows_ok m5 hG' m (Nat.le_refl _) hgood
  obtain ⟨sol, hY⟩ := solOk_of (r := qr m n A b c x s y) m5 rows (fun i hi => (hr i hi).2)
  have hS : ∀ j, j < n → okS (fun i => FP.dmul (A i j) (qY m n A b c x s y i)) m (qD m n A b c x s y j) ∧ Bc 1 1855 (qS m n A b c x s y j) := fun j hj => okS_bc (K := 1851) (by omega) (by decide) (fun i hi => mul_bc (hA i hi j hj) (hY i hi) (by decide) (by decide)) ((hd j hj).k (by decide))
  have hux : ∀ j, j < n → Bc 1 1179 (FP.dsub (FP.ddiv (qu m n A b c x s y) (s j)) (x j)) := fun j hj => sub2 (hus j hj) ((hl1 j hj).1.1.k (by decide)) (by decide)
  have hhS : ∀ j, j < n → Bc 1 1925 (FP.dmul (tH x s j) (qS m n A b c x s y j)) := fun j hj => mul_bc (hh j hj) (hS j hj).2 (by decide) (by decide)
  have hX : ∀ j, j < n → Bc 1 1926 (qX m n A b c x s y j) := fun j hj => sub2 ((hux j hj).k (by decide)) (hhS j hj) (by decide)
  obtain ⟨lx, lx2⟩ := lg_bc (x := x) (dx := qX m n A b c x s y) (n := n) (fun j hj => ⟨(hl1 j hj).1.1.fin, (hl1 j hj).1.2.1⟩) (fun j hj => (hX j hj).fin)
  obtain ⟨ls, ls2⟩ := lg_bc (x := s) (dx := qS m n A b c x s y) (n := n) (fun j hj => ⟨(hl1 j hj).2.1.fin, (hl1 j hj).2.2.1⟩) (fun j hj => (hS j hj).2.fin)
  obtain ⟨⟨a1, a2⟩, a3⟩ := lx2 n (Nat.le_refl _)
  obtain ⟨⟨e1, e2⟩, e3⟩ := ls2 n (Nat.le_refl _)
  have haX : ∀ j, j < n → Bc 1 1926 (FP.dmul (qa m n A b c x s y) (qX m n A b c x s y j)) := fun j hj => mul_bc a1 (hX j hj) (by decide) (by decide)
  have heS : ∀ j, j < n → Bc 1 1855 (FP.dmul (qe m n A b c x s y) (qS m n A b c x s y j)) := fun j hj => mul_bc e1 (hS j hj).2 (by decide) (by decide)
  have heY : ∀ i, i < m → Bc 1 1841 (FP.dmul (qe m n A b c x s y) (qY m n A b c x s y i)) := fun i hi => mul_bc e1 (hY i hi) (by decide) (by decide)
  have hx' : ∀ j, j < n → Bc 1 1927 (mv x (qX m n A b c x s y) (qa m n A b c x s y) j) := fun j hj => add2 ((hl1 j hj).1.1.k (by decide)) (haX j hj) (by decide)
  have hs' : ∀ j, j < n → Bc 1 1856 (mv s (qS m n A b c x s y) (qe m n A b c x s y) j) := fun j hj => add2 ((hl1 j hj).2.1.k (by decide)) (heS j hj) (by decide)
  have hy' : ∀ i, i < m → Bc 1 1842 (mv y (qY m n A b c x s y) (qe m n A b c x s y) i) := fun i hi => add2 ((hl2 i hi).k (by decide)) (heY i hi) (by decide)
  have mzx : ∀ {v : UInt64}, ins v → mz v ≤ 2 ^ 1104 := fun h => by
    have := h.1.mz
    rwa [Nat.one_mul] at this
  refine ⟨⟨sol, fun j hj => ⟨(hS j hj).1, (hux j hj).isn, (hhS j hj).isn, (hX j hj).isn, (hS j hj).2.nn⟩, fun j hj => ⟨(lx j hj).2, (ls j hj).2⟩, fun j hj => ⟨(haX j hj).isn, (hx' j hj).isn, (heS j hj).isn, (hs' j hj).isn⟩, fun i hi => ⟨(heY i hi).isn, (hy' i hi).isn⟩⟩, fun j hj => ?_, fun i hi => ?_⟩
  · unfold nx ns
    rw [wr_in hj, wr_in hj]
    refine ⟨hx' j hj, ?_, hs' j hj, ?_⟩
    · exact mv_nn (hl1 j hj).1.1.fin (hl1 j hj).1.2.1 (hl1 j hj).1.2.2 (mzx (hl1 j hj).1) (hX j hj) (by decide) a1 a2 (a3 j hj) (haX j hj).fin
    · exact mv_nn (hl1 j hj).2.1.fin (hl1 j hj).2.2.1 (hl1 j hj).2.2.2 (mzx (hl1 j hj).2) (hS j hj).2 (by decide) e1 e2 (e3 j hj) (heS j hj).fin
  · unfold ny
    rw [wr_in hi]
    exact hy' i hi
theorem back_itr {m n : Nat} {A : (Nat → Nat → UInt64)} {on : Int32} (hn : n ≤ 8) (h : ∀ i, i < m → ∀ j, j < n → okn (A i j)) : BackOk m n (tR on A n) (tV on A m n) (Itr m n) := by
  intro x s y ⟨hxs, hy⟩
  refine ⟨fun j hj => ⟨?_, ?_⟩, fun i hi => ?_⟩
  · exact (mul_bc (M := 1958) (tV_bc h hj).1 (hxs j hj).1 (by decide) (by decide)).isn
  · exact (div_bc (M := 1866) (hxs j hj).2.2.1 (tV_bc h hj).1.fin (tV_bc h hj).2 (by decide) (by decide)).isn
  · exact (mul_bc (M := 1863) (tR_bc (h i hi)) (hy i hi) (by decide) (by decide)).isn
