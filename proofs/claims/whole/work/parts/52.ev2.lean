/-! Problem, Point, Scales -/
def okS (f : Nat → UInt64) (n : Nat) (z : UInt64) : Prop := (∀ k, k < n → isn (f k) = true) ∧ ∀ k, k < n → isn (subR f (k + 1) z) = true
def okA (f : Nat → UInt64) (n : Nat) (z : UInt64) : Prop := (∀ k, k < n → isn (f k) = true) ∧ ∀ k, k < n → isn (sumR f (k + 1) z) = true
theorem e_lessRow2 {N m n i : Nat} {A : Nat → Nat → UInt64} {x : Nat → UInt64} {z : UInt64} (hN : n ≤ N) (hn : n ≤ 8) (hNN : N ≤ 300) (hi : i < 5) (h : okS (fun j => FP.dmul (A i j) (x j)) n z) : s_Pb_lessRow N (nI m) (nI n) A x z (nI i) = some (subR (fun j => FP.dmul (A i j) (x j)) n z) :=
  e_lessRow hN hn hNN hi h.1 h.2 _
theorem e_plusRow {N m n i : Nat} {A : Nat → Nat → UInt64} {x : Nat → UInt64} {z : UInt64} (hN : n ≤ N) (hn : n ≤ 8) (hNN : N ≤ 300) (hi : i < 5) (h : okA (fun j => FP.dmul (A i j) (x j)) n z) : s_Pb_plusRow N (nI m) (nI n) A x z (nI i) = some (sumR (fun j => FP.dmul (A i j) (x j)) n z) := by
  unfold s_Pb_plusRow s_Pb_plusRow_L6
  refine loop_b n (fun k => (sumR (fun j => FP.dmul (A i j) (x j)) k z, nI k)) _ rfl (by omega) (fun k hk => ?_) ?_ rfl
  · have h1 := h.1 k hk
    have h2 := h.2 k hk
    simp only [s_Pb_plusRow_B6, if_neg (nI_ge hk (by omega)), inb_nI hi (by omega), inb_nI (show k < 8 by omega) (by omega), inb_nI (show k < N by omega) (by omega), gd_t, nI_clamp (show k < 2 ^ 31 by omega), nI_clamp (show i < 2 ^ 31 by omega), h1, ← sumR_s, h2, nI_1]
  · simp only [s_Pb_plusRow_B6, if_pos (nI_le (Nat.le_refl n) (by omega))]
theorem e_lessColumn {N m n j : Nat} {A : Nat → Nat → UInt64} {x : Nat → UInt64} {z : UInt64} (hN : m ≤ N) (hm : m ≤ 5) (hNN : N ≤ 300) (hj : j < 8) (h : okS (fun i => FP.dmul (A i j) (x i)) m z) : s_Pb_lessColumn N (nI m) (nI n) A x z (nI j) = some (subR (fun i => FP.dmul (A i j) (x i)) m z) := by
  unfold s_Pb_lessColumn s_Pb_lessColumn_L6
  refine loop_b m (fun k => (subR (fun i => FP.dmul (A i j) (x i)) k z, nI k)) _ rfl (by omega) (fun k hk => ?_) ?_ rfl
  · have h1 := h.1 k hk
    have h2 := h.2 k hk
    simp only [s_Pb_lessColumn_B6, if_neg (nI_ge hk (by omega)), inb_nI hj (by omega), inb_nI (show k < 5 by omega) (by omega), inb_nI (show k < N by omega) (by omega), gd_t, nI_clamp (show k < 2 ^ 31 by omega), nI_clamp (show j < 2 ^ 31 by omega), h1, ← subR_s, h2, nI_1]
  · simp only [s_Pb_lessColumn_B6, if_pos (nI_le (Nat.le_refl m) (by omega))]
theorem e_plusColumn {N m n j : Nat} {A : Nat → Nat → UInt64} {x : Nat → UInt64} {z : UInt64} (hN : m ≤ N) (hm : m ≤ 5) (hNN : N ≤ 300) (hj : j < 8) (h : okA (fun i => FP.dmul (A i j) (x i)) m z) : s_Pb_plusColumn N (nI m) (nI n) A x z (nI j) = some (sumR (fun i => FP.dmul (A i j) (x i)) m z) := by
  unfold s_Pb_plusColumn s_Pb_plusColumn_L6
  refine loop_b m (fun k => (sumR (fun i => FP.dmul (A i j) (x i)) k z, nI k)) _ rfl (by omega) (fun k hk => ?_) ?_ rfl
  · have h1 := h.1 k hk
    have h2 := h.2 k hk
    simp only [s_Pb_plusColumn_B6, if_neg (nI_ge hk (by omega)), inb_nI hj (by omega), inb_nI (show k < 5 by omega) (by omega), inb_nI (show k < N by omega) (by omega), gd_t, nI_clamp (show k < 2 ^ 31 by omega), nI_clamp (show j < 2 ^ 31 by omega), h1, ← sumR_s, h2, nI_1]
  · simp only [s_Pb_plusColumn_B6, if_pos (nI_le (Nat.le_refl m) (by omega))]
theorem e_product {N1 N2 n : Nat} {v w : Nat → UInt64} (h1 : n ≤ N1) (h2 : n ≤ N2) (hN1 : N1 ≤ 300) (hN2 : N2 ≤ 300) (h : okA (fun k => FP.dmul (v k) (w k)) n FP.dconst0) : s_Pb_product N1 N2 v w (nI n) = some (sumR (fun k => FP.dmul (v k) (w k)) n FP.dconst0) := by
  unfold s_Pb_product s_Pb_product_L5
  refine loop_b n (fun k => (sumR (fun k => FP.dmul (v k) (w k)) k FP.dconst0, nI k)) _ rfl (by omega) (fun k hk => ?_) ?_ rfl
  · have g1 := h.1 k hk
    have g2 := h.2 k hk
    simp only [s_Pb_product_B5, if_neg (nI_ge hk (by omega)), inb_nI (show k < N1 by omega) (by omega), inb_nI (show k < N2 by omega) (by omega), gd_t, nI_clamp (show k < 2 ^ 31 by omega), g1, ← sumR_s, g2, nI_1]
  · simp only [s_Pb_product_B5, if_pos (nI_le (Nat.le_refl n) (by omega))]
theorem e_costOf {N m n : Nat} {c x : Nat → UInt64} (hn : n ≤ 8) (hN : n ≤ N) (hNN : N ≤ 300) (h : okA (fun k => FP.dmul (c k) (x k)) n FP.dconst0) : s_Pb_costOf N (nI m) (nI n) c x = some (sumR (fun k => FP.dmul (c k) (x k)) n FP.dconst0) := by
  unfold s_Pb_costOf
  rw [e_product hn hN (by omega) hNN h]
  rfl
theorem e_worthOf {N m n : Nat} {b y : Nat → UInt64} (hm : m ≤ 5) (hN : m ≤ N) (hNN : N ≤ 300) (h : okA (fun k => FP.dmul (b k) (y k)) m FP.dconst0) : s_Pb_worthOf N (nI m) (nI n) b y = some (sumR (fun k => FP.dmul (b k) (y k)) m FP.dconst0) := by
  unfold s_Pb_worthOf
  rw [e_product hm hN (by omega) hNN h]
  rfl
theorem e_complementarity {n : Nat} {x s : Nat → UInt64} (hn : n ≤ 8) (h : okA (fun k => FP.dmul (x k) (s k)) n FP.dconst0) : s_Pt_complementarity x s (nI n) = some (sumR (fun k => FP.dmul (x k) (s k)) n FP.dconst0) := by
  unfold s_Pt_complementarity
  rw [e_product hn hn (by omega) (by omega) h]
  rfl
theorem e_clear (R V : Int32) (a : Nat → Nat → UInt64) (b c : Nat → UInt64) (m n : Int32) : s_Pb_clear R V a b c m n = some (m, n, wr 5 (fun i => wr 8 (fun _ => FP.dconst0) (a i)) a, wr 5 (fun _ => FP.dconst0) b, wr 8 (fun _ => FP.dconst0) c) := by
  unfold s_Pb_clear s_Pb_clear_L12
  refine loop_b 5 (fun k => (wr k (fun i => wr 8 (fun _ => FP.dconst0) (a i)) a, nI k)) (wr 5 (fun i => wr 8 (fun _ => FP.dconst0) (a i)) a) (by rw [wr_0]; rfl) (by omega) (fun k hk => ?_) ?_ ?_
  rotate_left
  · simp only [s_Pb_clear_B12, if_pos (show (5 : Int32) ≤ nI 5 from nI_le (Nat.le_refl 5) (by omega))]
  · rw [e_fill 5 (by omega), e_fill 8 (by omega)]
    rfl
  · have h1 : wr k (fun i => wr 8 (fun _ => FP.dconst0) (a i)) a k = a k := wr_out (by omega)
    simp only [s_Pb_clear_B12, if_neg (show ¬ (5 : Int32) ≤ nI k from nI_ge hk (by omega)), inb_nI hk (by omega), gd_t, nI_clamp (show k < 2 ^ 31 by omega), h1, e_fill 8 (by omega), Option.bind_some, wrg_s (F := fun i => wr 8 (fun _ => FP.dconst0) (a i)), nI_1]
theorem cpy_wr (N : Nat) (f g : Nat → UInt64) : va_cpy f g 0 0 N = wr N f g := by
  funext k
  simp [va_cpy, wr]
theorem e_copy (R V : Int32) (a : Nat → Nat → UInt64) (b c : Nat → UInt64) (m n : Int32) (a1 : Nat → Nat → UInt64) (b1 c1 : Nat → UInt64) : s_Pb_copy R V a b c m n a1 b1 c1 = some (m, n, wr 5 (fun i => wr 8 (a1 i) (a i)) a, wr 5 b1 b, wr 8 c1 c) := by
  unfold s_Pb_copy s_Pb_copy_L18
  refine loop_b 5 (fun k => (wr k (fun i => wr 8 (a1 i) (a i)) a, nI k)) (wr 5 (fun i => wr 8 (a1 i) (a i)) a) (by rw [wr_0]; rfl) (by omega) (fun k hk => ?_) ?_ ?_
  rotate_left
  · simp only [s_Pb_copy_B18, if_pos (show (5 : Int32) ≤ nI 5 from nI_le (Nat.le_refl 5) (by omega))]
  · rw [show (0 : Int32).toNatClampNeg = 0 from rfl, show (5 : Int32).toNatClampNeg = 5 from rfl, show (8 : Int32).toNatClampNeg = 8 from rfl, cpy_wr, cpy_wr]
  · have h1 : wr k (fun i => wr 8 (a1 i) (a i)) a k = a k := wr_out (by omega)
    simp only [s_Pb_copy_B18, if_neg (show ¬ (5 : Int32) ≤ nI k from nI_ge hk (by omega)), inb_nI hk (by omega), gd_t, nI_clamp (show k < 2 ^ 31 by omega), h1, show (0 : Int32).toNatClampNeg = 0 from rfl, show (8 : Int32).toNatClampNeg = 8 from rfl, cpy_wr, wrg_s (F := fun i => wr 8 (a1 i) (a i)), nI_1]
theorem e_ptfill (x s y : Nat → UInt64) (u v : UInt64) : s_Pt_fill x s y u v = some (wr 8 (fun _ => u) x, wr 8 (fun _ => u) s, wr 5 (fun _ => v) y) := by
  unfold s_Pt_fill
  rw [e_fill 8 (by omega), e_fill 8 (by omega), e_fill 5 (by omega)]
  rfl
theorem nn_fd_max {f : Nat → UInt64} {n : Nat} {z : UInt64} (hz : nnan z) (h : ∀ k, k < n → nnan (f k)) : nnan (mxR f n z) := by
  induction n with
  | zero => exact hz
  | succ n ih => exact nn_max (ih (fun k hk => h k (by omega))) (nn_abs (h n (by omega)))
theorem mxR_s (f : Nat → UInt64) (n : Nat) (z : UInt64) : mxR f (n + 1) z = dmax (mxR f n z) (dabs (f n)) := rfl
theorem e_greatestOf {N n : Nat} {v : Nat → UInt64} (hn : n ≤ N) (hN : N ≤ 300) (h : ∀ k, k < n → nnan (v k)) : s_C_greatestOf N v (nI n) = some (mxR v n FP.dconst0) := by
  unfold s_C_greatestOf s_C_greatestOf_L5
  refine loop_b n (fun k => (mxR v k FP.dconst0, nI k)) _ rfl (by omega) (fun k hk => ?_) ?_ rfl
  · simp only [s_C_greatestOf_B5, if_neg (nI_ge hk (by omega)), inb_nI (show k < N by omega) (by omega), gd_t, nI_clamp (show k < 2 ^ 31 by omega), e_absolute (h k hk), Option.bind_some, e_greater (nn_fd_max nn_0 (fun j hj => h j (by omega))) (nn_abs (h k hk)), ← mxR_s, nI_1]
  · simp only [s_C_greatestOf_B5, if_pos (nI_le (Nat.le_refl n) (by omega))]
def dpR (x s : Nat → UInt64) (n : Nat) (z : UInt64) : UInt64 := fd (fun k a => dmax (dmax a (FP.dneg (x k))) (FP.dneg (s k))) n z
theorem e_deepest {n : Nat} {x s : Nat → UInt64} (hn : n ≤ 8) (hx : ∀ k, k < n → nnan (x k)) (hs : ∀ k, k < n → nnan (s k)) : s_Pt_deepest x s (nI n) = some (dpR x s n FP.dconst0) := by
  have hnn : ∀ k, k ≤ n → nnan (dpR x s k FP.dconst0) := by
    intro k
    induction k with
    | zero => intro _; exact nn_0
    | succ k ih => intro hk; exact nn_max (nn_max (ih (by omega)) (nn_neg.mpr (hx k (by omega)))) (nn_neg.mpr (hs k (by omega)))
  unfold s_Pt_deepest s_Pt_deepest_L5
  refine loop_b n (fun k => (dpR x s k FP.dconst0, nI k)) _ rfl (by omega) (fun k hk => ?_) ?_ rfl
  · simp only [s_Pt_deepest_B5, if_neg (nI_ge hk (by omega)), inb_nI (show k < 8 by omega) (by omega), gd_t, nI_clamp (show k < 2 ^ 31 by omega), e_greater (hnn k (by omega)) (nn_neg.mpr (hx k hk)), Option.bind_some, e_greater (nn_max (hnn k (by omega)) (nn_neg.mpr (hx k hk))) (nn_neg.mpr (hs k hk)), nI_1]
    rfl
  · simp only [s_Pt_deepest_B5, if_pos (nI_le (Nat.le_refl n) (by omega))]
theorem gset_at (M : Nat → Nat → UInt64) (i : Nat) (r : Nat → UInt64) : gset M i r i = r := if_pos rfl
theorem gset_gset (M : Nat → Nat → UInt64) (i : Nat) (r r2 : Nat → UInt64) : gset (gset M i r) i r2 = gset M i r2 := by
  funext k
  unfold gset
  by_cases h : k = i <;> simp [h]
theorem gset_self (M : Nat → Nat → UInt64) (i : Nat) : gset M i (M i) = M := by
  funext k
  unfold gset
  by_cases h : k = i
  · subst h; simp
  · simp [h]
/-- applying the scales -/
theorem e_apply {m n : Nat} {r v : Nat → UInt64} {a : Nat → Nat → UInt64} {b c : Nat → UInt64} {R2 V2 : Int32} {a2 : Nat → Nat → UInt64} {b2 c2 : Nat → UInt64} (hm : m ≤ 5) (hn : n ≤ 8)
    (h1 : ∀ i, i < m → ∀ j, j < n → isn (FP.dmul (r i) (a i j)) = true) (h2 : ∀ i, i < m → ∀ j, j < n → isn (FP.dmul (FP.dmul (r i) (a i j)) (v j)) = true) (h3 : ∀ i, i < m → isn (FP.dmul (r i) (b i)) = true) (h4 : ∀ j, j < n → isn (FP.dmul (c j) (v j)) = true) :
    s_Sc_apply r v (nI m) (nI n) a b c R2 V2 a2 b2 c2 = some (nI m, nI n, wr m (fun i => wr n (fun j => FP.dmul (FP.dmul (r i) (a i j)) (v j)) ((wr 5 (fun i => wr 8 (fun _ => FP.dconst0) (a2 i)) a2) i)) (wr 5 (fun i => wr 8 (fun _ => FP.dconst0) (a2 i)) a2), wr m (fun i => FP.dmul (r i) (b i)) (wr 5 (fun _ => FP.dconst0) b2), wr n (fun j => FP.dmul (c j) (v j)) (wr 8 (fun _ => FP.dconst0) c2)) := by
  unfold s_Sc_apply
  rw [e_clear]
  generalize wr 5 (fun i => wr 8 (fun _ => FP.dconst0) (a2 i)) a2 = a3
  generalize wr 5 (fun _ => FP.dconst0) b2 = b3
  generalize wr 8 (fun _ => FP.dconst0) c2 = c3
  simp only [Option.bind_some]
  unfold s_Sc_apply_L14
  refine loop_b m (fun k => (wr k (fun i => wr n (fun j => FP.dmul (FP.dmul (r i) (a i j)) (v j)) (a3 i)) a3, wr k (fun i => FP.dmul (r i) (b i)) b3, nI k)) (wr m (fun i => wr n (fun j => FP.dmul (FP.dmul (r i) (a i j)) (v j)) (a3 i)) a3, wr m (fun i => FP.dmul (r i) (b i)) b3) (by rw [wr_0, wr_0]; rfl) (by omega) (fun i hi => ?_) ?_ ?_
  · have hM : wr i (fun i => wr n (fun j => FP.dmul (FP.dmul (r i) (a i j)) (v j)) (a3 i)) a3 i = a3 i := wr_out (by omega)
    simp only [s_Sc_apply_B14, if_neg (nI_ge hi (by omega))]
    unfold s_Sc_apply_L25
    refine loop_b n (fun j => (gset (wr i (fun i => wr n (fun j => FP.dmul (FP.dmul (r i) (a i j)) (v j)) (a3 i)) a3) i (wr j (fun j => FP.dmul (FP.dmul (r i) (a i j)) (v j)) (a3 i)), nI j)) (gset (wr i (fun i => wr n (fun j => FP.dmul (FP.dmul (r i) (a i j)) (v j)) (a3 i)) a3) i (wr n (fun j => FP.dmul (FP.dmul (r i) (a i j)) (v j)) (a3 i))) ?_ (by omega) (fun j hj => ?_) ?_ ?_
    · rw [wr_0]
      show (gset _ i (a3 i), nI 0) = _
      rw [← hM, gset_self, hM]
      rfl
    · have g1 := h1 i hi j hj
      have g2 := h2 i hi j hj
      simp only [s_Sc_apply_B25, if_neg (nI_ge hj (by omega)), inb_nI (show i < 5 by omega) (by omega), inb_nI (show j < 8 by omega) (by omega), gd_t, nI_clamp (show i < 2 ^ 31 by omega), nI_clamp (show j < 2 ^ 31 by omega), g1, g2, gset_at, gset_gset, wr_s (F := fun j => FP.dmul (FP.dmul (r i) (a i j)) (v j)), nI_1]
    · simp only [s_Sc_apply_B25, if_pos (nI_le (Nat.le_refl n) (by omega))]
    · have g3 := h3 i hi
      simp only [inb_nI (show i < 5 by omega) (by omega), gd_t, nI_clamp (show i < 2 ^ 31 by omega), g3, wr_s (F := fun i => FP.dmul (r i) (b i)), wrg_s (F := fun i => wr n (fun j => FP.dmul (FP.dmul (r i) (a i j)) (v j)) (a3 i)), nI_1]
  · simp only [s_Sc_apply_B14, if_pos (nI_le (Nat.le_refl m) (by omega))]
  · unfold s_Sc_apply_L100
    refine loop_b n (fun j => (wr j (fun j => FP.dmul (c j) (v j)) c3, nI j)) (wr n (fun j => FP.dmul (c j) (v j)) c3) (by rw [wr_0]; rfl) (by omega) (fun j hj => ?_) ?_ rfl
    · have g4 := h4 j hj
      simp only [s_Sc_apply_B100, if_neg (nI_ge hj (by omega)), inb_nI (show j < 8 by omega) (by omega), gd_t, nI_clamp (show j < 2 ^ 31 by omega), g4, wr_s (F := fun j => FP.dmul (c j) (v j)), nI_1]
    · simp only [s_Sc_apply_B100, if_pos (nI_le (Nat.le_refl n) (by omega))]
theorem e_unscale {r v x s y x2 s2 y2 : Nat → UInt64} (h1 : ∀ j, j < 8 → isn (FP.dmul (v j) (x j)) = true) (h2 : ∀ j, j < 8 → isn (FP.ddiv (s j) (v j)) = true) (h3 : ∀ i, i < 5 → isn (FP.dmul (r i) (y i)) = true) :
    s_Sc_unscale r v x s y x2 s2 y2 = some (wr 8 (fun j => FP.dmul (v j) (x j)) x2, wr 8 (fun j => FP.ddiv (s j) (v j)) s2, wr 5 (fun i => FP.dmul (r i) (y i)) y2) := by
  unfold s_Sc_unscale s_Sc_unscale_L2
  refine loop_b 8 (fun j => (wr j (fun j => FP.dmul (v j) (x j)) x2, wr j (fun j => FP.ddiv (s j) (v j)) s2, nI j)) (wr 8 (fun j => FP.dmul (v j) (x j)) x2, wr 8 (fun j => FP.ddiv (s j) (v j)) s2) (by rw [wr_0, wr_0]; rfl) (by omega) (fun j hj => ?_) ?_ ?_
  · have g1 := h1 j hj
    have g2 := h2 j hj
    simp only [s_Sc_unscale_B2, if_neg (show ¬ (8 : Int32) ≤ nI j from nI_ge hj (by omega)), inb_nI hj (by omega), gd_t, nI_clamp (show j < 2 ^ 31 by omega), g1, g2, wr_s (F := fun j => FP.dmul (v j) (x j)), wr_s (F := fun j => FP.ddiv (s j) (v j)), nI_1]
  · simp only [s_Sc_unscale_B2, if_pos (show (8 : Int32) ≤ nI 8 from nI_le (Nat.le_refl 8) (by omega))]
  · unfold s_Sc_unscale_L54
    refine loop_b 5 (fun i => (wr i (fun i => FP.dmul (r i) (y i)) y2, nI i)) (wr 5 (fun i => FP.dmul (r i) (y i)) y2) (by rw [wr_0]; rfl) (by omega) (fun i hi => ?_) ?_ rfl
    · have g3 := h3 i hi
      simp only [s_Sc_unscale_B54, if_neg (show ¬ (5 : Int32) ≤ nI i from nI_ge hi (by omega)), inb_nI hi (by omega), gd_t, nI_clamp (show i < 2 ^ 31 by omega), g3, wr_s (F := fun i => FP.dmul (r i) (y i)), nI_1]
    · simp only [s_Sc_unscale_B54, if_pos (show (5 : Int32) ≤ nI 5 from nI_le (Nat.le_refl 5) (by omega))]
