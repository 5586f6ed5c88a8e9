/-! one turn of the interior method, by the state at its beginning -/
def tS (A : (Nat → Nat → UInt64)) (d Y : (Nat → UInt64)) (m j : Nat) : UInt64 := subR (fun i => FP.dmul (A i j) (Y i)) m (d j)
def tX (x s h S : (Nat → UInt64)) (u : UInt64) (j : Nat) : UInt64 := FP.dsub (FP.dsub (FP.ddiv u (s j)) (x j)) (FP.dmul (h j) (S j))
def lgB (x dx : (Nat → UInt64)) (j : Nat) (a : UInt64) : UInt64 := if zv (dx j) < 0 then (if zv (FP.dmul 4607137382803743703 (FP.ddiv (x j) (FP.dneg (dx j)))) < zv a then FP.dmul 4607137382803743703 (FP.ddiv (x j) (FP.dneg (dx j))) else a) else a
def lgR (x dx : (Nat → UInt64)) (n : Nat) : UInt64 := fd (lgB x dx) n FP.dconst1
def mv (x dx : (Nat → UInt64)) (a : UInt64) (j : Nat) : UInt64 := FP.dadd (x j) (FP.dmul a (dx j))
def qP (m n : Nat) (A : (Nat → Nat → UInt64)) (b c x s y : (Nat → UInt64)) : (Nat → UInt64) := tP A b x n
def qD (m n : Nat) (A : (Nat → Nat → UInt64)) (b c x s y : (Nat → UInt64)) : (Nat → UInt64) := tD A c y s m
def qg (m n : Nat) (A : (Nat → Nat → UInt64)) (b c x s y : (Nat → UInt64)) : UInt64 := tG x s n
def qu (m n : Nat) (A : (Nat → Nat → UInt64)) (b c x s y : (Nat → UInt64)) : UInt64 := tU (qg m n A b c x s y) n
def qf (m n : Nat) (A : (Nat → Nat → UInt64)) (b c x s y : (Nat → UInt64)) : (Nat → UInt64) := tF x s (qD m n A b c x s y) (qu m n A b c x s y)
def qr (m n : Nat) (A : (Nat → Nat → UInt64)) (b c x s y : (Nat → UInt64)) : (Nat → UInt64) := tRs A (qP m n A b c x s y) (qf m n A b c x s y) n
def qG (m n : Nat) (A : (Nat → Nat → UInt64)) (b c x s y : (Nat → UInt64)) : (Nat → Nat → UInt64) := tMm A (tH x s) n
def qY (m n : Nat) (A : (Nat → Nat → UInt64)) (b c x s y : (Nat → UInt64)) : (Nat → UInt64) := tY (qG m n A b c x s y) (qr m n A b c x s y) m
def qS (m n : Nat) (A : (Nat → Nat → UInt64)) (b c x s y : (Nat → UInt64)) : (Nat → UInt64) := tS A (qD m n A b c x s y) (qY m n A b c x s y) m
def qX (m n : Nat) (A : (Nat → Nat → UInt64)) (b c x s y : (Nat → UInt64)) : (Nat → UInt64) := tX x s (tH x s) (qS m n A b c x s y) (qu m n A b c x s y)
def qa (m n : Nat) (A : (Nat → Nat → UInt64)) (b c x s y : (Nat → UInt64)) : UInt64 := lgR x (qX m n A b c x s y) n
def qe (m n : Nat) (A : (Nat → Nat → UInt64)) (b c x s y : (Nat → UInt64)) : UInt64 := lgR s (qS m n A b c x s y) n
def vC (c x : (Nat → UInt64)) (n : Nat) : UInt64 := sumR (fun j => FP.dmul (c j) (x j)) n FP.dconst0
def e8 : UInt64 := 4487126258331716666
def lim (w : UInt64) : UInt64 := FP.dmul e8 (FP.dadd FP.dconst1 w)
/-- the end 'solved' -/
def qSol (m n : Nat) (A : (Nat → Nat → UInt64)) (b c x s y : (Nat → UInt64)) : Prop := zv (mxR (qP m n A b c x s y) m FP.dconst0) ≤ zv (lim (mxR b m FP.dconst0)) ∧ zv (mxR (qD m n A b c x s y) n FP.dconst0) ≤ zv (lim (mxR c n FP.dconst0)) ∧ zv (qg m n A b c x s y) ≤ zv (lim (dabs (vC c x n)))
def outs (v : UInt64) : Prop := zv 4741671816366391296 < zv v ∨ zv v < zv 4427486594234968593
/-- the end 'lost' -/
def qLost (m n : Nat) (A : (Nat → Nat → UInt64)) (b c x s y : (Nat → UInt64)) : Prop := (∃ j, j < n ∧ (outs (x j) ∨ outs (s j))) ∨ ∃ i, i < m ∧ zv 4741671816366391296 < zv (dabs (y i))
/-- what the measuring needs -/
def MsOk (m n : Nat) (A : (Nat → Nat → UInt64)) (b c x s y : (Nat → UInt64)) : Prop := (∀ i, i < m → okS (fun j => FP.dmul (A i j) (x j)) n (b i)) ∧ (∀ j, j < n → okS (fun i => FP.dmul (A i j) (y i)) m (c j) ∧ isn (qD m n A b c x s y j) = true) ∧ okA (fun j => FP.dmul (x j) (s j)) n FP.dconst0
/-- what the ends need -/
def EnOk (m n : Nat) (A : (Nat → Nat → UInt64)) (b c x s y : (Nat → UInt64)) : Prop := okA (fun j => FP.dmul (c j) (x j)) n FP.dconst0 ∧ (∀ i, i < m → nnan (qP m n A b c x s y i)) ∧ (∀ j, j < n → nnan (qD m n A b c x s y j)) ∧ nnan (qg m n A b c x s y) ∧ (∀ i, i < m → nnan (b i)) ∧ (∀ j, j < n → nnan (c j)) ∧ (∀ j, j < n → nnan (x j)) ∧ (∀ j, j < n → nnan (s j)) ∧ (∀ i, i < m → nnan (y i)) ∧ nnan (vC c x n) ∧
  ∀ w, w = mxR b m FP.dconst0 ∨ w = mxR c n FP.dconst0 ∨ w = dabs (vC c x n) → isn (FP.dadd FP.dconst1 w) = true ∧ isn (lim w) = true
def StOk (m n : Nat) (A : (Nat → Nat → UInt64)) (b c x s y : (Nat → UInt64)) : Prop := isn (FP.ddiv (qg m n A b c x s y) (FP.i2d (nI n))) = true ∧ isn (qu m n A b c x s y) = true ∧
  (∀ j, j < n → isn (tH x s j) = true ∧ isn (FP.ddiv (qu m n A b c x s y) (s j)) = true ∧ isn (FP.dsub (x j) (FP.ddiv (qu m n A b c x s y) (s j))) = true ∧ isn (FP.dmul (tH x s j) (qD m n A b c x s y j)) = true ∧ isn (qf m n A b c x s y j) = true) ∧
  (∀ i, i < m → okA (fun j => FP.dmul (A i j) (qf m n A b c x s y j)) n (qP m n A b c x s y i)) ∧ (∀ i, i < m → ∀ k, k ≤ i → okM A (tH x s) n i k) ∧ FacOk (qG m n A b c x s y) m
def MvOk (m n : Nat) (A : (Nat → Nat → UInt64)) (b c x s y : (Nat → UInt64)) : Prop := SolOk (qG m n A b c x s y) (qr m n A b c x s y) m ∧
  (∀ j, j < n → okS (fun i => FP.dmul (A i j) (qY m n A b c x s y i)) m (qD m n A b c x s y j) ∧ isn (FP.dsub (FP.ddiv (qu m n A b c x s y) (s j)) (x j)) = true ∧ isn (FP.dmul (tH x s j) (qS m n A b c x s y j)) = true ∧ isn (qX m n A b c x s y j) = true ∧ nnan (qS m n A b c x s y j)) ∧
  (∀ j, j < n → (zv (qX m n A b c x s y j) < 0 → isn (FP.ddiv (x j) (FP.dneg (qX m n A b c x s y j))) = true ∧ isn (FP.dmul 4607137382803743703 (FP.ddiv (x j) (FP.dneg (qX m n A b c x s y j)))) = true) ∧ (zv (qS m n A b c x s y j) < 0 → isn (FP.ddiv (s j) (FP.dneg (qS m n A b c x s y j))) = true ∧ isn (FP.dmul 4607137382803743703 (FP.ddiv (s j) (FP.dneg (qS m n A b c x s y j)))) = true)) ∧
  (∀ j, j < n → isn (FP.dmul (qa m n A b c x s y) (qX m n A b c x s y j)) = true ∧ isn (mv x (qX m n A b c x s y) (qa m n A b c x s y) j) = true ∧ isn (FP.dmul (qe m n A b c x s y) (qS m n A b c x s y j)) = true ∧ isn (mv s (qS m n A b c x s y) (qe m n A b c x s y) j) = true) ∧
  ∀ i, i < m → isn (FP.dmul (qe m n A b c x s y) (qY m n A b c x s y i)) = true ∧ isn (mv y (qY m n A b c x s y) (qe m n A b c x s y) i) = true
theorem nn_i {a : UInt64} (h : isn a = true) : nnan a := isn_iff.mp h
theorem okA_congr {f g : (Nat → UInt64)} {n : Nat} {z : UInt64} (h : ∀ k, k < n → f k = g k) (ok : okA g n z) : okA f n z :=
  ⟨fun k hk => by rw [h k hk]; exact ok.1 k hk, fun k hk => by rw [sumR_congr (g := g) (fun j hj => h j (by omega))]; exact ok.2 k hk⟩
theorem okS_congr {f g : (Nat → UInt64)} {n : Nat} {z : UInt64} (h : ∀ k, k < n → f k = g k) (ok : okS g n z) : okS f n z :=
  ⟨fun k hk => by rw [h k hk]; exact ok.1 k hk, fun k hk => by rw [subR_congr (g := g) (fun j hj => h j (by omega))]; exact ok.2 k hk⟩
theorem okM_congr {A : (Nat → Nat → UInt64)} {h h' : (Nat → UInt64)} {n i k : Nat} (e : ∀ j, j < n → h' j = h j) (ok : okM A h n i k) : okM A h' n i k :=
  ⟨fun j hj => by rw [e j hj]; exact ok.1 j hj, okA_congr (fun j hj => by rw [e j hj]) ok.2⟩
/-! the class's turn -/
theorem e_imeasure {m n : Nat} {A : (Nat → Nat → UInt64)} {b c x s y : (Nat → UInt64)} {p0 d0 : (Nat → UInt64)} (g0 : UInt64) (tb : Int32) (hm : m ≤ 5) (hn : n ≤ 8) (ok : MsOk m n A b c x s y) : s_Im_measure g0 tb (nI m) (nI n) A b c x s y p0 d0 = some (qg m n A b c x s y, wr m (qP m n A b c x s y) p0, wr n (qD m n A b c x s y) d0) := by
  unfold s_Im_measure s_Im_measure_L2
  refine loop_b m (fun k => (wr k (qP m n A b c x s y) p0, nI k)) (wr m (qP m n A b c x s y) p0) (by rw [wr_0]; rfl) (by omega) (fun i hi => ?_) ?_ ?_
  · have e1 : s_Pb_lessRow 8 (nI m) (nI n) A x (b i) (nI i) = some (qP m n A b c x s y i) := e_lessRow2 _ hn hn (by decide) (by omega) (ok.1 i hi)
    simp (disch := omega) only [↓ite_le_t, ↓ite_le_f, ↓ite_lt_t, ↓ite_lt_f, li5, li8, nI_leI, nI_ltI, nI_eqI, if_pos, if_neg, ↓reduceIte, inb_nI, gd_t, nI_clamp, Option.bind_some, nI_1, isb_0, isb_1, lit13, lit14, lit40, nI_mul, nI_add, s_Im_measure_B2, e1, wr_s (F := qP m n A b c x s y)]
  · simp (disch := omega) only [↓ite_le_t, ↓ite_le_f, ↓ite_lt_t, ↓ite_lt_f, li5, li8, nI_leI, nI_ltI, nI_eqI, if_pos, if_neg, ↓reduceIte, inb_nI, gd_t, nI_clamp, Option.bind_some, nI_1, isb_0, isb_1, lit13, lit14, lit40, nI_mul, nI_add, s_Im_measure_B2]
  · unfold s_Im_measure_L51
    refine loop_b n (fun k => (wr k (qD m n A b c x s y) d0, nI k)) (wr n (qD m n A b c x s y) d0) (by rw [wr_0]; rfl) (by omega) (fun j hj => ?_) ?_ ?_
    · obtain ⟨o1, o2⟩ := ok.2.1 j hj
      have e1 : s_Pb_lessColumn 5 (nI m) (nI n) A y (c j) (nI j) = some (tDc A c y m j) := e_lessColumn _ hm hm (by decide) (by omega) o1
      have e2 : FP.dsub (tDc A c y m j) (s j) = qD m n A b c x s y j := rfl
      simp (disch := omega) only [↓ite_le_t, ↓ite_le_f, ↓ite_lt_t, ↓ite_lt_f, li5, li8, nI_leI, nI_ltI, nI_eqI, if_pos, if_neg, ↓reduceIte, inb_nI, gd_t, nI_clamp, Option.bind_some, nI_1, isb_0, isb_1, lit13, lit14, lit40, nI_mul, nI_add, s_Im_measure_B51, e1, e2, o2, wr_s (F := qD m n A b c x s y)]
    · simp (disch := omega) only [↓ite_le_t, ↓ite_le_f, ↓ite_lt_t, ↓ite_lt_f, li5, li8, nI_leI, nI_ltI, nI_eqI, if_pos, if_neg, ↓reduceIte, inb_nI, gd_t, nI_clamp, Option.bind_some, nI_1, isb_0, isb_1, lit13, lit14, lit40, nI_mul, nI_add, s_Im_measure_B51]
    · rw [e_complementarity hn ok.2.2]
      rfl
theorem nn_lim {w : UInt64} (h : isn (lim w) = true) : nnan (lim w) := nn_i h
theorem e_isSolved {m n : Nat} {A : (Nat → Nat → UInt64)} {b c x s y : (Nat → UInt64)} {p d : (Nat → UInt64)} (tb : Int32) (hm : m ≤ 5) (hn : n ≤ 8) (hp : ∀ i, i < m → p i = qP m n A b c x s y i) (hd : ∀ j, j < n → d j = qD m n A b c x s y j) (ok : EnOk m n A b c x s y) : Ok (s_Im_isSolved (qg m n A b c x s y) tb (nI m) (nI n) b c x p d) (fun r => (r = 1 ∧ qSol m n A b c x s y) ∨ (r = 0 ∧ ¬ qSol m n A b c x s y)) := by
  obtain ⟨o1, o2, o3, o4, o5, o6, -, -, -, o7, o8⟩ := ok
  have f1 : ∀ k, k ≤ m → mxR p k FP.dconst0 = mxR (qP m n A b c x s y) k FP.dconst0 := fun k hk => fd_congr (fun i hi a => by rw [hp i (by omega)])
  have f2 : ∀ k, k ≤ n → mxR d k FP.dconst0 = mxR (qD m n A b c x s y) k FP.dconst0 := fun k hk => fd_congr (fun i hi a => by rw [hd i (by omega)])
  have e1 : s_Pb_costOf 8 (nI m) (nI n) c x = some (vC c x n) := e_costOf _ hn hn (by decide) o1
  have e2 : s_C_greatestOf 5 p (nI m) = some (mxR (qP m n A b c x s y) m FP.dconst0) := by rw [e_greatestOf hm (by decide) (fun i hi => by rw [hp i hi]; exact o2 i hi), f1 m (Nat.le_refl _)]
  have e3 : s_C_greatestOf 8 d (nI n) = some (mxR (qD m n A b c x s y) n FP.dconst0) := by rw [e_greatestOf hn (by decide) (fun i hi => by rw [hd i hi]; exact o3 i hi), f2 n (Nat.le_refl _)]
  have e4 : s_C_greatestOf 5 b (nI m) = some (mxR b m FP.dconst0) := e_greatestOf hm (by decide) o5
  have e5 : s_C_greatestOf 8 c (nI n) = some (mxR c n FP.dconst0) := e_greatestOf hn (by decide) o6
  obtain ⟨a1, a2⟩ := o8 _ (Or.inl rfl)
  obtain ⟨a3, a4⟩ := o8 _ (Or.inr (Or.inl rfl))
  obtain ⟨a5, a6⟩ := o8 _ (Or.inr (Or.inr rfl))
  have l0 : ∀ w, FP.dmul 4487126258331716666 (FP.dadd FP.dconst1 w) = lim w := fun _ => rfl
  have n1 := nn_fd_max (n := m) nn_0 o2
  have n2 := nn_fd_max (n := n) nn_0 o3
  unfold s_Im_isSolved s_Im_isSolved_J111
  simp only [e1, e2, e3, e4, e5, e_absolute o7, Option.bind_some, l0, a1, a2, a3, a4, a5, a6, gd_t, isb_0, isb_1, cv_gt n1 (nn_i a2), cv_gt n2 (nn_i a4), cv_gt o4 (nn_i a6)]
  unfold qSol
  by_cases c1 : zv (lim (mxR b m FP.dconst0)) < zv (mxR (qP m n A b c x s y) m FP.dconst0)
  · rw [if_pos c1]
    exact Ok.mk (Or.inr ⟨rfl, fun q => absurd c1 (Int.not_lt.mpr q.1)⟩)
  · rw [if_neg c1]
    by_cases c2 : zv (lim (mxR c n FP.dconst0)) < zv (mxR (qD m n A b c x s y) n FP.dconst0)
    · rw [if_pos c2]
      exact Ok.mk (Or.inr ⟨rfl, fun q => absurd c2 (Int.not_lt.mpr q.2.1)⟩)
    · rw [if_neg c2]
      by_cases c3 : zv (lim (dabs (vC c x n))) < zv (qg m n A b c x s y)
      · rw [if_pos c3]
        exact Ok.mk (Or.inr ⟨rfl, fun q => absurd c3 (Int.not_lt.mpr q.2.2)⟩)
      · rw [if_neg c3]
        exact Ok.mk (Or.inl ⟨rfl, Int.not_lt.mp c1, Int.not_lt.mp c2, Int.not_lt.mp c3⟩)
theorem nn_1e9 : nnan 4741671816366391296 := by unfold nnan; decide +kernel
theorem nn_1em12 : nnan 4427486594234968593 := by unfold nnan; decide +kernel
theorem e_isOutside {v : UInt64} (h : nnan v) : Ok (s_Im_isOutside v) (fun r => (r = 1 ∧ outs v) ∨ (r = 0 ∧ ¬ outs v)) := by
  unfold s_Im_isOutside s_Im_isOutside_J16 outs
  simp only [cv_gt h nn_1e9, cv_ge h nn_1em12, isb_0, isb_1, gd_t]
  by_cases c1 : zv 4741671816366391296 < zv v
  · rw [if_pos c1]
    exact Ok.mk (Or.inl ⟨rfl, Or.inl c1⟩)
  · rw [if_neg c1]
    by_cases c2 : zv 4427486594234968593 ≤ zv v
    · rw [if_pos c2]
      exact Ok.mk (Or.inr ⟨rfl, fun q => q.elim c1 (fun q => absurd q (Int.not_lt.mpr c2))⟩)
    · rw [if_neg c2]
      exact Ok.mk (Or.inl ⟨rfl, Or.inr (Int.not_le.mp c2)⟩)
theorem lt_mx (z a b : Int) : z < max a b ↔ z < a ∨ z < b := by omega
/-- a greatest size is above v just where one of the sizes is -/
theorem mx_gt {f : (Nat → UInt64)} {z : Int} (hz : 0 ≤ z) : ∀ n, z < zv (mxR f n FP.dconst0) ↔ ∃ i, i < n ∧ z < zv (dabs (f i)) := by
  intro n
  induction n with
  | zero =>
    constructor
    · intro h
      have h : z < zv FP.dconst0 := h
      rw [zv_0] at h
      exact absurd h (Int.not_lt.mpr hz)
    · rintro ⟨i, hi, -⟩
      exact absurd hi (Nat.not_lt_zero _)
  | succ n ih =>
    rw [mxR_s, zv_max, lt_mx, ih]
    constructor
    · rintro (⟨i, hi, h⟩ | h)
      · exact ⟨i, by omega, h⟩
      · exact ⟨n, by omega, h⟩
    · rintro ⟨i, hi, h⟩
      by_cases e : i = n
      · subst e; exact Or.inr h
      · exact Or.inl ⟨i, by omega, h⟩
theorem z_1e9 : 0 ≤ zv 4741671816366391296 := by decide +kernel
theorem e_isLost {m n : Nat} {A : (Nat → Nat → UInt64)} {b c x s y : (Nat → UInt64)} (g : UInt64) (tb : Int32) (hm : m ≤ 5) (hn : n ≤ 8) (ok : EnOk m n A b c x s y) : Ok (s_Im_isLost g tb (nI m) (nI n) x s y) (fun r => (r = 1 ∧ qLost m n A b c x s y) ∨ (r = 0 ∧ ¬ qLost m n A b c x s y)) := by
  obtain ⟨-, -, -, -, -, -, o1, o2, o3, -⟩ := ok
  unfold s_Im_isLost s_Im_isLost_L2
  refine Ok.bind (P := fun v => Sum.elim (fun _ => ¬ ∃ j, j < n ∧ (outs (x j) ∨ outs (s j))) (fun w => w = 1 ∧ ∃ j, j < n ∧ (outs (x j) ∨ outs (s j))) v) ?_ ?_
  · refine Ok.for (fun t st => st = nI t ∧ ∀ j, j < t → ¬ (outs (x j) ∨ outs (s j))) n (by omega) ⟨rfl, fun i hi => absurd hi (Nat.not_lt_zero _)⟩ ?_ ?_
    · rintro j st hj ⟨rfl, g1⟩
      obtain ⟨r1, h1, h2⟩ := e_isOutside (o1 j hj)
      obtain ⟨r2, h3, h4⟩ := e_isOutside (o2 j hj)
      simp (disch := omega) only [↓ite_le_t, ↓ite_le_f, ↓ite_lt_t, ↓ite_lt_f, li5, li8, nI_leI, nI_ltI, nI_eqI, if_pos, if_neg, ↓reduceIte, inb_nI, gd_t, nI_clamp, Option.bind_some, nI_1, isb_0, isb_1, lit13, lit14, lit40, nI_mul, nI_add, s_Im_isLost_B2, h1, h3]
      rcases h2 with ⟨rfl, h2⟩ | ⟨rfl, h2⟩
      · exact Ok.mk ⟨rfl, j, hj, Or.inl h2⟩
      · rcases h4 with ⟨rfl, h4⟩ | ⟨rfl, h4⟩
        · exact Ok.mk ⟨rfl, j, hj, Or.inr h4⟩
        · refine Ok.mk ⟨rfl, fun j' hj' => ?_⟩
          by_cases e : j' = j
          · subst e
            rintro (q | q)
            · exact h2 q
            · exact h4 q
          · exact g1 j' (by omega)
    · rintro st ⟨rfl, g1⟩
      simp (disch := omega) only [↓ite_le_t, ↓ite_le_f, ↓ite_lt_t, ↓ite_lt_f, li5, li8, nI_leI, nI_ltI, nI_eqI, if_pos, if_neg, ↓reduceIte, inb_nI, gd_t, nI_clamp, Option.bind_some, nI_1, isb_0, isb_1, lit13, lit14, lit40, nI_mul, nI_add, s_Im_isLost_B2]
      refine Ok.mk ?_
      rintro ⟨j, hj, q⟩
      exact g1 j hj q
  · rintro (v | v) hv
    · show Ok ((s_C_greatestOf 5 y (nI m)).bind _) _
      rw [e_greatestOf hm (by decide) o3]
      simp only [Option.bind_some, cv_le (nn_fd_max (n := m) nn_0 o3) nn_1e9, isb_0, isb_1, gd_t]
      by_cases c1 : zv (mxR y m FP.dconst0) ≤ zv 4741671816366391296
      · rw [if_pos c1]
        refine Ok.mk (Or.inr ⟨rfl, ?_⟩)
        rintro (q | q)
        · exact hv q
        · exact absurd c1 (Int.not_le.mpr ((mx_gt z_1e9 m).mpr q))
      · rw [if_neg c1]
        exact Ok.mk (Or.inl ⟨rfl, Or.inr ((mx_gt z_1e9 m).mp (Int.not_le.mp c1))⟩)
    · exact Ok.mk (Or.inl ⟨hv.1, Or.inl hv.2⟩)
theorem e_findStep {m n : Nat} {A : (Nat → Nat → UInt64)} {b c x s y : (Nat → UInt64)} {p d h0 f0 r0 X0 S0 Y0 : (Nat → UInt64)} {e0 l0 : (Nat → Nat → UInt64)} {d0 m0 : (Nat → UInt64)} (tb : Int32) (hm : m ≤ 5) (hn : n ≤ 8) (hp : ∀ i, i < m → p i = qP m n A b c x s y i) (hd : ∀ j, j < n → d j = qD m n A b c x s y j) (ok : StOk m n A b c x s y) (ok2 : (∀ k, k < m → gd13 (qG m n A b c x s y) k) → MvOk m n A b c x s y) :
    Ok (s_Im_findStep (qg m n A b c x s y) tb (nI m) (nI n) A x s e0 l0 d0 m0 p d h0 f0 r0 X0 S0 Y0) (fun r => (r.1 = 0 ∧ ¬ ∀ k, k < m → gd13 (qG m n A b c x s y) k) ∨ (r.1 = 1 ∧ (∀ k, k < m → gd13 (qG m n A b c x s y) k) ∧ (∀ j, j < n → r.2.2.2.2.2.2.2.2.1 j = qX m n A b c x s y j) ∧ (∀ j, j < n → r.2.2.2.2.2.2.2.2.2.1 j = qS m n A b c x s y j) ∧ ∀ i, i < m → r.2.2.2.2.2.2.2.2.2.2 i = qY m n A b c x s y i)) := by
  obtain ⟨o1, o2, o3, o4, o5, o6⟩ := ok
  unfold s_Im_findStep
  have eu : FP.dmul 4591870180066957722 (FP.ddiv (qg m n A b c x s y) (FP.i2d (nI n))) = qu m n A b c x s y := rfl
  simp only [o1, eu, o2, gd_t]
  unfold s_Im_findStep_L20
  refine Ok.bind (P := fun v => v = (wr n (tH x s) h0, wr n (qf m n A b c x s y) f0)) ?_ ?_
  · refine loop_ok n (fun k => (wr k (tH x s) h0, wr k (qf m n A b c x s y) f0, nI k)) _ (by rw [wr_0, wr_0]; rfl) (by omega) (fun j hj => ?_) ?_
    · obtain ⟨a1, a2, a3, a4, a5⟩ := o3 j hj
      have e1 : FP.ddiv (x j) (s j) = tH x s j := rfl
      have e2 : FP.dadd (FP.dsub (x j) (FP.ddiv (qu m n A b c x s y) (s j))) (FP.dmul (tH x s j) (qD m n A b c x s y j)) = qf m n A b c x s y j := rfl
      simp (disch := omega) only [↓ite_le_t, ↓ite_le_f, ↓ite_lt_t, ↓ite_lt_f, li5, li8, nI_leI, nI_ltI, nI_eqI, if_pos, if_neg, ↓reduceIte, inb_nI, gd_t, nI_clamp, Option.bind_some, nI_1, isb_0, isb_1, lit13, lit14, lit40, nI_mul, nI_add, s_Im_findStep_B20, hd j hj, e1, upd_at, a1, a2, a3, a4, e2, a5, wr_s (F := tH x s), wr_s (F := qf m n A b c x s y)]
    · simp (disch := omega) only [↓ite_le_t, ↓ite_le_f, ↓ite_lt_t, ↓ite_lt_f, li5, li8, nI_leI, nI_ltI, nI_eqI, if_pos, if_neg, ↓reduceIte, inb_nI, gd_t, nI_clamp, Option.bind_some, nI_1, isb_0, isb_1, lit13, lit14, lit40, nI_mul, nI_add, s_Im_findStep_B20]
  · rintro v rfl
    dsimp only
    unfold s_Im_findStep_L105
    refine Ok.bind (P := fun v => v = wr m (qr m n A b c x s y) r0) ?_ ?_
    · refine loop_ok m (fun k => (wr k (qr m n A b c x s y) r0, nI k)) _ (by rw [wr_0]; rfl) (by omega) (fun i hi => ?_) ?_
      · have a1 := o4 i hi
        have c1 : ∀ j, j < n → FP.dmul (A i j) (wr n (qf m n A b c x s y) f0 j) = FP.dmul (A i j) (qf m n A b c x s y j) := fun j hj => by rw [wr_in hj]
        have e1 : s_Pb_plusRow 8 (nI m) (nI n) A (wr n (qf m n A b c x s y) f0) (qP m n A b c x s y i) (nI i) = some (qr m n A b c x s y i) := by
          rw [e_plusRow _ hn hn (by decide) (by omega) (okA_congr c1 a1), sumR_congr c1]
          rfl
        simp (disch := omega) only [↓ite_le_t, ↓ite_le_f, ↓ite_lt_t, ↓ite_lt_f, li5, li8, nI_leI, nI_ltI, nI_eqI, if_pos, if_neg, ↓reduceIte, inb_nI, gd_t, nI_clamp, Option.bind_some, nI_1, isb_0, isb_1, lit13, lit14, lit40, nI_mul, nI_add, s_Im_findStep_B105, hp i hi, e1, wr_s (F := qr m n A b c x s y)]
      · simp (disch := omega) only [↓ite_le_t, ↓ite_le_f, ↓ite_lt_t, ↓ite_lt_f, li5, li8, nI_leI, nI_ltI, nI_eqI, if_pos, if_neg, ↓reduceIte, inb_nI, gd_t, nI_clamp, Option.bind_some, nI_1, isb_0, isb_1, lit13, lit14, lit40, nI_mul, nI_add, s_Im_findStep_B105]
    · rintro v rfl
      have hG : ∀ i k, tMm A (wr n (tH x s) h0) n i k = qG m n A b c x s y i k := fun i k => sumR_congr fun j hj => by rw [wr_in hj]
      refine Ok.bind (P := fun e => ∀ i, i < m → ∀ k, k ≤ i → e i k = qG m n A b c x s y i k) ?_ ?_
      · refine (e_gather hm hn hn (by decide) (fun i hi k hk => ?_)).imp fun e he i hi k hk => (he i hi k hk).trans (hG i k)
        exact okM_congr (fun j hj => wr_in hj) (o5 i hi k hk)
      · intro e he
        refine Ok.bind (e_factor hm he o6) ?_
        rintro ⟨r, lo, di⟩ (⟨hr, g1, g2, g3⟩ | ⟨hr, g1⟩)
        · have hr : r = 1 := hr
          subst hr
          obtain ⟨p1, p2, -⟩ := ok2 g1
          simp only [show ¬ (1 : Int32) = 0 by decide, ↓reduceIte]
          refine Ok.bind (e_fsolve hm (r := qr m n A b c x s y) (fun i hi => wr_in hi) g2 g3 p1) ?_
          rintro ⟨mi, Y⟩ hY
          have hY : ∀ i, i < m → Y i = qY m n A b c x s y i := hY
          unfold s_Im_findStep_L204
          refine Ok.bind (P := fun v => v = (wr n (qX m n A b c x s y) X0, wr n (qS m n A b c x s y) S0)) ?_ ?_
          · refine loop_ok n (fun k => (wr k (qX m n A b c x s y) X0, wr k (qS m n A b c x s y) S0, nI k)) _ (by rw [wr_0, wr_0]; rfl) (by omega) (fun j hj => ?_) ?_
            · obtain ⟨a1, a2, a3, a4, -⟩ := p2 j hj
              have b2 := (o3 j hj).2.1
              have c1 : ∀ i, i < m → FP.dmul (A i j) (Y i) = FP.dmul (A i j) (qY m n A b c x s y i) := fun i hi => by rw [hY i hi]
              have e1 : s_Pb_lessColumn 5 (nI m) (nI n) A Y (qD m n A b c x s y j) (nI j) = some (qS m n A b c x s y j) := by
                rw [e_lessColumn _ hm hm (by decide) (by omega) (okS_congr c1 a1), subR_congr c1]
                rfl
              have e2 : FP.dsub (FP.dsub (FP.ddiv (qu m n A b c x s y) (s j)) (x j)) (FP.dmul (tH x s j) (qS m n A b c x s y j)) = qX m n A b c x s y j := rfl
              simp (disch := omega) only [↓ite_le_t, ↓ite_le_f, ↓ite_lt_t, ↓ite_lt_f, li5, li8, nI_leI, nI_ltI, nI_eqI, if_pos, if_neg, ↓reduceIte, inb_nI, gd_t, nI_clamp, Option.bind_some, nI_1, isb_0, isb_1, lit13, lit14, lit40, nI_mul, nI_add, s_Im_findStep_B204, hd j hj, e1, b2, a2, wr_in, upd_at, a3, e2, a4, wr_s (F := qX m n A b c x s y), wr_s (F := qS m n A b c x s y)]
            · simp (disch := omega) only [↓ite_le_t, ↓ite_le_f, ↓ite_lt_t, ↓ite_lt_f, li5, li8, nI_leI, nI_ltI, nI_eqI, if_pos, if_neg, ↓reduceIte, inb_nI, gd_t, nI_clamp, Option.bind_some, nI_1, isb_0, isb_1, lit13, lit14, lit40, nI_mul, nI_add, s_Im_findStep_B204]
          · rintro v rfl
            simp only [isb_1, gd_t]
            exact Ok.mk (Or.inr ⟨rfl, g1, fun j hj => wr_in hj, fun j hj => wr_in hj, hY⟩)
        · have hr : r = 0 := hr
          subst hr
          simp only [↓reduceIte, isb_0, gd_t]
          exact Ok.mk (Or.inl ⟨rfl, g1⟩)
