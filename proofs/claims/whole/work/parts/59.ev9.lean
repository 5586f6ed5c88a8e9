/-! the class's move, and its run -/
def lgOk (x dx : (Nat → UInt64)) (n : Nat) : Prop := ∀ j, j < n → nnan (dx j) ∧ (zv (dx j) < 0 → isn (FP.ddiv (x j) (FP.dneg (dx j))) = true ∧ isn (FP.dmul 4607137382803743703 (FP.ddiv (x j) (FP.dneg (dx j)))) = true)
theorem lgR_s (x dx : (Nat → UInt64)) (n : Nat) : lgR x dx (n + 1) = lgB x dx n (lgR x dx n) := rfl
theorem nn_lgB {x dx : (Nat → UInt64)} {n j : Nat} {a : UInt64} (ha : nnan a) (hj : j < n) (h : lgOk x dx n) : nnan (lgB x dx j a) := by
  unfold lgB
  split
  · next hc =>
    split
    · exact nn_i ((h j hj).2 hc).2
    · exact ha
  · exact ha
theorem nn_lgR {x dx : (Nat → UInt64)} {n : Nat} (h : lgOk x dx n) : ∀ k, k ≤ n → nnan (lgR x dx k) := by
  intro k
  induction k with
  | zero => intro _; exact nn_1
  | succ k ih => intro hk; exact nn_lgB (ih (by omega)) hk h
theorem lgR_congr {x dx dx' : (Nat → UInt64)} {n : Nat} (h : ∀ j, j < n → dx' j = dx j) : lgR x dx' n = lgR x dx n := fd_congr (fun k hk a => by unfold lgB; rw [h k hk])
theorem e_longest {x dx dx' : (Nat → UInt64)} {n : Nat} (g : UInt64) (tb R : Int32) (hn : n ≤ 8) (hd : ∀ j, j < n → dx' j = dx j) (ok : lgOk x dx n) : s_Im_longest 8 8 g tb R (nI n) x dx' = some (lgR x dx n) := by
  unfold s_Im_longest s_Im_longest_L5
  refine loop_b n (fun k => (lgR x dx k, nI k)) _ rfl (by omega) (fun j hj => ?_) ?_ rfl
  · have o := ok j hj
    have na := nn_lgR ok j (by omega)
    rw [lgR_s]
    unfold lgB
    simp (disch := omega) only [↓ite_le_t, ↓ite_le_f, ↓ite_lt_t, ↓ite_lt_f, li5, li8, nI_leI, nI_ltI, nI_eqI, if_pos, if_neg, ↓reduceIte, inb_nI, gd_t, nI_clamp, Option.bind_some, nI_1, isb_0, isb_1, lit13, lit14, lit40, nI_mul, nI_add, s_Im_longest_B5, s_Im_longest_J56, s_Im_longest_J55, hd j hj, cv_ge o.1 nn_0, zv_0]
    by_cases c1 : zv (dx j) < 0
    · obtain ⟨o1, o2⟩ := o.2 c1
      rw [if_neg (Int.not_le.mpr c1), if_pos c1]
      simp only [o1, o2, gd_t, cv_ge (nn_i o2) na]
      by_cases c2 : zv (FP.dmul 4607137382803743703 (FP.ddiv (x j) (FP.dneg (dx j)))) < zv (lgR x dx j)
      · rw [if_neg (Int.not_le.mpr c2), if_pos c2]
      · rw [if_pos (Int.not_lt.mp c2), if_neg c2]
    · rw [if_pos (Int.not_lt.mp c1), if_neg c1]
  · simp (disch := omega) only [↓ite_le_t, ↓ite_le_f, ↓ite_lt_t, ↓ite_lt_f, li5, li8, nI_leI, nI_ltI, nI_eqI, if_pos, if_neg, ↓reduceIte, inb_nI, gd_t, nI_clamp, Option.bind_some, nI_1, isb_0, isb_1, lit13, lit14, lit40, nI_mul, nI_add, s_Im_longest_B5]
def nx (m n : Nat) (A : (Nat → Nat → UInt64)) (b c x s y : (Nat → UInt64)) : (Nat → UInt64) := wr n (mv x (qX m n A b c x s y) (qa m n A b c x s y)) x
def ns (m n : Nat) (A : (Nat → Nat → UInt64)) (b c x s y : (Nat → UInt64)) : (Nat → UInt64) := wr n (mv s (qS m n A b c x s y) (qe m n A b c x s y)) s
def ny (m n : Nat) (A : (Nat → Nat → UInt64)) (b c x s y : (Nat → UInt64)) : (Nat → UInt64) := wr m (mv y (qY m n A b c x s y) (qe m n A b c x s y)) y
theorem MvOk.lx {m n : Nat} {A : (Nat → Nat → UInt64)} {b c x s y : (Nat → UInt64)} (h : MvOk m n A b c x s y) : lgOk x (qX m n A b c x s y) n := fun j hj => ⟨nn_i (h.2.1 j hj).2.2.2.1, (h.2.2.1 j hj).1⟩
theorem MvOk.ls {m n : Nat} {A : (Nat → Nat → UInt64)} {b c x s y : (Nat → UInt64)} (h : MvOk m n A b c x s y) : lgOk s (qS m n A b c x s y) n := fun j hj => ⟨(h.2.1 j hj).2.2.2.2, (h.2.2.1 j hj).2⟩
theorem e_goStep {m n : Nat} {A : (Nat → Nat → UInt64)} {b c x s y : (Nat → UInt64)} {X S Y : (Nat → UInt64)} (g : UInt64) (tb : Int32) (hm : m ≤ 5) (hn : n ≤ 8) (hX : ∀ j, j < n → X j = qX m n A b c x s y j) (hS : ∀ j, j < n → S j = qS m n A b c x s y j) (hY : ∀ i, i < m → Y i = qY m n A b c x s y i) (ok : MvOk m n A b c x s y) : s_Im_goStep g tb (nI m) (nI n) x s y X S Y = some (nx m n A b c x s y, ns m n A b c x s y, ny m n A b c x s y) := by
  have ea : s_Im_longest 8 8 g tb (nI m) (nI n) x X = some (qa m n A b c x s y) := e_longest g tb _ hn hX ok.lx
  have ee : s_Im_longest 8 8 g tb (nI m) (nI n) s S = some (qe m n A b c x s y) := e_longest g tb _ hn hS ok.ls
  obtain ⟨-, -, -, o4, o5⟩ := ok
  unfold s_Im_goStep
  rw [ea, ee]
  simp only [Option.bind_some]
  unfold s_Im_goStep_L35
  refine loop_b n (fun k => (wr k (mv x (qX m n A b c x s y) (qa m n A b c x s y)) x, wr k (mv s (qS m n A b c x s y) (qe m n A b c x s y)) s, nI k)) (nx m n A b c x s y, ns m n A b c x s y) (by rw [wr_0, wr_0]; rfl) (by omega) (fun j hj => ?_) ?_ ?_
  · obtain ⟨a1, a2, a3, a4⟩ := o4 j hj
    have e1 : FP.dadd (x j) (FP.dmul (qa m n A b c x s y) (qX m n A b c x s y j)) = mv x (qX m n A b c x s y) (qa m n A b c x s y) j := rfl
    have e2 : FP.dadd (s j) (FP.dmul (qe m n A b c x s y) (qS m n A b c x s y j)) = mv s (qS m n A b c x s y) (qe m n A b c x s y) j := rfl
    simp (disch := omega) only [↓ite_le_t, ↓ite_le_f, ↓ite_lt_t, ↓ite_lt_f, li5, li8, nI_leI, nI_ltI, nI_eqI, if_pos, if_neg, ↓reduceIte, inb_nI, gd_t, nI_clamp, Option.bind_some, nI_1, isb_0, isb_1, lit13, lit14, lit40, nI_mul, nI_add, s_Im_goStep_B35, wr_out, hX j hj, hS j hj, a1, a3, e1, e2, a2, a4, wr_s (F := mv x (qX m n A b c x s y) (qa m n A b c x s y)), wr_s (F := mv s (qS m n A b c x s y) (qe m n A b c x s y))]
  · simp (disch := omega) only [↓ite_le_t, ↓ite_le_f, ↓ite_lt_t, ↓ite_lt_f, li5, li8, nI_leI, nI_ltI, nI_eqI, if_pos, if_neg, ↓reduceIte, inb_nI, gd_t, nI_clamp, Option.bind_some, nI_1, isb_0, isb_1, lit13, lit14, lit40, nI_mul, nI_add, s_Im_goStep_B35]
    rfl
  · unfold s_Im_goStep_L116
    refine loop_b m (fun k => (wr k (mv y (qY m n A b c x s y) (qe m n A b c x s y)) y, nI k)) (ny m n A b c x s y) (by rw [wr_0]; rfl) (by omega) (fun i hi => ?_) ?_ rfl
    · obtain ⟨a1, a2⟩ := o5 i hi
      have e1 : FP.dadd (y i) (FP.dmul (qe m n A b c x s y) (qY m n A b c x s y i)) = mv y (qY m n A b c x s y) (qe m n A b c x s y) i := rfl
      simp (disch := omega) only [↓ite_le_t, ↓ite_le_f, ↓ite_lt_t, ↓ite_lt_f, li5, li8, nI_leI, nI_ltI, nI_eqI, if_pos, if_neg, ↓reduceIte, inb_nI, gd_t, nI_clamp, Option.bind_some, nI_1, isb_0, isb_1, lit13, lit14, lit40, nI_mul, nI_add, s_Im_goStep_B116, wr_out, hY i hi, a1, e1, a2, wr_s (F := mv y (qY m n A b c x s y) (qe m n A b c x s y))]
    · simp (disch := omega) only [↓ite_le_t, ↓ite_le_f, ↓ite_lt_t, ↓ite_lt_f, li5, li8, nI_leI, nI_ltI, nI_eqI, if_pos, if_neg, ↓reduceIte, inb_nI, gd_t, nI_clamp, Option.bind_some, nI_1, isb_0, isb_1, lit13, lit14, lit40, nI_mul, nI_add, s_Im_goStep_B116]
      rfl
/-- the state after k moves -/
def itn (m n : Nat) (A : (Nat → Nat → UInt64)) (b c x s y : (Nat → UInt64)) : Nat → (Nat → UInt64) × (Nat → UInt64) × (Nat → UInt64)
  | 0 => (x, s, y)
  | k + 1 => (nx m n A b c (itn m n A b c x s y k).1 (itn m n A b c x s y k).2.1 (itn m n A b c x s y k).2.2, ns m n A b c (itn m n A b c x s y k).1 (itn m n A b c x s y k).2.1 (itn m n A b c x s y k).2.2, ny m n A b c (itn m n A b c x s y k).1 (itn m n A b c x s y k).2.1 (itn m n A b c x s y k).2.2)
def ix (m n : Nat) (A : (Nat → Nat → UInt64)) (b c x s y : (Nat → UInt64)) (k : Nat) : (Nat → UInt64) := (itn m n A b c x s y k).1
def is (m n : Nat) (A : (Nat → Nat → UInt64)) (b c x s y : (Nat → UInt64)) (k : Nat) : (Nat → UInt64) := (itn m n A b c x s y k).2.1
def iy (m n : Nat) (A : (Nat → Nat → UInt64)) (b c x s y : (Nat → UInt64)) (k : Nat) : (Nat → UInt64) := (itn m n A b c x s y k).2.2
def aSol (m n : Nat) (A : (Nat → Nat → UInt64)) (b c x s y : (Nat → UInt64)) (k : Nat) : Prop := qSol m n A b c (ix m n A b c x s y k) (is m n A b c x s y k) (iy m n A b c x s y k)
def aLost (m n : Nat) (A : (Nat → Nat → UInt64)) (b c x s y : (Nat → UInt64)) (k : Nat) : Prop := qLost m n A b c (ix m n A b c x s y k) (is m n A b c x s y k) (iy m n A b c x s y k)
def aGood (m n : Nat) (A : (Nat → Nat → UInt64)) (b c x s y : (Nat → UInt64)) (k : Nat) : Prop := ∀ i, i < m → gd13 (qG m n A b c (ix m n A b c x s y k) (is m n A b c x s y k) (iy m n A b c x s y k)) i
def aMv (m n : Nat) (A : (Nat → Nat → UInt64)) (b c x s y : (Nat → UInt64)) (k : Nat) : Prop := ¬ aSol m n A b c x s y k ∧ ¬ aLost m n A b c x s y k ∧ aGood m n A b c x s y k
def RunTo (m n : Nat) (A : (Nat → Nat → UInt64)) (b c x s y : (Nat → UInt64)) (T k : Nat) (how : Int32) : Prop := (∀ k', k' < k → aMv m n A b c x s y k') ∧ ((how = 4 ∧ k = T) ∨ (k < T ∧ ((how = 0 ∧ aSol m n A b c x s y k) ∨ (how = 3 ∧ ¬ aSol m n A b c x s y k ∧ aLost m n A b c x s y k) ∨ (how = 5 ∧ ¬ aSol m n A b c x s y k ∧ ¬ aLost m n A b c x s y k ∧ ¬ aGood m n A b c x s y k))))
theorem RunTo.end {m n : Nat} {A : (Nat → Nat → UInt64)} {b c x s y : (Nat → UInt64)} {T k : Nat} {how : Int32} (h : RunTo m n A b c x s y T k how) : k ≤ T ∧ (k < T → ¬ aMv m n A b c x s y k) := by
  obtain ⟨h1, h2⟩ := h
  rcases h2 with ⟨-, h2⟩ | ⟨h2, h3⟩
  · exact ⟨by omega, fun q => absurd q (by omega)⟩
  · refine ⟨by omega, fun _ q => ?_⟩
    rcases h3 with ⟨-, h3⟩ | ⟨-, -, h3⟩ | ⟨-, -, -, h3⟩
    · exact q.1 h3
    · exact q.2.1 h3
    · exact h3 q.2.2
theorem RunTo.uniq {m n : Nat} {A : (Nat → Nat → UInt64)} {b c x s y : (Nat → UInt64)} {T k k2 : Nat} {how how2 : Int32} (h : RunTo m n A b c x s y T k how) (h2 : RunTo m n A b c x s y T k2 how2) : k = k2 ∧ how = how2 := by
  have hk : k = k2 := by
    have e1 := h.end
    have e2 := h2.end
    rcases Nat.lt_trichotomy k k2 with q | q | q
    · exact absurd (h2.1 k q) (e1.2 (by omega))
    · exact q
    · exact absurd (h.1 k2 q) (e2.2 (by omega))
  subst hk
  refine ⟨rfl, ?_⟩
  obtain ⟨-, h⟩ := h
  obtain ⟨-, h2⟩ := h2
  rcases h with ⟨rfl, h⟩ | ⟨h, ⟨rfl, h3⟩ | ⟨rfl, h3, h4⟩ | ⟨rfl, h3, h4, h5⟩⟩ <;> rcases h2 with ⟨rfl, g⟩ | ⟨g, ⟨rfl, g3⟩ | ⟨rfl, g3, g4⟩ | ⟨rfl, g3, g4, g5⟩⟩ <;> first | rfl | (exfalso; omega) | exact absurd ‹aSol _ _ _ _ _ _ _ _ _› ‹¬ aSol _ _ _ _ _ _ _ _ _› | exact absurd ‹aLost _ _ _ _ _ _ _ _ _› ‹¬ aLost _ _ _ _ _ _ _ _ _›
/-- an invariant that gives what every turn needs -/
def InvI (m n : Nat) (A : (Nat → Nat → UInt64)) (b c : (Nat → UInt64)) (I : (Nat → UInt64) → (Nat → UInt64) → (Nat → UInt64) → Prop) : Prop := ∀ x s y, I x s y → MsOk m n A b c x s y ∧ EnOk m n A b c x s y ∧ (¬ qLost m n A b c x s y → StOk m n A b c x s y ∧ ((∀ k, k < m → gd13 (qG m n A b c x s y) k) → MvOk m n A b c x s y ∧ I (nx m n A b c x s y) (ns m n A b c x s y) (ny m n A b c x s y)))
theorem it_inv {m n : Nat} {A : (Nat → Nat → UInt64)} {b c x s y : (Nat → UInt64)} {I : (Nat → UInt64) → (Nat → UInt64) → (Nat → UInt64) → Prop} (hI : InvI m n A b c I) (h0 : I x s y) : ∀ k, (∀ k', k' < k → aMv m n A b c x s y k') → I (ix m n A b c x s y k) (is m n A b c x s y k) (iy m n A b c x s y k) := by
  intro k
  induction k with
  | zero => intro _; exact h0
  | succ k ih =>
    intro h
    have i := ih (fun k' hk => h k' (by omega))
    obtain ⟨-, -, h3⟩ := hI _ _ _ i
    have a := h k (by omega)
    exact ((h3 a.2.1).2 a.2.2).2
theorem i32_10 : ¬ (1 : Int32) = 0 := by decide
theorem e_isolve {m n : Nat} {A : (Nat → Nat → UInt64)} {b c x0 s0 y0 : (Nat → UInt64)} {I : (Nat → UInt64) → (Nat → UInt64) → (Nat → UInt64) → Prop} {T : Nat} (g0 : UInt64) (tb0 : Int32) (e0 l0 : (Nat → Nat → UInt64)) (d0 m0 p0 dd0 h0 f0 r0 X0 S0 Y0 : (Nat → UInt64)) (hm : m ≤ 5) (hn : n ≤ 8) (hT : T ≤ 100) (hI : InvI m n A b c I) (h1 : I (wr 8 (fun _ => FP.dconst1) x0) (wr 8 (fun _ => FP.dconst1) s0) (wr 5 (fun _ => FP.dconst0) y0)) :
    Ok (s_Im_solve g0 tb0 (nI m) (nI n) A b c x0 s0 y0 e0 l0 d0 m0 p0 dd0 h0 f0 r0 X0 S0 Y0 (nI T)) (fun r => ∃ k how, RunTo m n A b c (wr 8 (fun _ => FP.dconst1) x0) (wr 8 (fun _ => FP.dconst1) s0) (wr 5 (fun _ => FP.dconst0) y0) T k how ∧ r.1 = how ∧ r.2.2.1 = nI (if how = 4 then k else k + 1) ∧ r.2.2.2.1 = ix m n A b c (wr 8 (fun _ => FP.dconst1) x0) (wr 8 (fun _ => FP.dconst1) s0) (wr 5 (fun _ => FP.dconst0) y0) k ∧ r.2.2.2.2.1 = is m n A b c (wr 8 (fun _ => FP.dconst1) x0) (wr 8 (fun _ => FP.dconst1) s0) (wr 5 (fun _ => FP.dconst0) y0) k ∧ r.2.2.2.2.2.1 = iy m n A b c (wr 8 (fun _ => FP.dconst1) x0) (wr 8 (fun _ => FP.dconst1) s0) (wr 5 (fun _ => FP.dconst0) y0) k) := by
  unfold s_Im_solve
  rw [e_ptfill]
  simp only [Option.bind_some]
  revert h1
  generalize wr 8 (fun _ => FP.dconst1) x0 = x
  generalize wr 8 (fun _ => FP.dconst1) s0 = s
  generalize wr 5 (fun _ => FP.dconst0) y0 = y
  intro h1
  unfold s_Im_solve_L16
  refine Ok.bind (P := fun v => Sum.elim (fun w => (∀ k', k' < T → aMv m n A b c x s y k') ∧ w.2.1 = nI T ∧ w.2.2.1 = ix m n A b c x s y T ∧ w.2.2.2.1 = is m n A b c x s y T ∧ w.2.2.2.2.1 = iy m n A b c x s y T) (fun r => ∃ k how, RunTo m n A b c x s y T k how ∧ r.1 = how ∧ r.2.2.1 = nI (if how = 4 then k else k + 1) ∧ r.2.2.2.1 = ix m n A b c x s y k ∧ r.2.2.2.2.1 = is m n A b c x s y k ∧ r.2.2.2.2.2.1 = iy m n A b c x s y k) v) ?_ ?_
  · refine Ok.for (fun t st => st.2.2.2.2.2.2.2.2.2.2.2.2.2.2.2.2.2 = nI t ∧ st.2.1 = nI t ∧ st.2.2.1 = ix m n A b c x s y t ∧ st.2.2.2.1 = is m n A b c x s y t ∧ st.2.2.2.2.1 = iy m n A b c x s y t ∧ ∀ k', k' < t → aMv m n A b c x s y k') T (by omega) ⟨rfl, rfl, rfl, rfl, rfl, fun i hi => absurd hi (Nat.not_lt_zero _)⟩ ?_ ?_
    · rintro t ⟨q1, q2, q3, q4, q5, q6, q7, q8, q9, q10, q11, q12, q13, q14, q15, q16, q17, q18⟩ ht ⟨w1, w2, w3, w4, w5, w6⟩
      have w1 : q18 = nI t := w1
      have w2 : q2 = nI t := w2
      have w3 : q3 = ix m n A b c x s y t := w3
      have w4 : q4 = is m n A b c x s y t := w4
      have w5 : q5 = iy m n A b c x s y t := w5
      subst w1 w2 w3 w4 w5
      obtain ⟨i1, i2, i3⟩ := hI _ _ _ (it_inv hI h1 t w6)
      obtain ⟨r1, h3, h4⟩ := e_isSolved (p := wr m (qP m n A b c (ix m n A b c x s y t) (is m n A b c x s y t) (iy m n A b c x s y t)) q10) (d := wr n (qD m n A b c (ix m n A b c x s y t) (is m n A b c x s y t) (iy m n A b c x s y t)) q11) (nI t + 1) hm hn (fun i hi => wr_in hi) (fun j hj => wr_in hj) i2
      obtain ⟨r2, h5, h6⟩ := e_isLost (qg m n A b c (ix m n A b c x s y t) (is m n A b c x s y t) (iy m n A b c x s y t)) (nI t + 1) hm hn i2
      simp (disch := omega) only [↓ite_le_t, ↓ite_le_f, ↓ite_lt_t, ↓ite_lt_f, li5, li8, nI_leI, nI_ltI, nI_eqI, if_pos, if_neg, ↓reduceIte, inb_nI, gd_t, nI_clamp, Option.bind_some, nI_1, isb_0, isb_1, lit13, lit14, lit40, nI_mul, nI_add, s_Im_solve_B16, e_imeasure _ (nI (t + 1)) hm hn i1]
      rw [nI_1] at h3 h5
      simp (disch := omega) only [↓ite_le_t, ↓ite_le_f, ↓ite_lt_t, ↓ite_lt_f, li5, li8, nI_leI, nI_ltI, nI_eqI, if_pos, if_neg, ↓reduceIte, inb_nI, gd_t, nI_clamp, Option.bind_some, nI_1, isb_0, isb_1, lit13, lit14, lit40, nI_mul, nI_add, h3, h5]
      rcases h4 with ⟨rfl, h4⟩ | ⟨rfl, h4⟩
      · simp only [i32_10, ↓reduceIte]
        exact Ok.mk ⟨t, 0, ⟨w6, Or.inr ⟨ht, Or.inl ⟨rfl, h4⟩⟩⟩, rfl, rfl, rfl, rfl, rfl⟩
      · simp only [↓reduceIte]
        rcases h6 with ⟨rfl, h6⟩ | ⟨rfl, h6⟩
        · simp only [i32_10, ↓reduceIte]
          exact Ok.mk ⟨t, 3, ⟨w6, Or.inr ⟨ht, Or.inr (Or.inl ⟨rfl, h4, h6⟩)⟩⟩, rfl, rfl, rfl, rfl, rfl⟩
        · simp only [↓reduceIte]
          obtain ⟨i4, i5⟩ := i3 h6
          refine Ok.bind (e_findStep (nI (t + 1)) hm hn (fun i hi => wr_in hi) (fun j hj => wr_in hj) i4 (fun q => (i5 q).1)) ?_
          rintro r (⟨hr, g1⟩ | ⟨hr, g1, gX, gS, gY⟩)
          · rw [if_pos hr]
            exact Ok.mk ⟨t, 5, ⟨w6, Or.inr ⟨ht, Or.inr (Or.inr ⟨rfl, h4, h6, g1⟩)⟩⟩, rfl, rfl, rfl, rfl, rfl⟩
          · rw [if_neg (by rw [hr]; decide), e_goStep _ _ hm hn gX gS gY (i5 g1).1]
            refine Ok.mk ⟨rfl, rfl, rfl, rfl, rfl, fun k' hk' => ?_⟩
            by_cases e : k' = t
            · subst e
              exact ⟨h4, h6, g1⟩
            · exact w6 k' (by omega)
    · rintro ⟨q1, q2, q3, q4, q5, q6, q7, q8, q9, q10, q11, q12, q13, q14, q15, q16, q17, q18⟩ ⟨w1, w2, w3, w4, w5, w6⟩
      have w1 : q18 = nI T := w1
      subst w1
      simp (disch := omega) only [↓ite_le_t, ↓ite_le_f, ↓ite_lt_t, ↓ite_lt_f, li5, li8, nI_leI, nI_ltI, nI_eqI, if_pos, if_neg, ↓reduceIte, inb_nI, gd_t, nI_clamp, Option.bind_some, nI_1, isb_0, isb_1, lit13, lit14, lit40, nI_mul, nI_add, s_Im_solve_B16]
      exact Ok.mk ⟨w6, w2, w3, w4, w5⟩
  · rintro (v | v) hv
    · obtain ⟨w6, w2, w3, w4, w5⟩ := hv
      exact Ok.mk ⟨T, 4, ⟨w6, Or.inl ⟨rfl, rfl⟩⟩, rfl, w2, w3, w4, w5⟩
    · exact Ok.mk hv
