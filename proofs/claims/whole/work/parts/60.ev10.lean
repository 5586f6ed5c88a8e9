/-! the reference's turn -/
theorem e_mmeasure {m n : Nat} {A : (Nat → Nat → UInt64)} {b c x s y : (Nat → UInt64)} {sa sb sc mx ms my p0 d0 : (Nat → UInt64)} (vl vw ve vt va vs vo v2 vnm vnn : Int32) (vnu : UInt64) (vb : Int32) (hm : m ≤ 5) (hn : n ≤ 8) (hA : ∀ i, i < m → ∀ j, j < n → sa (8 * i + j) = A i j) (hb : ∀ i, i < m → sb i = b i) (hc : ∀ j, j < n → sc j = c j) (hx : ∀ j, j < n → mx j = x j) (hs : ∀ j, j < n → ms j = s j) (hy : ∀ i, i < m → my i = y i) (ok : MsOk m n A b c x s y) :
    s_M_measure (nI m) (nI n) vl vw ve vt va vs vo v2 vnm vnn vnu vb sa sb sc mx ms my p0 d0 = some (qg m n A b c x s y, wr m (qP m n A b c x s y) p0, wr n (qD m n A b c x s y) d0) := by
  obtain ⟨o1, o2, o3⟩ := ok
  unfold s_M_measure s_M_measure_L4
  refine loop_b m (fun k => (wr k (qP m n A b c x s y) p0, nI k)) (wr m (qP m n A b c x s y) p0) (by rw [wr_0]; rfl) (by omega) (fun i hi => ?_) ?_ ?_
  · have a := o1 i hi
    simp (disch := omega) only [↓ite_le_t, ↓ite_le_f, ↓ite_lt_t, ↓ite_lt_f, li5, li8, nI_leI, nI_ltI, nI_eqI, if_pos, if_neg, ↓reduceIte, inb_nI, gd_t, nI_clamp, Option.bind_some, nI_1, isb_0, isb_1, lit13, lit14, lit40, nI_mul, nI_add, s_M_measure_B4]
    unfold s_M_measure_L27
    refine loop_b n (fun k => (vf_upd (wr i (qP m n A b c x s y) p0) i (subR (fun j => FP.dmul (A i j) (x j)) k (b i)), nI k)) (vf_upd (wr i (qP m n A b c x s y) p0) i (subR (fun j => FP.dmul (A i j) (x j)) n (b i))) (by rw [hb i hi]; rfl) (by omega) (fun j hj => ?_) ?_ ?_
    · have a1 := a.1 j hj
      have a2 := a.2 j hj
      simp (disch := omega) only [↓ite_le_t, ↓ite_le_f, ↓ite_lt_t, ↓ite_lt_f, li5, li8, nI_leI, nI_ltI, nI_eqI, if_pos, if_neg, ↓reduceIte, inb_nI, gd_t, nI_clamp, Option.bind_some, nI_1, isb_0, isb_1, lit13, lit14, lit40, nI_mul, nI_add, s_M_measure_B27, hA i hi j hj, hx j hj, a1, upd_at, upd_upd, ← subR_s (fun j => FP.dmul (A i j) (x j)), a2]
    · simp (disch := omega) only [↓ite_le_t, ↓ite_le_f, ↓ite_lt_t, ↓ite_lt_f, s_M_measure_B27]
    · have e9 : subR (fun j => FP.dmul (A i j) (x j)) n (b i) = qP m n A b c x s y i := rfl
      simp (disch := omega) only [↓ite_le_t, ↓ite_le_f, ↓ite_lt_t, ↓ite_lt_f, li5, li8, nI_leI, nI_ltI, nI_eqI, if_pos, if_neg, ↓reduceIte, inb_nI, gd_t, nI_clamp, Option.bind_some, nI_1, isb_0, isb_1, lit13, lit14, lit40, nI_mul, nI_add, e9, wr_s (F := qP m n A b c x s y)]
  · simp (disch := omega) only [↓ite_le_t, ↓ite_le_f, ↓ite_lt_t, ↓ite_lt_f, s_M_measure_B4]
  · unfold s_M_measure_L83
    refine loop_b n (fun k => (wr k (qD m n A b c x s y) d0, sumR (fun j => FP.dmul (x j) (s j)) k FP.dconst0, nI k)) (wr n (qD m n A b c x s y) d0, qg m n A b c x s y) (by rw [wr_0]; rfl) (by omega) (fun j hj => ?_) ?_ rfl
    · obtain ⟨a, ad⟩ := o2 j hj
      have a3 := o3.1 j hj
      have a4 := o3.2 j hj
      simp (disch := omega) only [↓ite_le_t, ↓ite_le_f, ↓ite_lt_t, ↓ite_lt_f, li5, li8, nI_leI, nI_ltI, nI_eqI, if_pos, if_neg, ↓reduceIte, inb_nI, gd_t, nI_clamp, Option.bind_some, nI_1, isb_0, isb_1, lit13, lit14, lit40, nI_mul, nI_add, s_M_measure_B83]
      unfold s_M_measure_L106
      refine loop_b m (fun k => (vf_upd (wr j (qD m n A b c x s y) d0) j (subR (fun i => FP.dmul (A i j) (y i)) k (c j)), nI k)) (vf_upd (wr j (qD m n A b c x s y) d0) j (subR (fun i => FP.dmul (A i j) (y i)) m (c j))) (by rw [hc j hj]; rfl) (by omega) (fun i hi => ?_) ?_ ?_
      · have a1 := a.1 i hi
        have a2 := a.2 i hi
        simp (disch := omega) only [↓ite_le_t, ↓ite_le_f, ↓ite_lt_t, ↓ite_lt_f, li5, li8, nI_leI, nI_ltI, nI_eqI, if_pos, if_neg, ↓reduceIte, inb_nI, gd_t, nI_clamp, Option.bind_some, nI_1, isb_0, isb_1, lit13, lit14, lit40, nI_mul, nI_add, s_M_measure_B106, hA i hi j hj, hy i hi, a1, upd_at, upd_upd, ← subR_s (fun i => FP.dmul (A i j) (y i)), a2]
      · simp (disch := omega) only [↓ite_le_t, ↓ite_le_f, ↓ite_lt_t, ↓ite_lt_f, s_M_measure_B106]
      · have e1 : FP.dsub (subR (fun i => FP.dmul (A i j) (y i)) m (c j)) (s j) = qD m n A b c x s y j := rfl
        simp (disch := omega) only [↓ite_le_t, ↓ite_le_f, ↓ite_lt_t, ↓ite_lt_f, li5, li8, nI_leI, nI_ltI, nI_eqI, if_pos, if_neg, ↓reduceIte, inb_nI, gd_t, nI_clamp, Option.bind_some, nI_1, isb_0, isb_1, lit13, lit14, lit40, nI_mul, nI_add, upd_at, upd_upd, hx j hj, hs j hj, e1, ad, a3, ← sumR_s (fun j => FP.dmul (x j) (s j)), a4, wr_s (F := qD m n A b c x s y)]
    · simp (disch := omega) only [↓ite_le_t, ↓ite_le_f, ↓ite_lt_t, ↓ite_lt_f, s_M_measure_B83]
      rfl
theorem e_misSolved {m n : Nat} {A : (Nat → Nat → UInt64)} {b c x s y : (Nat → UInt64)} {sb sc mx p d : (Nat → UInt64)} (vl vw ve vt va vs vo v2 vnm vnn : Int32) (vnu : UInt64) (vb : Int32) (hm : m ≤ 5) (hn : n ≤ 8) (hb : ∀ i, i < m → sb i = b i) (hc : ∀ j, j < n → sc j = c j) (hx : ∀ j, j < n → mx j = x j) (hp : ∀ i, i < m → p i = qP m n A b c x s y i) (hd : ∀ j, j < n → d j = qD m n A b c x s y j) (ok : EnOk m n A b c x s y) :
    Ok (s_M_isSolved (nI m) (nI n) vl vw ve vt va vs vo v2 vnm vnn vnu vb sb sc mx p d (qg m n A b c x s y)) (fun r => (r = 1 ∧ qSol m n A b c x s y) ∨ (r = 0 ∧ ¬ qSol m n A b c x s y)) := by
  obtain ⟨o1, o2, o3, o4, o5, o6, -, -, -, o7, o8⟩ := ok
  obtain ⟨a1, a2⟩ := o8 _ (Or.inl rfl)
  obtain ⟨a3, a4⟩ := o8 _ (Or.inr (Or.inl rfl))
  obtain ⟨a5, a6⟩ := o8 _ (Or.inr (Or.inr rfl))
  have l0 : ∀ w, FP.dmul 4487126258331716666 (FP.dadd FP.dconst1 w) = lim w := fun _ => rfl
  have n1 := nn_fd_max (n := m) nn_0 o2
  have n2 := nn_fd_max (n := n) nn_0 o3
  unfold s_M_isSolved s_M_isSolved_L17
  refine Ok.bind (P := fun v => v = (vC c x n, mxR (qD m n A b c x s y) n FP.dconst0, mxR c n FP.dconst0)) ?_ ?_
  · refine loop_ok n (fun k => (sumR (fun j => FP.dmul (c j) (x j)) k FP.dconst0, mxR (qD m n A b c x s y) k FP.dconst0, mxR c k FP.dconst0, nI k)) _ rfl (by omega) (fun j hj => ?_) ?_
    · have b1 := o1.1 j hj
      have b2 := o1.2 j hj
      rw [sumR_s] at b2
      have b3 := e_mmax (nn_fd_max (n := j) nn_0 (fun k hk => o3 k (by omega))) (nn_abs (o3 j hj))
      have b4 := e_mmax (nn_fd_max (n := j) nn_0 (fun k hk => o6 k (by omega))) (nn_abs (o6 j hj))
      simp (disch := omega) only [↓ite_le_t, ↓ite_le_f, ↓ite_lt_t, ↓ite_lt_f, li5, li8, nI_leI, nI_ltI, nI_eqI, if_pos, if_neg, ↓reduceIte, inb_nI, gd_t, nI_clamp, Option.bind_some, nI_1, isb_0, isb_1, lit13, lit14, lit40, nI_mul, nI_add, s_M_isSolved_B17, hc j hj, hx j hj, hd j hj, b1, b2, e_mabs (o3 j hj), e_mabs (o6 j hj), b3, b4]
      rfl
    · simp (disch := omega) only [↓ite_le_t, ↓ite_le_f, ↓ite_lt_t, ↓ite_lt_f, li5, li8, nI_leI, nI_ltI, nI_eqI, if_pos, if_neg, ↓reduceIte, inb_nI, gd_t, nI_clamp, Option.bind_some, nI_1, isb_0, isb_1, lit13, lit14, lit40, nI_mul, nI_add, s_M_isSolved_B17]
      rfl
  · rintro v rfl
    dsimp only
    unfold s_M_isSolved_L87
    refine Ok.bind (P := fun v => v = (mxR (qP m n A b c x s y) m FP.dconst0, mxR b m FP.dconst0)) ?_ ?_
    · refine loop_ok m (fun k => (mxR (qP m n A b c x s y) k FP.dconst0, mxR b k FP.dconst0, nI k)) _ rfl (by omega) (fun i hi => ?_) ?_
      · have b3 := e_mmax (nn_fd_max (n := i) nn_0 (fun k hk => o2 k (by omega))) (nn_abs (o2 i hi))
        have b4 := e_mmax (nn_fd_max (n := i) nn_0 (fun k hk => o5 k (by omega))) (nn_abs (o5 i hi))
        simp (disch := omega) only [↓ite_le_t, ↓ite_le_f, ↓ite_lt_t, ↓ite_lt_f, li5, li8, nI_leI, nI_ltI, nI_eqI, if_pos, if_neg, ↓reduceIte, inb_nI, gd_t, nI_clamp, Option.bind_some, nI_1, isb_0, isb_1, lit13, lit14, lit40, nI_mul, nI_add, s_M_isSolved_B87, hb i hi, hp i hi, e_mabs (o2 i hi), e_mabs (o5 i hi), b3, b4]
        rfl
      · simp (disch := omega) only [↓ite_le_t, ↓ite_le_f, ↓ite_lt_t, ↓ite_lt_f, li5, li8, nI_leI, nI_ltI, nI_eqI, if_pos, if_neg, ↓reduceIte, inb_nI, gd_t, nI_clamp, Option.bind_some, nI_1, isb_0, isb_1, lit13, lit14, lit40, nI_mul, nI_add, s_M_isSolved_B87]
    · rintro v rfl
      dsimp only
      simp only [s_M_isSolved_J183, e_mabs o7, Option.bind_some, l0, a1, a2, a3, a4, a5, a6, gd_t, isb_0, isb_1, cv_gt n1 (nn_i a2), cv_gt n2 (nn_i a4), cv_gt o4 (nn_i a6)]
      unfold qSol
      by_cases c1 : zv (lim (mxR b m FP.dconst0)) < zv (mxR (qP m n A b c x s y) m FP.dconst0)
      · rw [if_pos c1]
        exact Ok.mk (Or.inr ⟨rfl, fun q => absurd c1 (Int.not_lt.mpr q.1)⟩)
      · rw [if_neg c1]
        by_cases c2 : zv (lim (mxR c n FP.dconst0)) < zv (mxR (qD m n A b c x s y) n FP.dconst0)
        · rw [if_pos c2]
          exact Ok.mk (Or.inr ⟨rfl, fun q => absurd c2 (Int.not_lt.mpr q.2.1)⟩)
        · rw [if_neg c2]
          by_cases c3 : zv (lim (dabs (vC c x n))) < zv (qg m n A b c x s y)
          · rw [if_pos c3]
            exact Ok.mk (Or.inr ⟨rfl, fun q => absurd c3 (Int.not_lt.mpr q.2.2)⟩)
          · rw [if_neg c3]
            exact Ok.mk (Or.inl ⟨rfl, Int.not_lt.mp c1, Int.not_lt.mp c2, Int.not_lt.mp c3⟩)
theorem e_misLost {m n : Nat} {A : (Nat → Nat → UInt64)} {b c x s y : (Nat → UInt64)} {mx ms my : (Nat → UInt64)} (vl vw ve vt va vs vo v2 vnm vnn : Int32) (vnu : UInt64) (vb : Int32) (hm : m ≤ 5) (hn : n ≤ 8) (hx : ∀ j, j < n → mx j = x j) (hs : ∀ j, j < n → ms j = s j) (hy : ∀ i, i < m → my i = y i) (ok : EnOk m n A b c x s y) : Ok (s_M_isLost (nI m) (nI n) vl vw ve vt va vs vo v2 vnm vnn vnu vb mx ms my) (fun r => (r = 1 ∧ qLost m n A b c x s y) ∨ (r = 0 ∧ ¬ qLost m n A b c x s y)) := by
  obtain ⟨-, -, -, -, -, -, o1, o2, o3, -⟩ := ok
  unfold s_M_isLost s_M_isLost_L2
  refine Ok.bind (P := fun v => Sum.elim (fun _ => ¬ ∃ j, j < n ∧ (outs (x j) ∨ outs (s j))) (fun w => w = 1 ∧ ∃ j, j < n ∧ (outs (x j) ∨ outs (s j))) v) ?_ ?_
  · refine Ok.for (fun t st => st = nI t ∧ ∀ j, j < t → ¬ (outs (x j) ∨ outs (s j))) n (by omega) ⟨rfl, fun i hi => absurd hi (Nat.not_lt_zero _)⟩ ?_ ?_
    · rintro j st hj ⟨rfl, g1⟩
      simp (disch := omega) only [↓ite_le_t, ↓ite_le_f, ↓ite_lt_t, ↓ite_lt_f, li5, li8, nI_leI, nI_ltI, nI_eqI, if_pos, if_neg, ↓reduceIte, inb_nI, gd_t, nI_clamp, Option.bind_some, nI_1, isb_0, isb_1, lit13, lit14, lit40, nI_mul, nI_add, s_M_isLost_B2, hx j hj, hs j hj, cv_gt (o1 j hj) nn_1e9, cv_gt (o2 j hj) nn_1e9, cv_lt (o1 j hj) nn_1em12, cv_ge (o2 j hj) nn_1em12]
      by_cases c1 : zv 4741671816366391296 < zv (x j)
      · rw [if_pos c1]
        exact Ok.mk ⟨rfl, j, hj, Or.inl (Or.inl c1)⟩
      · rw [if_neg c1]
        by_cases c2 : zv 4741671816366391296 < zv (s j)
        · rw [if_pos c2]
          exact Ok.mk ⟨rfl, j, hj, Or.inr (Or.inl c2)⟩
        · rw [if_neg c2]
          by_cases c3 : zv (x j) < zv 4427486594234968593
          · rw [if_pos c3]
            exact Ok.mk ⟨rfl, j, hj, Or.inl (Or.inr c3)⟩
          · rw [if_neg c3]
            by_cases c4 : zv 4427486594234968593 ≤ zv (s j)
            · rw [if_pos c4]
              refine Ok.mk ⟨rfl, fun j' hj' => ?_⟩
              by_cases e : j' = j
              · subst e
                rintro ((q | q) | (q | q))
                · exact c1 q
                · exact c3 q
                · exact c2 q
                · exact absurd q (Int.not_lt.mpr c4)
              · exact g1 j' (by omega)
            · rw [if_neg c4]
              exact Ok.mk ⟨rfl, j, hj, Or.inr (Or.inr (Int.not_le.mp c4))⟩
    · rintro st ⟨rfl, g1⟩
      simp (disch := omega) only [↓ite_le_t, ↓ite_le_f, ↓ite_lt_t, ↓ite_lt_f, li5, li8, nI_leI, nI_ltI, nI_eqI, if_pos, if_neg, ↓reduceIte, inb_nI, gd_t, nI_clamp, Option.bind_some, nI_1, isb_0, isb_1, lit13, lit14, lit40, nI_mul, nI_add, s_M_isLost_B2]
      refine Ok.mk ?_
      rintro ⟨j, hj, q⟩
      exact g1 j hj q
  · rintro (v | v) hv
    · show Ok (s_M_isLost_L72 (nI m) (nI n) vl vw ve vt va vs vo v2 vnm vnn vnu vb mx ms my 0) _
      unfold s_M_isLost_L72
      refine Ok.bind (P := fun v => Sum.elim (fun _ => ¬ ∃ i, i < m ∧ zv 4741671816366391296 < zv (dabs (y i))) (fun w => w = 1 ∧ ∃ i, i < m ∧ zv 4741671816366391296 < zv (dabs (y i))) v) ?_ ?_
      · refine Ok.for (fun t st => st = nI t ∧ ∀ i, i < t → ¬ zv 4741671816366391296 < zv (dabs (y i))) m (by omega) ⟨rfl, fun i hi => absurd hi (Nat.not_lt_zero _)⟩ ?_ ?_
        · rintro i st hi ⟨rfl, g1⟩
          simp (disch := omega) only [↓ite_le_t, ↓ite_le_f, ↓ite_lt_t, ↓ite_lt_f, li5, li8, nI_leI, nI_ltI, nI_eqI, if_pos, if_neg, ↓reduceIte, inb_nI, gd_t, nI_clamp, Option.bind_some, nI_1, isb_0, isb_1, lit13, lit14, lit40, nI_mul, nI_add, s_M_isLost_B72, hy i hi, e_mabs (o3 i hi), cv_le (nn_abs (o3 i hi)) nn_1e9]
          by_cases c1 : zv (dabs (y i)) ≤ zv 4741671816366391296
          · rw [if_pos c1]
            refine Ok.mk ⟨rfl, fun i' hi' => ?_⟩
            by_cases e : i' = i
            · subst e; exact Int.not_lt.mpr c1
            · exact g1 i' (by omega)
          · rw [if_neg c1]
            exact Ok.mk ⟨rfl, i, hi, Int.not_le.mp c1⟩
        · rintro st ⟨rfl, g1⟩
          simp (disch := omega) only [↓ite_le_t, ↓ite_le_f, ↓ite_lt_t, ↓ite_lt_f, li5, li8, nI_leI, nI_ltI, nI_eqI, if_pos, if_neg, ↓reduceIte, inb_nI, gd_t, nI_clamp, Option.bind_some, nI_1, isb_0, isb_1, lit13, lit14, lit40, nI_mul, nI_add, s_M_isLost_B72]
          refine Ok.mk ?_
          rintro ⟨j, hj, q⟩
          exact g1 j hj q
      · rintro (w | w) hw
        · refine Ok.mk (Or.inr ⟨rfl, ?_⟩)
          rintro (q | q)
          · exact hv q
          · exact hw q
        · exact Ok.mk (Or.inl ⟨hw.1, Or.inr hw.2⟩)
    · exact Ok.mk (Or.inl ⟨hv.1, Or.inl hv.2⟩)
theorem e_prepare {m n : Nat} {A : (Nat → Nat → UInt64)} {b c x s y : (Nat → UInt64)} {sa mx ms p d h0 f0 mm0 r0 : (Nat → UInt64)} (vl vw ve vt va vs vo v2 vnm vnn : Int32) (vnu : UInt64) (vb : Int32) (hm : m ≤ 5) (hn : n ≤ 8) (hA : ∀ i, i < m → ∀ j, j < n → sa (8 * i + j) = A i j) (hx : ∀ j, j < n → mx j = x j) (hs : ∀ j, j < n → ms j = s j) (hp : ∀ i, i < m → p i = qP m n A b c x s y i) (hd : ∀ j, j < n → d j = qD m n A b c x s y j) (ok : StOk m n A b c x s y) :
    Ok (s_M_prepare (nI m) (nI n) vl vw ve vt va vs vo v2 vnm vnn vnu vb sa mx ms p d h0 f0 mm0 r0 (qu m n A b c x s y)) (fun r => (∀ j, j < n → r.1 j = tH x s j) ∧ (∀ i, i < m → ∀ k, k ≤ i → r.2.2.1 (5 * i + k) = qG m n A b c x s y i k) ∧ ∀ i, i < m → r.2.2.2 i = qr m n A b c x s y i) := by
  obtain ⟨o1, o2, o3, o4, o5, o6⟩ := ok
  unfold s_M_prepare s_M_prepare_L2
  refine Ok.bind (P := fun v => v = (wr n (tH x s) h0, wr n (qf m n A b c x s y) f0)) ?_ ?_
  · refine loop_ok n (fun k => (wr k (tH x s) h0, wr k (qf m n A b c x s y) f0, nI k)) _ (by rw [wr_0, wr_0]; rfl) (by omega) (fun j hj => ?_) ?_
    · obtain ⟨a1, a2, a3, a4, a5⟩ := o3 j hj
      have e1 : FP.ddiv (x j) (s j) = tH x s j := rfl
      have e2 : FP.dadd (FP.dsub (x j) (FP.ddiv (qu m n A b c x s y) (s j))) (FP.dmul (tH x s j) (qD m n A b c x s y j)) = qf m n A b c x s y j := rfl
      simp (disch := omega) only [↓ite_le_t, ↓ite_le_f, ↓ite_lt_t, ↓ite_lt_f, li5, li8, nI_leI, nI_ltI, nI_eqI, if_pos, if_neg, ↓reduceIte, inb_nI, gd_t, nI_clamp, Option.bind_some, nI_1, isb_0, isb_1, lit13, lit14, lit40, nI_mul, nI_add, s_M_prepare_B2, hx j hj, hs j hj, hd j hj, e1, upd_at, a1, a2, a3, a4, e2, a5, wr_s (F := tH x s), wr_s (F := qf m n A b c x s y)]
    · simp (disch := omega) only [↓ite_le_t, ↓ite_le_f, ↓ite_lt_t, ↓ite_lt_f, li5, li8, nI_leI, nI_ltI, nI_eqI, if_pos, if_neg, ↓reduceIte, inb_nI, gd_t, nI_clamp, Option.bind_some, nI_1, isb_0, isb_1, lit13, lit14, lit40, nI_mul, nI_add, s_M_prepare_B2]
  · rintro v rfl
    dsimp only
    unfold s_M_prepare_L72
    refine Ok.bind (P := fun v => (∀ i, i < m → ∀ k, k ≤ i → v.1 (5 * i + k) = qG m n A b c x s y i k) ∧ ∀ i, i < m → v.2 i = qr m n A b c x s y i) ?_ ?_
    · refine Ok.for (fun t st => st.2.2 = nI t ∧ (∀ i, i < t → ∀ k, k ≤ i → st.1 (5 * i + k) = qG m n A b c x s y i k) ∧ ∀ i, i < t → st.2.1 i = qr m n A b c x s y i) m (by omega) ⟨rfl, fun i hi => absurd hi (Nat.not_lt_zero _), fun i hi => absurd hi (Nat.not_lt_zero _)⟩ ?_ ?_
      · rintro i ⟨mm, r, z⟩ hi ⟨hz, g1, g2⟩
        have hz : z = nI i := hz
        subst hz
        simp (disch := omega) only [↓ite_le_t, ↓ite_le_f, ↓ite_lt_t, ↓ite_lt_f, li5, li8, nI_leI, nI_ltI, nI_eqI, if_pos, if_neg, ↓reduceIte, inb_nI, gd_t, nI_clamp, Option.bind_some, nI_1, isb_0, isb_1, lit13, lit14, lit40, nI_mul, nI_add, s_M_prepare_B72]
        unfold s_M_prepare_L83
        refine Ok.bind (P := fun v => (∀ i', i' < i → ∀ k, k ≤ i' → v (5 * i' + k) = qG m n A b c x s y i' k) ∧ ∀ k, k ≤ i → v (5 * i + k) = qG m n A b c x s y i k) ?_ ?_
        · refine Ok.for (fun t st => st.2 = nI t ∧ (∀ i', i' < i → ∀ k, k ≤ i' → st.1 (5 * i' + k) = qG m n A b c x s y i' k) ∧ ∀ k, k < t → st.1 (5 * i + k) = qG m n A b c x s y i k) (i + 1) (by omega) ⟨rfl, g1, fun i hi => absurd hi (Nat.not_lt_zero _)⟩ ?_ ?_
          · rintro k ⟨mm, z⟩ hk ⟨hz, g1, g3⟩
            have hz : z = nI k := hz
            subst hz
            have ok := o5 i hi k (by omega)
            simp (disch := omega) only [↓ite_le_t, ↓ite_le_f, ↓ite_lt_t, ↓ite_lt_f, li5, li8, nI_leI, nI_ltI, nI_eqI, if_pos, if_neg, ↓reduceIte, inb_nI, gd_t, nI_clamp, Option.bind_some, nI_1, isb_0, isb_1, lit13, lit14, lit40, nI_mul, nI_add, s_M_prepare_B83]
            unfold s_M_prepare_L95
            refine Ok.bind (P := fun v => v = qG m n A b c x s y i k) ?_ ?_
            · refine loop_ok n (fun j => (sumR (fun j => FP.dmul (FP.dmul (A i j) (tH x s j)) (A k j)) j FP.dconst0, nI j)) _ rfl (by omega) (fun j hj => ?_) ?_
              · have b2 := ok.2.2 j hj
                simp (disch := omega) only [↓ite_le_t, ↓ite_le_f, ↓ite_lt_t, ↓ite_lt_f, li5, li8, nI_leI, nI_ltI, nI_eqI, if_pos, if_neg, ↓reduceIte, inb_nI, gd_t, nI_clamp, Option.bind_some, nI_1, isb_0, isb_1, lit13, lit14, lit40, nI_mul, nI_add, s_M_prepare_B95, hA i hi j hj, hA k (by omega) j hj, wr_in, ok.1 j hj, ok.2.1 j hj, ← sumR_s (fun j => FP.dmul (FP.dmul (A i j) (tH x s j)) (A k j)), b2]
              · simp (disch := omega) only [↓ite_le_t, ↓ite_le_f, ↓ite_lt_t, ↓ite_lt_f, s_M_prepare_B95]
                rfl
            · rintro v rfl
              simp (disch := omega) only [↓ite_le_t, ↓ite_le_f, ↓ite_lt_t, ↓ite_lt_f, li5, li8, nI_leI, nI_ltI, nI_eqI, if_pos, if_neg, ↓reduceIte, inb_nI, gd_t, nI_clamp, Option.bind_some, nI_1, isb_0, isb_1, lit13, lit14, lit40, nI_mul, nI_add]
              refine Ok.mk ⟨rfl, fun i' hi' k' hk' => ?_, fun k' hk' => ?_⟩
              · exact (upd_ne (by omega)).trans (g1 i' hi' k' hk')
              · by_cases e : k' = k
                · subst e
                  exact upd_at _ _ _
                · exact (upd_ne (by omega)).trans (g3 k' (by omega))
          · rintro ⟨mm, z⟩ ⟨hz, g1, g3⟩
            have hz : z = nI (i + 1) := hz
            subst hz
            simp (disch := omega) only [↓ite_le_t, ↓ite_le_f, ↓ite_lt_t, ↓ite_lt_f, li5, li8, nI_leI, nI_ltI, nI_eqI, if_pos, if_neg, ↓reduceIte, inb_nI, gd_t, nI_clamp, Option.bind_some, nI_1, isb_0, isb_1, lit13, lit14, lit40, nI_mul, nI_add, s_M_prepare_B83]
            exact Ok.mk ⟨g1, fun k hk => g3 k (by omega)⟩
        · rintro mm' ⟨g1, g3⟩
          simp (disch := omega) only [↓ite_le_t, ↓ite_le_f, ↓ite_lt_t, ↓ite_lt_f, li5, li8, nI_leI, nI_ltI, nI_eqI, if_pos, if_neg, ↓reduceIte, inb_nI, gd_t, nI_clamp, Option.bind_some, nI_1, isb_0, isb_1, lit13, lit14, lit40, nI_mul, nI_add]
          unfold s_M_prepare_L183
          have a := o4 i hi
          refine Ok.bind (P := fun v => v = vf_upd r i (sumR (fun j => FP.dmul (A i j) (qf m n A b c x s y j)) n (qP m n A b c x s y i))) ?_ ?_
          · refine loop_ok n (fun k => (vf_upd r i (sumR (fun j => FP.dmul (A i j) (qf m n A b c x s y j)) k (qP m n A b c x s y i)), nI k)) _ (by rw [hp i hi]; rfl) (by omega) (fun j hj => ?_) ?_
            · have a1 := a.1 j hj
              have a2 := a.2 j hj
              simp (disch := omega) only [↓ite_le_t, ↓ite_le_f, ↓ite_lt_t, ↓ite_lt_f, li5, li8, nI_leI, nI_ltI, nI_eqI, if_pos, if_neg, ↓reduceIte, inb_nI, gd_t, nI_clamp, Option.bind_some, nI_1, isb_0, isb_1, lit13, lit14, lit40, nI_mul, nI_add, s_M_prepare_B183, hA i hi j hj, wr_in, a1, upd_at, upd_upd, ← sumR_s (fun j => FP.dmul (A i j) (qf m n A b c x s y j)), a2]
            · simp (disch := omega) only [↓ite_le_t, ↓ite_le_f, ↓ite_lt_t, ↓ite_lt_f, s_M_prepare_B183]
          · rintro v rfl
            refine Ok.mk ⟨nI_1 i, fun i' hi' k hk => ?_, fun i' hi' => ?_⟩
            · by_cases e : i' = i
              · subst e; exact g3 k hk
              · exact g1 i' (by omega) k hk
            · by_cases e : i' = i
              · subst e
                exact upd_at _ _ _
              · exact (upd_ne e).trans (g2 i' (by omega))
      · rintro ⟨mm, r, z⟩ ⟨hz, g1, g2⟩
        have hz : z = nI m := hz
        subst hz
        simp (disch := omega) only [↓ite_le_t, ↓ite_le_f, ↓ite_lt_t, ↓ite_lt_f, li5, li8, nI_leI, nI_ltI, nI_eqI, if_pos, if_neg, ↓reduceIte, inb_nI, gd_t, nI_clamp, Option.bind_some, nI_1, isb_0, isb_1, lit13, lit14, lit40, nI_mul, nI_add, s_M_prepare_B72]
        exact Ok.mk ⟨g1, g2⟩
    · rintro ⟨mm, r⟩ ⟨g1, g2⟩
      exact Ok.mk ⟨fun j hj => wr_in hj, g1, g2⟩
