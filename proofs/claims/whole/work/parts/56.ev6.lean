/-! the reference's measuring -/
theorem e_mscales {m n : Nat} {A : (Nat → Nat → UInt64)} {ma r0 v0 : (Nat → UInt64)} {on : Int32} (vl vw ve vt va vo v2 vnm vnn : Int32) (vnu : UInt64) (vb : Int32) (hm : m ≤ 5) (hn : n ≤ 8) (hA : ∀ i, i < m → ∀ j, j < n → ma (8 * i + j) = A i j) (h : ∀ i, i < m → ∀ j, j < n → okn (A i j)) :
    Ok (s_M_measureScales (nI m) (nI n) vl vw ve vt va on vo v2 vnm vnn vnu vb ma r0 v0) (fun q => (∀ i, i < m → q.1 i = tR on A n i) ∧ ∀ j, j < n → q.2 j = tV on A m n j) := by
  unfold s_M_measureScales s_M_measureScales_L2
  refine Ok.bind (P := fun v => v = wr m (tR on A n) r0) ?_ ?_
  · refine loop_ok m (fun k => (wr k (tR on A n) r0, nI k)) _ (by rw [wr_0]; rfl) (by omega) (fun i hi => ?_) ?_
    · obtain ⟨e, -, -, -, -, -, hq⟩ := tR_p (on := on) (h i hi)
      simp (disch := omega) only [↓ite_le_t, ↓ite_le_f, ↓ite_lt_t, ↓ite_lt_f, li5, li8, nI_leI, nI_ltI, nI_eqI, if_pos, if_neg, ↓reduceIte, inb_nI, gd_t, nI_clamp, Option.bind_some, nI_1, isb_0, isb_1, lit13, lit14, lit40, nI_mul, nI_add, s_M_measureScales_B2]
      unfold s_M_measureScales_L15
      refine loop_b n (fun k => (mxR (A i) k FP.dconst0, nI k)) (mxR (A i) n FP.dconst0) rfl (by omega) (fun k hk => ?_) ?_ ?_
      · have e1 := e_mmax (nn_fd_max (n := k) (f := A i) nn_0 (fun j hj => (h i hi j (by omega)).1.nn)) (nn_abs (h i hi k hk).1.nn)
        simp (disch := omega) only [↓ite_le_t, ↓ite_le_f, ↓ite_lt_t, ↓ite_lt_f, li5, li8, nI_leI, nI_ltI, nI_eqI, if_pos, if_neg, ↓reduceIte, inb_nI, gd_t, nI_clamp, Option.bind_some, nI_1, isb_0, isb_1, lit13, lit14, lit40, nI_mul, nI_add, s_M_measureScales_B15, hA i hi k hk, e_mabs (h i hi k hk).1.nn, e1, ← mxR_s]
      · simp (disch := omega) only [↓ite_le_t, ↓ite_le_f, ↓ite_lt_t, ↓ite_lt_f, li5, li8, nI_leI, nI_ltI, nI_eqI, if_pos, if_neg, ↓reduceIte, inb_nI, gd_t, nI_clamp, Option.bind_some, nI_1, isb_0, isb_1, lit13, lit14, lit40, nI_mul, nI_add, s_M_measureScales_B15]
      · by_cases ho : on = 0
        · have : tR on A n i = FP.dconst1 := by unfold tR; rw [if_pos ho]
          simp (disch := omega) only [↓ite_le_t, ↓ite_le_f, ↓ite_lt_t, ↓ite_lt_f, li5, li8, nI_leI, nI_ltI, nI_eqI, if_pos, if_neg, ↓reduceIte, inb_nI, gd_t, nI_clamp, Option.bind_some, nI_1, isb_0, isb_1, lit13, lit14, lit40, nI_mul, nI_add, ho, s_M_measureScales_J70, ← this, wr_s (F := tR on A n)]
          subst ho
          simp (disch := omega) only [↓ite_le_t, ↓ite_le_f, ↓ite_lt_t, ↓ite_lt_f, li5, li8, nI_leI, nI_ltI, nI_eqI, if_pos, if_neg, ↓reduceIte, inb_nI, gd_t, nI_clamp, Option.bind_some, nI_1, isb_0, isb_1, lit13, lit14, lit40, nI_mul, nI_add, wr_s (F := tR 0 A n)]
        · simp (disch := omega) only [↓ite_le_t, ↓ite_le_f, ↓ite_lt_t, ↓ite_lt_f, li5, li8, nI_leI, nI_ltI, nI_eqI, if_pos, if_neg, ↓reduceIte, inb_nI, gd_t, nI_clamp, Option.bind_some, nI_1, isb_0, isb_1, lit13, lit14, lit40, nI_mul, nI_add, ho, (hq ho).2, s_M_measureScales_J70, wr_s (F := tR on A n)]
    · simp (disch := omega) only [↓ite_le_t, ↓ite_le_f, ↓ite_lt_t, ↓ite_lt_f, li5, li8, nI_leI, nI_ltI, nI_eqI, if_pos, if_neg, ↓reduceIte, inb_nI, gd_t, nI_clamp, Option.bind_some, nI_1, isb_0, isb_1, lit13, lit14, lit40, nI_mul, nI_add, s_M_measureScales_B2]
  · rintro r rfl
    unfold s_M_measureScales_L79
    refine Ok.bind (P := fun v => v = wr n (tV on A m n) v0) ?_ ?_
    · refine loop_ok n (fun k => (wr k (tV on A m n) v0, nI k)) _ (by rw [wr_0]; rfl) (by omega) (fun j hj => ?_) ?_
      · obtain ⟨e, -, -, -, -, -, hq⟩ := tV_p (on := on) h hj
        simp (disch := omega) only [↓ite_le_t, ↓ite_le_f, ↓ite_lt_t, ↓ite_lt_f, li5, li8, nI_leI, nI_ltI, nI_eqI, if_pos, if_neg, ↓reduceIte, inb_nI, gd_t, nI_clamp, Option.bind_some, nI_1, isb_0, isb_1, lit13, lit14, lit40, nI_mul, nI_add, s_M_measureScales_B79]
        unfold s_M_measureScales_L92
        refine loop_b m (fun i => (mxR (fun i => FP.dmul (tR on A n i) (A i j)) i FP.dconst0, nI i)) (mxR (fun i => FP.dmul (tR on A n i) (A i j)) m FP.dconst0) rfl (by omega) (fun i hi => ?_) ?_ ?_
        · have b1 := rA_ok (on := on) (h i hi) hj
          have e2 := e_mmax (nn_fd_max (n := i) (f := fun i => FP.dmul (tR on A n i) (A i j)) nn_0 (fun i' hi' => (rA_ok (on := on) (h i' (by omega)) hj).1.nn)) (nn_abs b1.1.nn)
          simp (disch := omega) only [↓ite_le_t, ↓ite_le_f, ↓ite_lt_t, ↓ite_lt_f, li5, li8, nI_leI, nI_ltI, nI_eqI, if_pos, if_neg, ↓reduceIte, inb_nI, gd_t, nI_clamp, Option.bind_some, nI_1, isb_0, isb_1, lit13, lit14, lit40, nI_mul, nI_add, s_M_measureScales_B92, wr_in, hA i hi j hj, b1.1.isn, e_mabs b1.1.nn, e2]
          rfl
        · simp (disch := omega) only [↓ite_le_t, ↓ite_le_f, ↓ite_lt_t, ↓ite_lt_f, li5, li8, nI_leI, nI_ltI, nI_eqI, if_pos, if_neg, ↓reduceIte, inb_nI, gd_t, nI_clamp, Option.bind_some, nI_1, isb_0, isb_1, lit13, lit14, lit40, nI_mul, nI_add, s_M_measureScales_B92]
        · by_cases ho : on = 0
          · have : tV on A m n j = FP.dconst1 := by unfold tV; rw [if_pos ho]
            subst ho
            simp (disch := omega) only [↓ite_le_t, ↓ite_le_f, ↓ite_lt_t, ↓ite_lt_f, li5, li8, nI_leI, nI_ltI, nI_eqI, if_pos, if_neg, ↓reduceIte, inb_nI, gd_t, nI_clamp, Option.bind_some, nI_1, isb_0, isb_1, lit13, lit14, lit40, nI_mul, nI_add, s_M_measureScales_J155, ← this, wr_s (F := tV 0 A m n)]
          · simp (disch := omega) only [↓ite_le_t, ↓ite_le_f, ↓ite_lt_t, ↓ite_lt_f, li5, li8, nI_leI, nI_ltI, nI_eqI, if_pos, if_neg, ↓reduceIte, inb_nI, gd_t, nI_clamp, Option.bind_some, nI_1, isb_0, isb_1, lit13, lit14, lit40, nI_mul, nI_add, ho, (hq ho).2, s_M_measureScales_J155, wr_s (F := tV on A m n)]
      · simp (disch := omega) only [↓ite_le_t, ↓ite_le_f, ↓ite_lt_t, ↓ite_lt_f, li5, li8, nI_leI, nI_ltI, nI_eqI, if_pos, if_neg, ↓reduceIte, inb_nI, gd_t, nI_clamp, Option.bind_some, nI_1, isb_0, isb_1, lit13, lit14, lit40, nI_mul, nI_add, s_M_measureScales_B79]
    · rintro v rfl
      exact Ok.mk ⟨fun i hi => wr_in hi, fun j hj => wr_in hj⟩
theorem e_rescale {m n : Nat} {A : (Nat → Nat → UInt64)} {b c : (Nat → UInt64)} {ma mb mc r0 v0 sa sb sc : (Nat → UInt64)} {on : Int32} (vl vw ve vt va vo v2 vnm vnn : Int32) (vnu : UInt64) (vb : Int32) (hA : ∀ i, i < m → ∀ j, j < n → ma (8 * i + j) = A i j) (hb : ∀ i, i < m → mb i = b i) (hc : ∀ j, j < n → mc j = c j) (hP : Prob m n A b c) :
    Ok (s_M_rescale (nI m) (nI n) vl vw ve vt va on vo v2 vnm vnn vnu vb ma mb mc r0 v0 sa sb sc) (fun q => (∀ i, i < m → q.1 i = tR on A n i) ∧ (∀ j, j < n → q.2.1 j = tV on A m n j) ∧ (∀ i, i < m → ∀ j, j < n → q.2.2.1 (8 * i + j) = sA on A m n i j) ∧ (∀ i, i < m → q.2.2.2.1 i = sB on A b n i) ∧ ∀ j, j < n → q.2.2.2.2 j = sC on A c m n j) := by
  obtain ⟨-, hm, -, hn, h, hb', hc'⟩ := hP
  unfold s_M_rescale s_M_rescale_L2
  refine Ok.bind (P := fun v => v = wr m (tR on A n) r0) ?_ ?_
  · refine loop_ok m (fun k => (wr k (tR on A n) r0, nI k)) _ (by rw [wr_0]; rfl) (by omega) (fun i hi => ?_) ?_
    · obtain ⟨e, -, -, -, -, -, hq⟩ := tR_p (on := on) (h i hi)
      simp (disch := omega) only [↓ite_le_t, ↓ite_le_f, ↓ite_lt_t, ↓ite_lt_f, li5, li8, nI_leI, nI_ltI, nI_eqI, if_pos, if_neg, ↓reduceIte, inb_nI, gd_t, nI_clamp, Option.bind_some, nI_1, isb_0, isb_1, lit13, lit14, lit40, nI_mul, nI_add, s_M_rescale_B2]
      unfold s_M_rescale_L15
      refine loop_b n (fun k => (mxR (A i) k FP.dconst0, nI k)) (mxR (A i) n FP.dconst0) rfl (by omega) (fun k hk => ?_) ?_ ?_
      · have e1 := e_mmax (nn_fd_max (n := k) (f := A i) nn_0 (fun j hj => (h i hi j (by omega)).1.nn)) (nn_abs (h i hi k hk).1.nn)
        simp (disch := omega) only [↓ite_le_t, ↓ite_le_f, ↓ite_lt_t, ↓ite_lt_f, li5, li8, nI_leI, nI_ltI, nI_eqI, if_pos, if_neg, ↓reduceIte, inb_nI, gd_t, nI_clamp, Option.bind_some, nI_1, isb_0, isb_1, lit13, lit14, lit40, nI_mul, nI_add, s_M_rescale_B15, hA i hi k hk, e_mabs (h i hi k hk).1.nn, e1, ← mxR_s]
      · simp (disch := omega) only [↓ite_le_t, ↓ite_le_f, ↓ite_lt_t, ↓ite_lt_f, li5, li8, nI_leI, nI_ltI, nI_eqI, if_pos, if_neg, ↓reduceIte, inb_nI, gd_t, nI_clamp, Option.bind_some, nI_1, isb_0, isb_1, lit13, lit14, lit40, nI_mul, nI_add, s_M_rescale_B15]
      · by_cases ho : on = 0
        · have : tR on A n i = FP.dconst1 := by unfold tR; rw [if_pos ho]
          simp (disch := omega) only [↓ite_le_t, ↓ite_le_f, ↓ite_lt_t, ↓ite_lt_f, li5, li8, nI_leI, nI_ltI, nI_eqI, if_pos, if_neg, ↓reduceIte, inb_nI, gd_t, nI_clamp, Option.bind_some, nI_1, isb_0, isb_1, lit13, lit14, lit40, nI_mul, nI_add, ho, s_M_rescale_J70, ← this, wr_s (F := tR on A n)]
          subst ho
          simp (disch := omega) only [↓ite_le_t, ↓ite_le_f, ↓ite_lt_t, ↓ite_lt_f, li5, li8, nI_leI, nI_ltI, nI_eqI, if_pos, if_neg, ↓reduceIte, inb_nI, gd_t, nI_clamp, Option.bind_some, nI_1, isb_0, isb_1, lit13, lit14, lit40, nI_mul, nI_add, wr_s (F := tR 0 A n)]
        · simp (disch := omega) only [↓ite_le_t, ↓ite_le_f, ↓ite_lt_t, ↓ite_lt_f, li5, li8, nI_leI, nI_ltI, nI_eqI, if_pos, if_neg, ↓reduceIte, inb_nI, gd_t, nI_clamp, Option.bind_some, nI_1, isb_0, isb_1, lit13, lit14, lit40, nI_mul, nI_add, ho, (hq ho).2, s_M_rescale_J70, wr_s (F := tR on A n)]
    · simp (disch := omega) only [↓ite_le_t, ↓ite_le_f, ↓ite_lt_t, ↓ite_lt_f, li5, li8, nI_leI, nI_ltI, nI_eqI, if_pos, if_neg, ↓reduceIte, inb_nI, gd_t, nI_clamp, Option.bind_some, nI_1, isb_0, isb_1, lit13, lit14, lit40, nI_mul, nI_add, s_M_rescale_B2]
  · rintro r rfl
    unfold s_M_rescale_L79
    refine Ok.bind (P := fun v => v = wr n (tV on A m n) v0) ?_ ?_
    · refine loop_ok n (fun k => (wr k (tV on A m n) v0, nI k)) _ (by rw [wr_0]; rfl) (by omega) (fun j hj => ?_) ?_
      · obtain ⟨e, -, -, -, -, -, hq⟩ := tV_p (on := on) h hj
        simp (disch := omega) only [↓ite_le_t, ↓ite_le_f, ↓ite_lt_t, ↓ite_lt_f, li5, li8, nI_leI, nI_ltI, nI_eqI, if_pos, if_neg, ↓reduceIte, inb_nI, gd_t, nI_clamp, Option.bind_some, nI_1, isb_0, isb_1, lit13, lit14, lit40, nI_mul, nI_add, s_M_rescale_B79]
        unfold s_M_rescale_L92
        refine loop_b m (fun i => (mxR (fun i => FP.dmul (tR on A n i) (A i j)) i FP.dconst0, nI i)) (mxR (fun i => FP.dmul (tR on A n i) (A i j)) m FP.dconst0) rfl (by omega) (fun i hi => ?_) ?_ ?_
        · have b1 := rA_ok (on := on) (h i hi) hj
          have e2 := e_mmax (nn_fd_max (n := i) (f := fun i => FP.dmul (tR on A n i) (A i j)) nn_0 (fun i' hi' => (rA_ok (on := on) (h i' (by omega)) hj).1.nn)) (nn_abs b1.1.nn)
          simp (disch := omega) only [↓ite_le_t, ↓ite_le_f, ↓ite_lt_t, ↓ite_lt_f, li5, li8, nI_leI, nI_ltI, nI_eqI, if_pos, if_neg, ↓reduceIte, inb_nI, gd_t, nI_clamp, Option.bind_some, nI_1, isb_0, isb_1, lit13, lit14, lit40, nI_mul, nI_add, s_M_rescale_B92, wr_in, hA i hi j hj, b1.1.isn, e_mabs b1.1.nn, e2]
          rfl
        · simp (disch := omega) only [↓ite_le_t, ↓ite_le_f, ↓ite_lt_t, ↓ite_lt_f, li5, li8, nI_leI, nI_ltI, nI_eqI, if_pos, if_neg, ↓reduceIte, inb_nI, gd_t, nI_clamp, Option.bind_some, nI_1, isb_0, isb_1, lit13, lit14, lit40, nI_mul, nI_add, s_M_rescale_B92]
        · by_cases ho : on = 0
          · have : tV on A m n j = FP.dconst1 := by unfold tV; rw [if_pos ho]
            subst ho
            simp (disch := omega) only [↓ite_le_t, ↓ite_le_f, ↓ite_lt_t, ↓ite_lt_f, li5, li8, nI_leI, nI_ltI, nI_eqI, if_pos, if_neg, ↓reduceIte, inb_nI, gd_t, nI_clamp, Option.bind_some, nI_1, isb_0, isb_1, lit13, lit14, lit40, nI_mul, nI_add, s_M_rescale_J155, ← this, wr_s (F := tV 0 A m n)]
          · simp (disch := omega) only [↓ite_le_t, ↓ite_le_f, ↓ite_lt_t, ↓ite_lt_f, li5, li8, nI_leI, nI_ltI, nI_eqI, if_pos, if_neg, ↓reduceIte, inb_nI, gd_t, nI_clamp, Option.bind_some, nI_1, isb_0, isb_1, lit13, lit14, lit40, nI_mul, nI_add, ho, (hq ho).2, s_M_rescale_J155, wr_s (F := tV on A m n)]
      · simp (disch := omega) only [↓ite_le_t, ↓ite_le_f, ↓ite_lt_t, ↓ite_lt_f, li5, li8, nI_leI, nI_ltI, nI_eqI, if_pos, if_neg, ↓reduceIte, inb_nI, gd_t, nI_clamp, Option.bind_some, nI_1, isb_0, isb_1, lit13, lit14, lit40, nI_mul, nI_add, s_M_rescale_B79]
    · rintro v rfl
      unfold s_M_rescale_L164
      refine Ok.bind (P := fun q => (∀ i, i < m → ∀ j, j < n → q.1 (8 * i + j) = sA on A m n i j) ∧ ∀ i, i < m → q.2 i = sB on A b n i) ?_ ?_
      · refine Ok.for (fun k st => st.2.2 = nI k ∧ (∀ i, i < k → ∀ j, j < n → st.1 (8 * i + j) = sA on A m n i j) ∧ ∀ i, i < k → st.2.1 i = sB on A b n i) m (by omega) ⟨rfl, fun i hi => absurd hi (Nat.not_lt_zero _), fun i hi => absurd hi (Nat.not_lt_zero _)⟩ ?_ ?_
        · rintro i ⟨s1, s2, x⟩ hi ⟨hx, g1, g2⟩
          have hx : x = nI i := hx
          subst hx
          have b2 := (sB_bc (on := on) (h i hi) (hb' i hi)).isn
          unfold sB at b2
          simp (disch := omega) only [↓ite_le_t, ↓ite_le_f, ↓ite_lt_t, ↓ite_lt_f, li5, li8, nI_leI, nI_ltI, nI_eqI, if_pos, if_neg, ↓reduceIte, inb_nI, gd_t, nI_clamp, Option.bind_some, nI_1, isb_0, isb_1, lit13, lit14, lit40, nI_mul, nI_add, s_M_rescale_B164, wr_in, hb i hi, b2]
          unfold s_M_rescale_L193
          refine Ok.bind (P := fun q => (∀ i', i' < i → ∀ j, j < n → q (8 * i' + j) = sA on A m n i' j) ∧ ∀ j, j < n → q (8 * i + j) = sA on A m n i j) ?_ ?_
          · refine Ok.for (fun k st => st.2 = nI k ∧ (∀ i', i' < i → ∀ j, j < n → st.1 (8 * i' + j) = sA on A m n i' j) ∧ ∀ j, j < k → st.1 (8 * i + j) = sA on A m n i j) n (by omega) ⟨rfl, g1, fun i hi => absurd hi (Nat.not_lt_zero _)⟩ ?_ ?_
            · rintro j ⟨s1, x⟩ hj ⟨hx, g1, g3⟩
              have hx : x = nI j := hx
              subst hx
              have b1 := (rA_ok (on := on) (h i hi) hj).1.isn
              have b3 := (sA_bc (on := on) h hi hj).isn
              unfold sA at b3
              simp (disch := omega) only [↓ite_le_t, ↓ite_le_f, ↓ite_lt_t, ↓ite_lt_f, li5, li8, nI_leI, nI_ltI, nI_eqI, if_pos, if_neg, ↓reduceIte, inb_nI, gd_t, nI_clamp, Option.bind_some, nI_1, isb_0, isb_1, lit13, lit14, lit40, nI_mul, nI_add, s_M_rescale_B193, wr_in, hA i hi j hj, b1, b3]
              refine Ok.mk ⟨rfl, fun i' hi' j' hj' => ?_, fun j' hj' => ?_⟩
              · exact (upd_ne (by omega)).trans (g1 i' hi' j' hj')
              · by_cases e : j' = j
                · subst e
                  exact upd_at _ _ _
                · exact (upd_ne (by omega)).trans (g3 j' (by omega))
            · rintro ⟨s1, x⟩ ⟨hx, g1, g3⟩
              have hx : x = nI n := hx
              subst hx
              simp (disch := omega) only [↓ite_le_t, ↓ite_le_f, ↓ite_lt_t, ↓ite_lt_f, li5, li8, nI_leI, nI_ltI, nI_eqI, if_pos, if_neg, ↓reduceIte, inb_nI, gd_t, nI_clamp, Option.bind_some, nI_1, isb_0, isb_1, lit13, lit14, lit40, nI_mul, nI_add, s_M_rescale_B193]
              exact Ok.mk ⟨g1, g3⟩
          · rintro q ⟨g1, g3⟩
            refine Ok.mk ⟨nI_1 i, fun i' hi' j hj => ?_, fun i' hi' => ?_⟩
            · by_cases e : i' = i
              · subst e; exact g3 j hj
              · exact g1 i' (by omega) j hj
            · by_cases e : i' = i
              · subst e
                exact upd_at _ _ _
              · exact (upd_ne e).trans (g2 i' (by omega))
        · rintro ⟨s1, s2, x⟩ ⟨hx, g1, g2⟩
          have hx : x = nI m := hx
          subst hx
          simp (disch := omega) only [↓ite_le_t, ↓ite_le_f, ↓ite_lt_t, ↓ite_lt_f, li5, li8, nI_leI, nI_ltI, nI_eqI, if_pos, if_neg, ↓reduceIte, inb_nI, gd_t, nI_clamp, Option.bind_some, nI_1, isb_0, isb_1, lit13, lit14, lit40, nI_mul, nI_add, s_M_rescale_B164]
          exact Ok.mk ⟨g1, g2⟩
      · rintro ⟨q1, q2⟩ ⟨g1, g2⟩
        unfold s_M_rescale_L251
        refine Ok.bind (P := fun v => v = wr n (sC on A c m n) sc) ?_ ?_
        · refine loop_ok n (fun k => (wr k (sC on A c m n) sc, nI k)) _ (by rw [wr_0]; rfl) (by omega) (fun j hj => ?_) ?_
          · have b4 := (sC_bc (on := on) (m := m) h hj (hc' j hj)).isn
            have e5 : FP.dmul (c j) (tV on A m n j) = sC on A c m n j := rfl
            simp (disch := omega) only [↓ite_le_t, ↓ite_le_f, ↓ite_lt_t, ↓ite_lt_f, li5, li8, nI_leI, nI_ltI, nI_eqI, if_pos, if_neg, ↓reduceIte, inb_nI, gd_t, nI_clamp, Option.bind_some, nI_1, isb_0, isb_1, lit13, lit14, lit40, nI_mul, nI_add, s_M_rescale_B251, wr_in, hc j hj, b4, e5, wr_s (F := sC on A c m n)]
          · simp (disch := omega) only [↓ite_le_t, ↓ite_le_f, ↓ite_lt_t, ↓ite_lt_f, li5, li8, nI_leI, nI_ltI, nI_eqI, if_pos, if_neg, ↓reduceIte, inb_nI, gd_t, nI_clamp, Option.bind_some, nI_1, isb_0, isb_1, lit13, lit14, lit40, nI_mul, nI_add, s_M_rescale_B251]
        · rintro v rfl
          exact Ok.mk ⟨fun i hi => wr_in hi, fun j hj => wr_in hj, g1, g2, fun j hj => wr_in hj⟩
