/-! the reference's move, its way back, its run -/
theorem e_move {m n : Nat} {A : (Nat → Nat → UInt64)} {b c x s y : (Nat → UInt64)} {sa mx ms my d h big dt0 dx0 : (Nat → UInt64)} (vl vw ve vt va vs vo v2 vnm vnn : Int32) (vnu : UInt64) (vb : Int32) (hm : m ≤ 5) (hn : n ≤ 8) (hA : ∀ i, i < m → ∀ j, j < n → sa (8 * i + j) = A i j) (hx : ∀ j, j < n → mx j = x j) (hs : ∀ j, j < n → ms j = s j) (hy : ∀ i, i < m → my i = y i) (hd : ∀ j, j < n → d j = qD m n A b c x s y j) (hh : ∀ j, j < n → h j = tH x s j) (hY : ∀ i, i < m → big i = qY m n A b c x s y i) (ok0 : StOk m n A b c x s y) (ok : MvOk m n A b c x s y) :
    Ok (s_M_move (nI m) (nI n) vl vw ve vt va vs vo v2 vnm vnn vnu vb sa mx ms my d h big dt0 dx0 (qu m n A b c x s y)) (fun r => (∀ j, j < n → r.1 j = nx m n A b c x s y j) ∧ (∀ j, j < n → r.2.1 j = ns m n A b c x s y j) ∧ ∀ i, i < m → r.2.2.1 i = ny m n A b c x s y i) := by
  have lx := ok.lx
  have ls := ok.ls
  obtain ⟨-, o2, o3, o4, o5⟩ := ok
  obtain ⟨-, -, u3, -⟩ := ok0
  unfold s_M_move s_M_move_L8
  refine Ok.bind (P := fun v => v = (wr n (qS m n A b c x s y) dt0, wr n (qX m n A b c x s y) dx0, qe m n A b c x s y, qa m n A b c x s y)) ?_ ?_
  · refine loop_ok n (fun k => (wr k (qS m n A b c x s y) dt0, wr k (qX m n A b c x s y) dx0, lgR s (qS m n A b c x s y) k, lgR x (qX m n A b c x s y) k, nI k)) _ (by rw [wr_0, wr_0]; rfl) (by omega) (fun j hj => ?_) ?_
    · obtain ⟨a1, a2, a3, a4, a5⟩ := o2 j hj
      obtain ⟨b1, b2⟩ := o3 j hj
      have b0 := (u3 j hj).2.1
      simp (disch := omega) only [↓ite_le_t, ↓ite_le_f, ↓ite_lt_t, ↓ite_lt_f, li5, li8, nI_leI, nI_ltI, nI_eqI, if_pos, if_neg, ↓reduceIte, inb_nI, gd_t, nI_clamp, Option.bind_some, nI_1, isb_0, isb_1, lit13, lit14, lit40, nI_mul, nI_add, s_M_move_B8]
      unfold s_M_move_L34
      refine loop_b m (fun k => (vf_upd (wr j (qS m n A b c x s y) dt0) j (subR (fun i => FP.dmul (A i j) (qY m n A b c x s y i)) k (qD m n A b c x s y j)), nI k)) (vf_upd (wr j (qS m n A b c x s y) dt0) j (subR (fun i => FP.dmul (A i j) (qY m n A b c x s y i)) m (qD m n A b c x s y j))) (by rw [hd j hj]; rfl) (by omega) (fun i hi => ?_) ?_ ?_
      · have c1 := a1.1 i hi
        have c2 := a1.2 i hi
        simp (disch := omega) only [↓ite_le_t, ↓ite_le_f, ↓ite_lt_t, ↓ite_lt_f, li5, li8, nI_leI, nI_ltI, nI_eqI, if_pos, if_neg, ↓reduceIte, inb_nI, gd_t, nI_clamp, Option.bind_some, nI_1, isb_0, isb_1, lit13, lit14, lit40, nI_mul, nI_add, s_M_move_B34, hA i hi j hj, hY i hi, c1, upd_at, upd_upd, ← subR_s (fun i => FP.dmul (A i j) (qY m n A b c x s y i)), c2]
      · simp (disch := omega) only [↓ite_le_t, ↓ite_le_f, ↓ite_lt_t, ↓ite_lt_f, s_M_move_B34]
      · have e1 : subR (fun i => FP.dmul (A i j) (qY m n A b c x s y i)) m (qD m n A b c x s y j) = qS m n A b c x s y j := rfl
        have e2 : FP.dsub (FP.dsub (FP.ddiv (qu m n A b c x s y) (s j)) (x j)) (FP.dmul (tH x s j) (qS m n A b c x s y j)) = qX m n A b c x s y j := rfl
        have nX : nnan (qX m n A b c x s y j) := nn_i a4
        have na := nn_lgR lx j (by omega)
        have ne := nn_lgR ls j (by omega)
        rw [e1]
        simp (disch := omega) only [↓ite_le_t, ↓ite_le_f, ↓ite_lt_t, ↓ite_lt_f, li5, li8, nI_leI, nI_ltI, nI_eqI, if_pos, if_neg, ↓reduceIte, inb_nI, gd_t, nI_clamp, Option.bind_some, nI_1, isb_0, isb_1, lit13, lit14, lit40, nI_mul, nI_add, upd_at, hx j hj, hs j hj, hh j hj, b0, a2, a3, e2, a4, s_M_move_J171, s_M_move_J215, cv_ge nX nn_0, cv_ge a5 nn_0, zv_0, wr_s (F := qS m n A b c x s y), wr_s (F := qX m n A b c x s y)]
        rw [lgR_s, lgR_s]
        unfold lgB
        by_cases c1 : zv (qX m n A b c x s y j) < 0
        · obtain ⟨d1, d2⟩ := b1 c1
          rw [if_neg (Int.not_le.mpr c1), if_pos c1]
          simp only [d1, d2, gd_t, cv_ge (nn_i d2) na]
          by_cases c2 : zv (FP.dmul 4607137382803743703 (FP.ddiv (x j) (FP.dneg (qX m n A b c x s y j)))) < zv (lgR x (qX m n A b c x s y) j)
          · rw [if_neg (Int.not_le.mpr c2), if_pos c2]
            by_cases c3 : zv (qS m n A b c x s y j) < 0
            · obtain ⟨d3, d4⟩ := b2 c3
              rw [if_neg (Int.not_le.mpr c3), if_pos c3]
              simp only [d3, d4, gd_t, cv_ge (nn_i d4) ne]
              by_cases c4 : zv (FP.dmul 4607137382803743703 (FP.ddiv (s j) (FP.dneg (qS m n A b c x s y j)))) < zv (lgR s (qS m n A b c x s y) j)
              · rw [if_neg (Int.not_le.mpr c4), if_pos c4]
              · rw [if_pos (Int.not_lt.mp c4), if_neg c4]
            · rw [if_pos (Int.not_lt.mp c3), if_neg c3]
          · rw [if_pos (Int.not_lt.mp c2), if_neg c2]
            by_cases c3 : zv (qS m n A b c x s y j) < 0
            · obtain ⟨d3, d4⟩ := b2 c3
              rw [if_neg (Int.not_le.mpr c3), if_pos c3]
              simp only [d3, d4, gd_t, cv_ge (nn_i d4) ne]
              by_cases c4 : zv (FP.dmul 4607137382803743703 (FP.ddiv (s j) (FP.dneg (qS m n A b c x s y j)))) < zv (lgR s (qS m n A b c x s y) j)
              · rw [if_neg (Int.not_le.mpr c4), if_pos c4]
              · rw [if_pos (Int.not_lt.mp c4), if_neg c4]
            · rw [if_pos (Int.not_lt.mp c3), if_neg c3]
        · rw [if_pos (Int.not_lt.mp c1), if_neg c1]
          by_cases c3 : zv (qS m n A b c x s y j) < 0
          · obtain ⟨d3, d4⟩ := b2 c3
            rw [if_neg (Int.not_le.mpr c3), if_pos c3]
            simp only [d3, d4, gd_t, cv_ge (nn_i d4) ne]
            by_cases c4 : zv (FP.dmul 4607137382803743703 (FP.ddiv (s j) (FP.dneg (qS m n A b c x s y j)))) < zv (lgR s (qS m n A b c x s y) j)
            · rw [if_neg (Int.not_le.mpr c4), if_pos c4]
            · rw [if_pos (Int.not_lt.mp c4), if_neg c4]
          · rw [if_pos (Int.not_lt.mp c3), if_neg c3]
    · simp (disch := omega) only [↓ite_le_t, ↓ite_le_f, ↓ite_lt_t, ↓ite_lt_f, s_M_move_B8]
      rfl
  · rintro v rfl
    dsimp only
    unfold s_M_move_L224
    refine Ok.bind (P := fun v => (∀ j, j < n → v.1 j = nx m n A b c x s y j) ∧ ∀ j, j < n → v.2 j = ns m n A b c x s y j) ?_ ?_
    · refine Ok.for (fun t st => st.2.2 = nI t ∧ (∀ j, j < t → st.1 j = nx m n A b c x s y j ∧ st.2.1 j = ns m n A b c x s y j) ∧ ∀ j, t ≤ j → j < n → st.1 j = x j ∧ st.2.1 j = s j) n (by omega) ⟨rfl, fun i hi => absurd hi (Nat.not_lt_zero _), fun j _ hj => ⟨hx j hj, hs j hj⟩⟩ ?_ ?_
      · rintro j ⟨x1, s1, w⟩ hj ⟨hw, g1, g2⟩
        have hw : w = nI j := hw
        subst hw
        obtain ⟨a1, a2, a3, a4⟩ := o4 j hj
        have e0 := g2 j (Nat.le_refl _) hj
        have e0a : x1 j = x j := e0.1
        have e0b : s1 j = s j := e0.2
        have e1 : FP.dadd (x j) (FP.dmul (qa m n A b c x s y) (qX m n A b c x s y j)) = mv x (qX m n A b c x s y) (qa m n A b c x s y) j := rfl
        have e2 : FP.dadd (s j) (FP.dmul (qe m n A b c x s y) (qS m n A b c x s y j)) = mv s (qS m n A b c x s y) (qe m n A b c x s y) j := rfl
        simp (disch := omega) only [↓ite_le_t, ↓ite_le_f, ↓ite_lt_t, ↓ite_lt_f, li5, li8, nI_leI, nI_ltI, nI_eqI, if_pos, if_neg, ↓reduceIte, inb_nI, gd_t, nI_clamp, Option.bind_some, nI_1, isb_0, isb_1, lit13, lit14, lit40, nI_mul, nI_add, s_M_move_B224, wr_in, e0a, e0b, a1, a3, e1, e2, a2, a4]
        refine Ok.mk ⟨rfl, fun j' hj' => ?_, fun j' h1 h2 => ⟨(upd_ne (by omega)).trans (g2 j' (by omega) h2).1, (upd_ne (by omega)).trans (g2 j' (by omega) h2).2⟩⟩
        by_cases e : j' = j
        · subst e
          exact ⟨(upd_at _ _ _).trans (wr_in hj).symm, (upd_at _ _ _).trans (wr_in hj).symm⟩
        · exact ⟨(upd_ne e).trans (g1 j' (by omega)).1, (upd_ne e).trans (g1 j' (by omega)).2⟩
      · rintro ⟨x1, s1, w⟩ ⟨hw, g1, -⟩
        have hw : w = nI n := hw
        subst hw
        simp (disch := omega) only [↓ite_le_t, ↓ite_le_f, ↓ite_lt_t, ↓ite_lt_f, s_M_move_B224]
        exact Ok.mk ⟨fun j hj => (g1 j hj).1, fun j hj => (g1 j hj).2⟩
    · rintro ⟨x1, s1⟩ ⟨gx, gs⟩
      unfold s_M_move_L291
      refine Ok.bind (P := fun v => ∀ i, i < m → v i = ny m n A b c x s y i) ?_ (fun v hv => Ok.mk ⟨gx, gs, hv⟩)
      refine Ok.for (fun t st => st.2 = nI t ∧ (∀ i, i < t → st.1 i = ny m n A b c x s y i) ∧ ∀ i, t ≤ i → i < m → st.1 i = y i) m (by omega) ⟨rfl, fun i hi => absurd hi (Nat.not_lt_zero _), fun i _ hi => hy i hi⟩ ?_ ?_
      · rintro i ⟨y1, w⟩ hi ⟨hw, g1, g2⟩
        have hw : w = nI i := hw
        subst hw
        obtain ⟨a1, a2⟩ := o5 i hi
        have e0 : y1 i = y i := g2 i (Nat.le_refl _) hi
        have e1 : FP.dadd (y i) (FP.dmul (qe m n A b c x s y) (qY m n A b c x s y i)) = mv y (qY m n A b c x s y) (qe m n A b c x s y) i := rfl
        simp (disch := omega) only [↓ite_le_t, ↓ite_le_f, ↓ite_lt_t, ↓ite_lt_f, li5, li8, nI_leI, nI_ltI, nI_eqI, if_pos, if_neg, ↓reduceIte, inb_nI, gd_t, nI_clamp, Option.bind_some, nI_1, isb_0, isb_1, lit13, lit14, lit40, nI_mul, nI_add, s_M_move_B291, hY i hi, e0, a1, e1, a2]
        refine Ok.mk ⟨rfl, fun i' hi' => ?_, fun i' h1 h2 => (upd_ne (by omega)).trans (g2 i' (by omega) h2)⟩
        by_cases e : i' = i
        · subst e
          exact (upd_at _ _ _).trans (wr_in hi).symm
        · exact (upd_ne e).trans (g1 i' (by omega))
      · rintro ⟨y1, w⟩ ⟨hw, g1, -⟩
        have hw : w = nI m := hw
        subst hw
        simp (disch := omega) only [↓ite_le_t, ↓ite_le_f, ↓ite_lt_t, ↓ite_lt_f, s_M_move_B291]
        exact Ok.mk g1
theorem e_back {m n : Nat} {r v x s y rs cs mx ms my : (Nat → UInt64)} (vl vw ve vt va vs vo v2 vnm vnn : Int32) (vnu : UInt64) (vb : Int32) (hm : m ≤ 5) (hn : n ≤ 8) (hr : ∀ i, i < m → rs i = r i) (hv : ∀ j, j < n → cs j = v j) (hx : ∀ j, j < n → mx j = x j) (hs : ∀ j, j < n → ms j = s j) (hy : ∀ i, i < m → my i = y i) (h1 : ∀ j, j < n → isn (FP.dmul (v j) (x j)) = true) (h2 : ∀ j, j < n → isn (FP.ddiv (s j) (v j)) = true) (h3 : ∀ i, i < m → isn (FP.dmul (r i) (y i)) = true) :
    Ok (s_M_back (nI m) (nI n) vl vw ve vt va vs vo v2 vnm vnn vnu vb rs cs mx ms my) (fun q => q.1 = 1 ∧ (∀ j, j < n → q.2.1 j = FP.dmul (v j) (x j)) ∧ (∀ j, j < n → q.2.2.1 j = FP.ddiv (s j) (v j)) ∧ ∀ i, i < m → q.2.2.2 i = FP.dmul (r i) (y i)) := by
  unfold s_M_back s_M_back_L2
  refine Ok.bind (P := fun q => (∀ j, j < n → q.1 j = FP.dmul (v j) (x j)) ∧ ∀ j, j < n → q.2 j = FP.ddiv (s j) (v j)) ?_ ?_
  · refine Ok.for (fun t st => st.2.2 = nI t ∧ (∀ j, j < t → st.1 j = FP.dmul (v j) (x j) ∧ st.2.1 j = FP.ddiv (s j) (v j)) ∧ ∀ j, t ≤ j → j < n → st.1 j = x j ∧ st.2.1 j = s j) n (by omega) ⟨rfl, fun i hi => absurd hi (Nat.not_lt_zero _), fun j _ hj => ⟨hx j hj, hs j hj⟩⟩ ?_ ?_
    · rintro j ⟨x1, s1, w⟩ hj ⟨hw, g1, g2⟩
      have hw : w = nI j := hw
      subst hw
      have e0a : x1 j = x j := (g2 j (Nat.le_refl _) hj).1
      have e0b : s1 j = s j := (g2 j (Nat.le_refl _) hj).2
      simp (disch := omega) only [↓ite_le_t, ↓ite_le_f, ↓ite_lt_t, ↓ite_lt_f, li5, li8, nI_leI, nI_ltI, nI_eqI, if_pos, if_neg, ↓reduceIte, inb_nI, gd_t, nI_clamp, Option.bind_some, nI_1, isb_0, isb_1, lit13, lit14, lit40, nI_mul, nI_add, s_M_back_B2, e0a, e0b, hv j hj, h1 j hj, h2 j hj]
      refine Ok.mk ⟨rfl, fun j' hj' => ?_, fun j' h1 h2 => ⟨(upd_ne (by omega)).trans (g2 j' (by omega) h2).1, (upd_ne (by omega)).trans (g2 j' (by omega) h2).2⟩⟩
      by_cases e : j' = j
      · subst e
        exact ⟨upd_at _ _ _, upd_at _ _ _⟩
      · exact ⟨(upd_ne e).trans (g1 j' (by omega)).1, (upd_ne e).trans (g1 j' (by omega)).2⟩
    · rintro ⟨x1, s1, w⟩ ⟨hw, g1, -⟩
      have hw : w = nI n := hw
      subst hw
      simp (disch := omega) only [↓ite_le_t, ↓ite_le_f, ↓ite_lt_t, ↓ite_lt_f, s_M_back_B2]
      exact Ok.mk ⟨fun j hj => (g1 j hj).1, fun j hj => (g1 j hj).2⟩
  · rintro ⟨x1, s1⟩ ⟨gx, gs⟩
    unfold s_M_back_L56
    refine Ok.bind (P := fun q => ∀ i, i < m → q i = FP.dmul (r i) (y i)) ?_ (fun q hq => Ok.mk ⟨rfl, gx, gs, hq⟩)
    refine Ok.for (fun t st => st.2 = nI t ∧ (∀ i, i < t → st.1 i = FP.dmul (r i) (y i)) ∧ ∀ i, t ≤ i → i < m → st.1 i = y i) m (by omega) ⟨rfl, fun i hi => absurd hi (Nat.not_lt_zero _), fun i _ hi => hy i hi⟩ ?_ ?_
    · rintro i ⟨y1, w⟩ hi ⟨hw, g1, g2⟩
      have hw : w = nI i := hw
      subst hw
      have e0 : y1 i = y i := g2 i (Nat.le_refl _) hi
      simp (disch := omega) only [↓ite_le_t, ↓ite_le_f, ↓ite_lt_t, ↓ite_lt_f, li5, li8, nI_leI, nI_ltI, nI_eqI, if_pos, if_neg, ↓reduceIte, inb_nI, gd_t, nI_clamp, Option.bind_some, nI_1, isb_0, isb_1, lit13, lit14, lit40, nI_mul, nI_add, s_M_back_B56, e0, hr i hi, h3 i hi]
      refine Ok.mk ⟨rfl, fun i' hi' => ?_, fun i' h1 h2 => (upd_ne (by omega)).trans (g2 i' (by omega) h2)⟩
      by_cases e : i' = i
      · subst e
        exact upd_at _ _ _
      · exact (upd_ne e).trans (g1 i' (by omega))
    · rintro ⟨y1, w⟩ ⟨hw, g1, -⟩
      have hw : w = nI m := hw
      subst hw
      simp (disch := omega) only [↓ite_le_t, ↓ite_le_f, ↓ite_lt_t, ↓ite_lt_f, s_M_back_B56]
      exact Ok.mk g1
