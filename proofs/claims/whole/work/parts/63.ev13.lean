/-! the reference's interior method -/
theorem e_in (x lo hi : Int32) : s_M_in x lo hi = some (if x < lo ∨ hi < x then 0 else 1) := by
  unfold s_M_in s_M_in_J14
  by_cases h1 : x < lo
  · rw [if_pos h1, if_pos (Or.inl h1)]
    rfl
  · rw [if_neg h1]
    by_cases h2 : hi < x
    · rw [if_pos h2, if_pos (Or.inr h2)]
      rfl
    · rw [if_neg h2, if_neg (by rintro (q | q) <;> contradiction)]
      rfl
def BackOk (m n : Nat) (r v : (Nat → UInt64)) (I : (Nat → UInt64) → (Nat → UInt64) → (Nat → UInt64) → Prop) : Prop := ∀ x s y, I x s y → (∀ j, j < n → isn (FP.dmul (v j) (x j)) = true ∧ isn (FP.ddiv (s j) (v j)) = true) ∧ ∀ i, i < m → isn (FP.dmul (r i) (y i)) = true
theorem i32_40 : ¬ (4 : Int32) = 5 ∧ ¬ (0 : Int32) = 5 ∧ ¬ (3 : Int32) = 5 ∧ ¬ (3 : Int32) = 4 ∧ ¬ (0 : Int32) = 4 := by decide
theorem e_minterior {m n : Nat} {A : (Nat → Nat → UInt64)} {b c x s y : (Nat → UInt64)} {I : (Nat → UInt64) → (Nat → UInt64) → (Nat → UInt64) → Prop} {T : Nat} {ma mb mc rs cs sa sb sc mx ms my p d h f mm lo di r big dt dx : (Nat → UInt64)} (vl vw ve vt va on vo v2 vnm vnn : Int32) (vnu : UInt64) (vb : Int32) (hP : Prob m n A b c) (hA : ∀ i, i < m → ∀ j, j < n → ma (8 * i + j) = A i j) (hb : ∀ i, i < m → mb i = b i) (hc : ∀ j, j < n → mc j = c j) (hT1 : 1 ≤ T) (hT : T ≤ 100) {A2 : (Nat → Nat → UInt64)} {b2 c2 : (Nat → UInt64)} (h2a : ∀ i, i < m → ∀ j, j < n → A2 i j = sA on A m n i j) (h2b : ∀ i, i < m → b2 i = sB on A b n i) (h2c : ∀ j, j < n → c2 j = sC on A c m n j)
    (hI : InvI m n A2 b2 c2 I) (hB : BackOk m n (tR on A n) (tV on A m n) I) (h0 : I x s y) (hx0 : ∀ j, j < n → x j = FP.dconst1) (hs0 : ∀ j, j < n → s j = FP.dconst1) (hy0 : ∀ i, i < m → y i = FP.dconst0) :
    Ok (s_M_interior (nI m) (nI n) vl vw ve vt va on vo v2 vnm vnn vnu vb ma mb mc rs cs sa sb sc mx ms my p d h f mm lo di r big dt dx (nI T)) (fun q => ∃ k how, RunTo m n A2 b2 c2 x s y T k how ∧ q.2.1 = nI (if how = 4 then k else k + 1) ∧
      ((¬ how = 5 ∧ q.1 = how ∧ q.2.2.1 = 0 ∧ q.2.2.2.1 = 1 ∧ (∀ j, j < n → q.2.2.2.2.2.2.2.2.2.1 j = FP.dmul (tV on A m n j) (ix m n A2 b2 c2 x s y k j)) ∧ (∀ j, j < n → q.2.2.2.2.2.2.2.2.2.2.1 j = FP.ddiv (is m n A2 b2 c2 x s y k j) (tV on A m n j)) ∧ ∀ i, i < m → q.2.2.2.2.2.2.2.2.2.2.2.1 i = FP.dmul (tR on A n i) (iy m n A2 b2 c2 x s y k i)) ∨ (how = 5 ∧ q.1 = 0 ∧ q.2.2.1 = 2 ∧ q.2.2.2.1 = 0))) := by
  have hP' := hP
  obtain ⟨-, hm, -, hn, -⟩ := hP'
  unfold s_M_interior
  rw [e_in, if_neg (by
    rintro (q | q)
    · exact absurd q (nI_nlt (a := T) (b := 1) hT1 (by omega))
    · exact absurd q (nI_nlt (a := 100) (b := T) hT (by omega)))]
  simp only [Option.bind_some, i32_10, ↓reduceIte]
  unfold s_M_interior_J16
  rw [if_pos (by decide)]
  refine Ok.bind (e_rescale _ _ _ _ _ _ _ _ _ _ _ hA hb hc hP) ?_
  rintro ⟨rs', cs', sa', sb', sc'⟩ ⟨w1, w2, w3, w4, w5⟩
  dsimp only at w1 w2 w3 w4 w5 ⊢
  replace w3 : ∀ i, i < m → ∀ j, j < n → sa' (8 * i + j) = A2 i j := fun i hi j hj => (w3 i hi j hj).trans (h2a i hi j hj).symm
  replace w4 : ∀ i, i < m → sb' i = b2 i := fun i hi => (w4 i hi).trans (h2b i hi).symm
  replace w5 : ∀ j, j < n → sc' j = c2 j := fun j hj => (w5 j hj).trans (h2c j hj).symm
  unfold s_M_interior_L39
  refine Ok.bind (P := fun v => (∀ j, j < n → v.1 j = x j) ∧ ∀ j, j < n → v.2 j = s j) ?_ ?_
  · refine Ok.for (fun t st => st.2.2 = nI t ∧ ∀ j, j < t → st.1 j = x j ∧ st.2.1 j = s j) n (by omega) ⟨rfl, fun i hi => absurd hi (Nat.not_lt_zero _)⟩ ?_ ?_
    · rintro j ⟨x1, s1, w⟩ hj ⟨hw, g1⟩
      have hw : w = nI j := hw
      subst hw
      simp (disch := omega) only [↓ite_le_t, ↓ite_le_f, ↓ite_lt_t, ↓ite_lt_f, li5, li8, nI_leI, nI_ltI, nI_eqI, if_pos, if_neg, ↓reduceIte, inb_nI, gd_t, nI_clamp, Option.bind_some, nI_1, isb_0, isb_1, lit13, lit14, lit40, nI_mul, nI_add, s_M_interior_B39]
      refine Ok.mk ⟨rfl, fun j' hj' => ?_⟩
      by_cases e : j' = j
      · subst e
        exact ⟨(upd_at _ _ _).trans (hx0 _ hj).symm, (upd_at _ _ _).trans (hs0 _ hj).symm⟩
      · exact ⟨(upd_ne e).trans (g1 j' (by omega)).1, (upd_ne e).trans (g1 j' (by omega)).2⟩
    · rintro ⟨x1, s1, w⟩ ⟨hw, g1⟩
      have hw : w = nI n := hw
      subst hw
      simp (disch := omega) only [↓ite_le_t, ↓ite_le_f, ↓ite_lt_t, ↓ite_lt_f, s_M_interior_B39]
      exact Ok.mk ⟨fun j hj => (g1 j hj).1, fun j hj => (g1 j hj).2⟩
  · rintro ⟨mx1, ms1⟩ ⟨hx, hs⟩
    unfold s_M_interior_L69
    refine Ok.bind (P := fun v => ∀ i, i < m → v i = y i) ?_ ?_
    · refine Ok.for (fun t st => st.2 = nI t ∧ ∀ i, i < t → st.1 i = y i) m (by omega) ⟨rfl, fun i hi => absurd hi (Nat.not_lt_zero _)⟩ ?_ ?_
      · rintro i ⟨y1, w⟩ hi ⟨hw, g1⟩
        have hw : w = nI i := hw
        subst hw
        simp (disch := omega) only [↓ite_le_t, ↓ite_le_f, ↓ite_lt_t, ↓ite_lt_f, li5, li8, nI_leI, nI_ltI, nI_eqI, if_pos, if_neg, ↓reduceIte, inb_nI, gd_t, nI_clamp, Option.bind_some, nI_1, isb_0, isb_1, lit13, lit14, lit40, nI_mul, nI_add, s_M_interior_B69]
        refine Ok.mk ⟨rfl, fun i' hi' => ?_⟩
        by_cases e : i' = i
        · subst e
          exact (upd_at _ _ _).trans (hy0 _ hi).symm
        · exact (upd_ne e).trans (g1 i' (by omega))
      · rintro ⟨y1, w⟩ ⟨hw, g1⟩
        have hw : w = nI m := hw
        subst hw
        simp (disch := omega) only [↓ite_le_t, ↓ite_le_f, ↓ite_lt_t, ↓ite_lt_f, s_M_interior_B69]
        exact Ok.mk g1
    · intro my1 hy
      unfold s_M_interior_L92
      refine Ok.bind (P := fun v => Sum.elim (fun w => ∃ k how, RunTo m n A2 b2 c2 x s y T k how ∧ ¬ how = 5 ∧ w.1 = nI (if how = 4 then k else k + 1) ∧ w.2.2.2.2.2.2.2.2.2.2.2.2.2.2.2 = how ∧ (∀ j, j < n → w.2.1 j = ix m n A2 b2 c2 x s y k j) ∧ (∀ j, j < n → w.2.2.1 j = is m n A2 b2 c2 x s y k j) ∧ ∀ i, i < m → w.2.2.2.1 i = iy m n A2 b2 c2 x s y k i) (fun q => ∃ k, RunTo m n A2 b2 c2 x s y T k 5 ∧ q.2.1 = nI (k + 1) ∧ q.1 = 0 ∧ q.2.2.1 = 2 ∧ q.2.2.2.1 = 0) v) ?_ ?_
      · refine Ok.loop (fun t st => (t ≤ T ∧ st.2.2.2.2.2.2.2.2.2.2.2.2.2.2.2 = 4 ∧ st.1 = nI t ∧ (∀ k', k' < t → aMv m n A2 b2 c2 x s y k') ∧ (∀ j, j < n → st.2.1 j = ix m n A2 b2 c2 x s y t j) ∧ (∀ j, j < n → st.2.2.1 j = is m n A2 b2 c2 x s y t j) ∧ ∀ i, i < m → st.2.2.2.1 i = iy m n A2 b2 c2 x s y t i) ∨ (∃ k how, t = k + 1 ∧ RunTo m n A2 b2 c2 x s y T k how ∧ ¬ how = 5 ∧ ¬ how = 4 ∧ st.1 = nI (k + 1) ∧ st.2.2.2.2.2.2.2.2.2.2.2.2.2.2.2 = how ∧ (∀ j, j < n → st.2.1 j = ix m n A2 b2 c2 x s y k j) ∧ (∀ j, j < n → st.2.2.1 j = is m n A2 b2 c2 x s y k j) ∧ ∀ i, i < m → st.2.2.2.1 i = iy m n A2 b2 c2 x s y k i)) (T + 1) ?_ (T + 1) 0 2000 _ (by omega) (by omega) (Or.inl ⟨by omega, rfl, rfl, fun i hi => absurd hi (Nat.not_lt_zero _), hx, hs, hy⟩)
        rintro t ⟨q1, q2, q3, q4, q5, q6, q7, q8, q9, q10, q11, q12, q13, q14, q15, q16⟩ ht hst
        rcases hst with ⟨htT, z1, z2, z3, zx, zs, zy⟩ | ⟨k, how, z0, z1, z2, z3, z4, z5, zx, zs, zy⟩
        · have z1 : q16 = 4 := z1
          have z2 : q1 = nI t := z2
          subst z1 z2
          by_cases hend : t = T
          · subst hend
            simp (disch := omega) only [↓ite_le_t, ↓ite_le_f, ↓ite_lt_t, ↓ite_lt_f, li5, li8, nI_leI, nI_ltI, nI_eqI, if_pos, if_neg, ↓reduceIte, inb_nI, gd_t, nI_clamp, Option.bind_some, nI_1, isb_0, isb_1, lit13, lit14, lit40, nI_mul, nI_add, s_M_interior_B92]
            exact Ok.mk ⟨t, 4, ⟨z3, Or.inl ⟨rfl, rfl⟩⟩, i32_40.1, rfl, rfl, zx, zs, zy⟩
          · have hlt : t < T := by omega
            have inv := it_inv hI h0 t z3
            obtain ⟨i1, i2, i3⟩ := hI _ _ _ inv
            have em := e_mmeasure (p0 := q5) (d0 := q6) vl vw (nI (t + 1)) 0 va on vo v2 vnm vnn vnu vb hm hn w3 w4 w5 zx zs zy i1
            obtain ⟨r1, h3, h4⟩ := e_misSolved vl vw (nI (t + 1)) 0 va on vo v2 vnm vnn vnu vb hm hn w4 w5 zx (p := wr m (qP m n A2 b2 c2 (ix m n A2 b2 c2 x s y t) (is m n A2 b2 c2 x s y t) (iy m n A2 b2 c2 x s y t)) q5) (d := wr n (qD m n A2 b2 c2 (ix m n A2 b2 c2 x s y t) (is m n A2 b2 c2 x s y t) (iy m n A2 b2 c2 x s y t)) q6) (fun i hi => wr_in hi) (fun j hj => wr_in hj) i2
            obtain ⟨r2, h5, h6⟩ := e_misLost vl vw (nI (t + 1)) 0 va on vo v2 vnm vnn vnu vb hm hn zx zs zy i2
            dsimp only at em h3 h5
            simp (disch := omega) only [↓ite_le_t, ↓ite_le_f, ↓ite_lt_t, ↓ite_lt_f, li5, li8, nI_leI, nI_ltI, nI_eqI, if_pos, if_neg, ↓reduceIte, inb_nI, gd_t, nI_clamp, Option.bind_some, nI_1, isb_0, isb_1, lit13, lit14, lit40, nI_mul, nI_add, s_M_interior_B92, em, h3, h5]
            rcases h4 with ⟨rfl, h4⟩ | ⟨rfl, h4⟩
            · simp only [i32_10, ↓reduceIte]
              exact Ok.mk ⟨by omega, Or.inr ⟨t, 0, rfl, ⟨z3, Or.inr ⟨hlt, Or.inl ⟨rfl, h4⟩⟩⟩, i32_40.2.1, i32_40.2.2.2.2, rfl, rfl, zx, zs, zy⟩⟩
            · simp only [↓reduceIte]
              rcases h6 with ⟨rfl, h6⟩ | ⟨rfl, h6⟩
              · simp only [i32_10, ↓reduceIte]
                exact Ok.mk ⟨by omega, Or.inr ⟨t, 3, rfl, ⟨z3, Or.inr ⟨hlt, Or.inr (Or.inl ⟨rfl, h4, h6⟩)⟩⟩, i32_40.2.2.1, i32_40.2.2.2.1, rfl, rfl, zx, zs, zy⟩⟩
              · simp only [↓reduceIte]
                obtain ⟨i4, i5⟩ := i3 h6
                have eu : FP.dmul 4591870180066957722 (FP.ddiv (qg m n A2 b2 c2 (ix m n A2 b2 c2 x s y t) (is m n A2 b2 c2 x s y t) (iy m n A2 b2 c2 x s y t)) (FP.i2d (nI n))) = qu m n A2 b2 c2 (ix m n A2 b2 c2 x s y t) (is m n A2 b2 c2 x s y t) (iy m n A2 b2 c2 x s y t) := rfl
                simp only [i4.1, eu, i4.2.1, gd_t]
                refine Ok.bind (e_prepare vl vw (nI (t + 1)) 0 va on vo v2 vnm vnn vnu vb hm hn w3 zx zs (fun i hi => wr_in hi) (fun j hj => wr_in hj) i4) ?_
                rintro ⟨H, Fq, MM, R⟩ ⟨k1, k2, k3⟩
                refine Ok.bind (e_mfactor vl vw (nI (t + 1)) 0 va on vo v2 vnm vnn vnu vb hm k2 i4.2.2.2.2.2) ?_
                rintro ⟨rr, lo', di'⟩ (⟨hr, g1, g2, g3⟩ | ⟨hr, g1⟩)
                · have hr : rr = 1 := hr
                  subst hr
                  simp only [i32_10, ↓reduceIte]
                  obtain ⟨i6, i7⟩ := i5 g1
                  refine Ok.bind (e_msolve vl vw (nI (t + 1)) 0 va on vo v2 vnm vnn vnu vb hm k3 g2 g3 i6.1) ?_
                  intro Y hY
                  refine Ok.bind (e_move vl vw (nI (t + 1)) 0 va on vo v2 vnm vnn vnu vb hm hn w3 zx zs zy (fun j hj => wr_in hj) k1 hY i4 i6) ?_
                  rintro ⟨X1, S1, Y1, DT, DX⟩ ⟨l1, l2, l3⟩
                  refine Ok.mk ⟨by omega, Or.inl ⟨by omega, rfl, rfl, fun k' hk' => ?_, l1, l2, l3⟩⟩
                  by_cases e : k' = t
                  · subst e
                    exact ⟨h4, h6, g1⟩
                  · exact z3 k' (by omega)
                · have hr : rr = 0 := hr
                  subst hr
                  simp only [↓reduceIte, isb_0, gd_t]
                  exact Ok.mk ⟨t, ⟨z3, Or.inr ⟨hlt, Or.inr (Or.inr ⟨rfl, h4, h6, g1⟩)⟩⟩, rfl, rfl, rfl, rfl⟩
        · have z5 : q16 = how := z5
          subst z5
          simp only [s_M_interior_B92, z3, ↓reduceIte]
          refine Ok.mk ⟨k, q16, z1, z2, ?_, rfl, zx, zs, zy⟩
          rw [if_neg z3]
          exact z4
      · rintro (w | w) hw
        · obtain ⟨k, how, y1, y2, y3, y4, yx, ys, yy⟩ := hw
          have inv := it_inv hI h0 k y1.1
          obtain ⟨b1, b2⟩ := hB _ _ _ inv
          simp only [Sum.elim_inl, s_M_interior_J208]
          refine Ok.bind (e_back vl vw w.1 0 va on vo v2 vnm vnn vnu vb hm hn w1 w2 yx ys yy (fun j hj => (b1 j hj).1) (fun j hj => (b1 j hj).2) b2) ?_
          rintro ⟨so, X1, S1, Y1⟩ ⟨l0, l1, l2, l3⟩
          exact Ok.mk ⟨k, how, y1, y3, Or.inl ⟨y2, y4, rfl, l0, l1, l2, l3⟩⟩
        · obtain ⟨k, y1, y2, y3, y4, y5⟩ := hw
          exact Ok.mk ⟨k, 5, y1, y2, Or.inr ⟨rfl, y3, y4, y5⟩⟩
