/-! the reference's matrix and move -/
theorem lit25 : (25 : Int32) = nI 25 := rfl
theorem e_mfactor {m n : Nat} {G : (Nat → Nat → UInt64)} {mm lo0 di0 : (Nat → UInt64)} (vl vw ve vt va vs vo v2 vnm vnn : Int32) (vnu : UInt64) (vb : Int32) (hm : m ≤ 5) (he : ∀ i, i < m → ∀ k, k ≤ i → mm (5 * i + k) = G i k) (ok : FacOk G m) : Ok (s_M_factor (nI m) (nI n) vl vw ve vt va vs vo v2 vnm vnn vnu vb mm lo0 di0) (fun r => (r.1 = 1 ∧ (∀ k, k < m → gd13 G k) ∧ (∀ k, k < m → ∀ l, l < k → r.2.1 (5 * k + l) = tL G k l) ∧ ∀ k, k < m → r.2.2 k = tW G k k) ∨ (r.1 = 0 ∧ ¬ ∀ k, k < m → gd13 G k)) := by
  unfold s_M_factor s_M_factor_L2
  refine Ok.bind (P := fun v => Sum.elim (fun w => (∀ k, k < m → gd13 G k) ∧ (∀ k, k < m → ∀ l, l < k → w.1 (5 * k + l) = tL G k l) ∧ ∀ k, k < m → w.2 k = tW G k k) (fun w => w.1 = 0 ∧ ¬ ∀ k, k < m → gd13 G k) v) ?_ ?_
  · refine Ok.for (fun t st => st.2.2 = nI t ∧ (∀ k, k < t → gd13 G k) ∧ (∀ k, k < t → ∀ l, l < k → st.1 (5 * k + l) = tL G k l) ∧ ∀ k, k < t → st.2.1 k = tW G k k) m (by omega) ⟨rfl, fun i hi => absurd hi (Nat.not_lt_zero _), fun i hi => absurd hi (Nat.not_lt_zero _), fun i hi => absurd hi (Nat.not_lt_zero _)⟩ ?_ ?_
    · rintro k ⟨lo, di, z⟩ hk ⟨hz, g0, g1, g2⟩
      have hz : z = nI k := hz
      subst hz
      obtain ⟨ok1, ok2⟩ := ok k hk g0
      simp (disch := omega) only [↓ite_le_t, ↓ite_le_f, ↓ite_lt_t, ↓ite_lt_f, li5, li8, nI_leI, nI_ltI, nI_eqI, if_pos, if_neg, ↓reduceIte, inb_nI, gd_t, nI_clamp, Option.bind_some, nI_1, isb_0, isb_1, lit13, lit14, lit40, nI_mul, nI_add, s_M_factor_B2]
      unfold s_M_factor_L12
      refine Ok.bind (P := fun v => Sum.elim (fun w => gd13 G k ∧ (∀ k', k' ≤ k → ∀ l, l < k' → w.1 (5 * k' + l) = tL G k' l) ∧ ∀ k', k' ≤ k → w.2 k' = tW G k' k') (fun w => w.1 = 0 ∧ ¬ gd13 G k) v) ?_ ?_
      · refine Ok.for (fun t st => st.2.2 = nI t ∧ (k < t → gd13 G k) ∧ (∀ k', k' < k → ∀ l, l < k' → st.1 (5 * k' + l) = tL G k' l) ∧ (∀ l, l < t → l < k → st.1 (5 * k + l) = tL G k l) ∧ (∀ k', k' < k → st.2.1 k' = tW G k' k') ∧ (k < t → st.2.1 k = tW G k k)) (k + 1) (by omega) ⟨rfl, fun q => absurd q (Nat.not_lt_zero _), g1, fun i hi => absurd hi (Nat.not_lt_zero _), g2, fun q => absurd q (Nat.not_lt_zero _)⟩ ?_ ?_
        · rintro l ⟨lo', di', z⟩ hl ⟨hz, c0, g3, g4, g5, c1⟩
          have hz : z = nI l := hz
          subst hz
          obtain ⟨o1, o2, o3⟩ := ok1 l (by omega)
          have e0 := he k hk l (by omega)
          simp (disch := omega) only [↓ite_le_t, ↓ite_le_f, ↓ite_lt_t, ↓ite_lt_f, li5, li8, nI_leI, nI_ltI, nI_eqI, if_pos, if_neg, ↓reduceIte, inb_nI, gd_t, nI_clamp, Option.bind_some, nI_1, isb_0, isb_1, lit13, lit14, lit40, nI_mul, nI_add, s_M_factor_B12]
          unfold s_M_factor_L31
          refine Ok.bind (P := fun v => v = tW G k l) ?_ ?_
          · refine loop_ok l (fun q => (subR (tWs G k l) q (G k l), nI q)) _ (by rw [e0]; rfl) (by omega) (fun q hq => ?_) ?_
            · have e1 : FP.dmul (FP.dmul (tL G k q) (tW G q q)) (tL G l q) = tWs G k l q := rfl
              have a := o2.1 q hq
              have b := o2.2 q hq
              have x1 : lo' (5 * k + q) = tL G k q := g4 q hq (by omega)
              have x2 : lo' (5 * l + q) = tL G l q := by
                by_cases e : l = k
                · subst e; exact x1
                · exact g3 l (by omega) q hq
              have x3 : di' q = tW G q q := g5 q (by omega)
              simp (disch := omega) only [↓ite_le_t, ↓ite_le_f, ↓ite_lt_t, ↓ite_lt_f, li5, li8, nI_leI, nI_ltI, nI_eqI, if_pos, if_neg, ↓reduceIte, inb_nI, gd_t, nI_clamp, Option.bind_some, nI_1, isb_0, isb_1, lit13, lit14, lit40, nI_mul, nI_add, s_M_factor_B31, x1, x2, x3, o1 q hq, e1, a, ← subR_s (tWs G k l), b]
            · simp (disch := omega) only [↓ite_le_t, ↓ite_le_f, ↓ite_lt_t, ↓ite_lt_f, s_M_factor_B31]
              rw [tW_eq]
          · rintro v rfl
            by_cases e : l = k
            · subst e
              simp (disch := omega) only [↓ite_le_t, ↓ite_le_f, ↓ite_lt_t, ↓ite_lt_f, li5, li8, nI_leI, nI_ltI, nI_eqI, if_pos, if_neg, ↓reduceIte, inb_nI, gd_t, nI_clamp, Option.bind_some, nI_1, isb_0, isb_1, lit13, lit14, lit40, nI_mul, nI_add, s_M_factor_J110, s_M_factor_J125]
              by_cases hg : gd13 G l
              · rw [if_pos ((cv_gt ok2 nn_c13).mpr hg)]
                refine Ok.mk ⟨rfl, fun _ => hg, g3, fun l' _ hl' => g4 l' hl' hl', fun k' hk' => ?_, fun _ => upd_at _ _ _⟩
                exact (upd_ne (by omega)).trans (g5 k' hk')
              · rw [if_neg (fun q => hg ((cv_gt ok2 nn_c13).mp q))]
                exact Ok.mk ⟨rfl, hg⟩
            · have x3 : di' l = tW G l l := g5 l (by omega)
              have e3 : FP.ddiv (tW G k l) (tW G l l) = tL G k l := rfl
              have hne : ¬ nI l = nI k := fun q => e ((nI_eq (by omega) (by omega)).mp q)
              simp (disch := omega) only [↓ite_le_t, ↓ite_le_f, ↓ite_lt_t, ↓ite_lt_f, li5, li8, nI_leI, nI_ltI, nI_eqI, if_pos, if_neg, ↓reduceIte, inb_nI, gd_t, nI_clamp, Option.bind_some, nI_1, isb_0, isb_1, lit13, lit14, lit40, nI_mul, nI_add, x3, e3, o3 (by omega), s_M_factor_J110, s_M_factor_J125, hne]
              refine Ok.mk ⟨rfl, fun q => absurd q (by omega), fun k' hk' l' hl' => ?_, fun l' hl' h2 => ?_, g5, fun q => absurd q (by omega)⟩
              · exact (upd_ne (by omega)).trans (g3 k' hk' l' hl')
              · by_cases e : l' = l
                · subst e
                  exact upd_at _ _ _
                · exact (upd_ne (by omega)).trans (g4 l' (by omega) h2)
        · rintro ⟨lo', di', z⟩ ⟨hz, c0, g3, g4, g5, c1⟩
          have hz : z = nI (k + 1) := hz
          subst hz
          simp (disch := omega) only [↓ite_le_t, ↓ite_le_f, ↓ite_lt_t, ↓ite_lt_f, s_M_factor_B12]
          refine Ok.mk ⟨c0 (by omega), fun k' hk' l hl => ?_, fun k' hk' => ?_⟩
          · by_cases e : k' = k
            · subst e; exact g4 l (by omega) hl
            · exact g3 k' (by omega) l hl
          · by_cases e : k' = k
            · subst e; exact c1 (by omega)
            · exact g5 k' (by omega)
      · rintro (w | w) hw
        · obtain ⟨w1, w2, w3⟩ := hw
          refine Ok.mk ⟨nI_1 k, fun k' hk' => ?_, fun k' hk' => w2 k' (by omega), fun k' hk' => w3 k' (by omega)⟩
          by_cases e : k' = k
          · subst e; exact w1
          · exact g0 k' (by omega)
        · exact Ok.mk ⟨hw.1, fun q => hw.2 (q k hk)⟩
    · rintro ⟨lo, di, z⟩ ⟨hz, g0, g1, g2⟩
      have hz : z = nI m := hz
      subst hz
      simp (disch := omega) only [↓ite_le_t, ↓ite_le_f, ↓ite_lt_t, ↓ite_lt_f, s_M_factor_B2]
      exact Ok.mk ⟨g0, g1, g2⟩
  · rintro (v | v) hv
    · exact Ok.mk (Or.inl ⟨rfl, hv⟩)
    · exact Ok.mk (Or.inr hv)
theorem e_msolve {m n : Nat} {G : (Nat → Nat → UInt64)} {lo di r r' y0 : (Nat → UInt64)} (vl vw ve vt va vs vo v2 vnm vnn : Int32) (vnu : UInt64) (vb : Int32) (hm : m ≤ 5) (hr : ∀ i, i < m → r' i = r i) (hl : ∀ k, k < m → ∀ l, l < k → lo (5 * k + l) = tL G k l) (hd : ∀ k, k < m → di k = tW G k k) (ok : SolOk G r m) : Ok (s_M_solve (nI m) (nI n) vl vw ve vt va vs vo v2 vnm vnn vnu vb lo di r' y0) (fun v => ∀ i, i < m → v i = tY G r m i) := by
  unfold s_M_solve s_M_solve_L2
  refine Ok.bind (P := fun z => ∀ i, i < m → z i = tZ G r i) ?_ ?_
  · refine Ok.for (fun t st => st.2 = nI t ∧ ∀ i, i < t → st.1 i = tZ G r i) m (by omega) ⟨rfl, fun i hi => absurd hi (Nat.not_lt_zero _)⟩ ?_ ?_
    · rintro i ⟨z, w⟩ hi ⟨hw, g1⟩
      have hw : w = nI i := hw
      subst hw
      have ok1 := ok.1 i hi
      simp (disch := omega) only [↓ite_le_t, ↓ite_le_f, ↓ite_lt_t, ↓ite_lt_f, li5, li8, nI_leI, nI_ltI, nI_eqI, if_pos, if_neg, ↓reduceIte, inb_nI, gd_t, nI_clamp, Option.bind_some, nI_1, isb_0, isb_1, lit13, lit14, lit40, nI_mul, nI_add, s_M_solve_B2]
      unfold s_M_solve_L24
      refine Ok.bind (P := fun v => v = vf_upd z i (subR (fun q => FP.dmul (tL G i q) (tZ G r q)) i (r i))) ?_ ?_
      · refine loop_ok i (fun q => (vf_upd z i (subR (fun q => FP.dmul (tL G i q) (tZ G r q)) q (r i)), nI q)) _ (by rw [hr i hi]; rfl) (by omega) (fun q hq => ?_) ?_
        · have a := ok1.1 q hq
          have b := ok1.2 q hq
          have e1 : vf_upd z i (subR (fun q => FP.dmul (tL G i q) (tZ G r q)) q (r i)) q = tZ G r q := (upd_ne (by omega)).trans (g1 q hq)
          simp (disch := omega) only [↓ite_le_t, ↓ite_le_f, ↓ite_lt_t, ↓ite_lt_f, li5, li8, nI_leI, nI_ltI, nI_eqI, if_pos, if_neg, ↓reduceIte, inb_nI, gd_t, nI_clamp, Option.bind_some, nI_1, isb_0, isb_1, lit13, lit14, lit40, nI_mul, nI_add, s_M_solve_B24, hl i hi q hq, e1, upd_at, upd_upd, a, ← subR_s (fun q => FP.dmul (tL G i q) (tZ G r q)), b]
        · simp (disch := omega) only [↓ite_le_t, ↓ite_le_f, ↓ite_lt_t, ↓ite_lt_f, s_M_solve_B24]
      · rintro v rfl
        refine Ok.mk ⟨nI_1 i, fun i' hi' => ?_⟩
        by_cases e : i' = i
        · subst e
          exact (upd_at _ _ _).trans (tZ_eq G r _).symm
        · exact (upd_ne e).trans (g1 i' (by omega))
    · rintro ⟨z, w⟩ ⟨hw, g1⟩
      have hw : w = nI m := hw
      subst hw
      simp (disch := omega) only [↓ite_le_t, ↓ite_le_f, ↓ite_lt_t, ↓ite_lt_f, s_M_solve_B2]
      exact Ok.mk g1
  · intro z hz
    unfold s_M_solve_L73
    refine Ok.bind (P := fun v => ∀ i, i < m → v i = FP.ddiv (tZ G r i) (tW G i i)) ?_ ?_
    · refine Ok.for (fun t st => st.2 = nI t ∧ (∀ i, i < t → st.1 i = FP.ddiv (tZ G r i) (tW G i i)) ∧ ∀ i, t ≤ i → i < m → st.1 i = tZ G r i) m (by omega) ⟨rfl, fun i hi => absurd hi (Nat.not_lt_zero _), fun i _ hi => hz i hi⟩ ?_ ?_
      · rintro i ⟨v, w⟩ hi ⟨hw, g1, g2⟩
        have hw : w = nI i := hw
        subst hw
        have e1 : v i = tZ G r i := g2 i (Nat.le_refl _) hi
        simp (disch := omega) only [↓ite_le_t, ↓ite_le_f, ↓ite_lt_t, ↓ite_lt_f, li5, li8, nI_leI, nI_ltI, nI_eqI, if_pos, if_neg, ↓reduceIte, inb_nI, gd_t, nI_clamp, Option.bind_some, nI_1, isb_0, isb_1, lit13, lit14, lit40, nI_mul, nI_add, s_M_solve_B73, e1, hd i hi, (ok.2 i hi).1]
        refine Ok.mk ⟨rfl, fun i' hi' => ?_, fun i' h1 h2 => (upd_ne (by omega)).trans (g2 i' (by omega) h2)⟩
        by_cases e : i' = i
        · subst e
          exact upd_at _ _ _
        · exact (upd_ne e).trans (g1 i' (by omega))
      · rintro ⟨v, w⟩ ⟨hw, g1, -⟩
        have hw : w = nI m := hw
        subst hw
        simp (disch := omega) only [↓ite_le_t, ↓ite_le_f, ↓ite_lt_t, ↓ite_lt_f, s_M_solve_B73]
        exact Ok.mk g1
    · intro z2 hz2
      unfold s_M_solve_L113
      refine Ok.bind (P := fun y => ∀ i, i < m → y i = tY G r m i) ?_ (fun v hv => Ok.mk hv)
      refine Ok.for (fun t st => st.2 + 1 = nI (m - t) ∧ (∀ i, i < m - t → st.1 i = FP.ddiv (tZ G r i) (tW G i i)) ∧ ∀ i, m - t ≤ i → i < m → st.1 i = tY G r m i) m (by omega) ⟨by rw [Nat.sub_zero]; exact Int32.sub_add_cancel _ _, fun i hi => hz2 i (by omega), fun i hi h2 => absurd hi (by omega)⟩ ?_ ?_
      · rintro t ⟨y, w⟩ ht ⟨hw, g0, g1⟩
        have hw : w + 1 = nI (m - t) := hw
        obtain ⟨i, rfl⟩ : ∃ i, m = i + 1 + t := ⟨m - 1 - t, by omega⟩
        have hw : w = nI i := by
          rw [show i + 1 + t - t = i + 1 by omega, ← nI_1] at hw
          exact i32_cancel hw
        subst hw
        have hi : i < i + 1 + t := by omega
        obtain ⟨o1, o2⟩ := ok.2 i hi
        rw [show i + 1 + t - 1 - i = t by omega] at o2
        have g0' : ∀ i', i' < i + 1 → y i' = FP.ddiv (tZ G r i') (tW G i' i') := fun i' h => g0 i' (by omega)
        have hpos : ¬ nI i < 0 := nI_pos (by omega)
        simp (disch := omega) only [↓ite_le_t, ↓ite_le_f, ↓ite_lt_t, ↓ite_lt_f, li5, li8, nI_leI, nI_ltI, nI_eqI, if_pos, if_neg, ↓reduceIte, inb_nI, gd_t, nI_clamp, Option.bind_some, nI_1, isb_0, isb_1, lit13, lit14, lit40, nI_mul, nI_add, s_M_solve_B113, hpos]
        unfold s_M_solve_L121
        refine Ok.bind (P := fun v => v = vf_upd y i (subR (fun q => FP.dmul (tL G (i + 1 + q) i) (tY G r (i + 1 + t) (i + 1 + q))) t (FP.ddiv (tZ G r i) (tW G i i)))) ?_ ?_
        · refine loop_ok t (fun q => (vf_upd y i (subR (fun q => FP.dmul (tL G (i + 1 + q) i) (tY G r (i + 1 + t) (i + 1 + q))) q (FP.ddiv (tZ G r i) (tW G i i))), nI (i + 1 + q))) _ ?_ (by omega) (fun q hq => ?_) ?_
          · have : vf_upd y i (FP.ddiv (tZ G r i) (tW G i i)) = y := by
              rw [← g0' i (by omega)]
              exact upd_self _ _
            show (vf_upd y i (FP.ddiv (tZ G r i) (tW G i i)), nI (i + 1 + 0)) = _
            rw [this]
          · have a := o2.1 q hq
            have b := o2.2 q hq
            have e1 : vf_upd y i (subR (fun q => FP.dmul (tL G (i + 1 + q) i) (tY G r (i + 1 + t) (i + 1 + q))) q (FP.ddiv (tZ G r i) (tW G i i))) (i + 1 + q) = tY G r (i + 1 + t) (i + 1 + q) := (upd_ne (by omega)).trans (g1 _ (by omega) (by omega))
            have e2 : lo (5 * (i + 1 + q) + i) = tL G (i + 1 + q) i := hl _ (by omega) _ (by omega)
            simp (disch := omega) only [↓ite_le_t, ↓ite_le_f, ↓ite_lt_t, ↓ite_lt_f, li5, li8, nI_leI, nI_ltI, nI_eqI, if_pos, if_neg, ↓reduceIte, inb_nI, gd_t, nI_clamp, Option.bind_some, nI_1, isb_0, isb_1, lit13, lit14, lit40, nI_mul, nI_add, s_M_solve_B121, e1, e2, upd_at, upd_upd, a, ← subR_s (fun q => FP.dmul (tL G (i + 1 + q) i) (tY G r (i + 1 + t) (i + 1 + q))), b]
            rfl
          · simp (disch := omega) only [↓ite_le_t, ↓ite_le_f, ↓ite_lt_t, ↓ite_lt_f, s_M_solve_B121]
        · rintro v rfl
          refine Ok.mk ⟨?_, fun i' hi' => (upd_ne (by omega)).trans (g0' i' (by omega)), fun i' hi' h2 => ?_⟩
          · show nI i + -1 + 1 = _
            rw [show i + 1 + t - (t + 1) = i by omega, Int32.add_assoc, show (-1 : Int32) + 1 = 0 from by decide, Int32.add_zero]
          · by_cases e : i' = i
            · subst e
              refine (upd_at _ _ _).trans ?_
              rw [tY_eq (by omega), show i' + 1 + t - 1 - i' = t by omega]
            · exact (upd_ne e).trans (g1 i' (by omega) h2)
      · rintro ⟨y, w⟩ ⟨hw, -, g1⟩
        have hw : w + 1 = nI (m - m) := hw
        have hw : w = -1 := by
          rw [Nat.sub_self] at hw
          exact i32_cancel (hw.trans rfl)
        subst hw
        simp (disch := omega) only [↓ite_le_t, ↓ite_le_f, ↓ite_lt_t, ↓ite_lt_f, li5, li8, nI_leI, nI_ltI, nI_eqI, if_pos, if_neg, ↓reduceIte, inb_nI, gd_t, nI_clamp, Option.bind_some, nI_1, isb_0, isb_1, lit13, lit14, lit40, nI_mul, nI_add, s_M_solve_B113, show (-1 : Int32) < 0 by decide]
        exact Ok.mk (fun i hi => g1 i (by omega) hi)
