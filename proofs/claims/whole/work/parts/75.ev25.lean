/-! the reference's simplex method -/
theorem dm1_eq : dm1 = FP.Core.dneg FP.dconst1 := by decide +kernel
theorem mul_m1 {a : UInt64} (h : nnan a) : FP.dmul a dm1 = FP.Core.dneg a := by
  show FP.Core.dmul a dm1 = _
  rw [FP.Core.dmul_comm, dm1_eq, FP.Core.dmul_dneg, FP.Core.dmul_comm]
  exact congrArg _ (FP.Core.dmul_one h)
theorem sgn_swap {b : (Nat → UInt64)} {i : Nat} {a p : UInt64} (ha : nnan a) (hp : nnan p) : FP.dmul (FP.dmul a (sgn1 b i)) p = FP.dmul a (FP.dmul p (sgn1 b i)) := by
  unfold sgn1
  split
  · rw [mul_m1 ha, mul_m1 hp]
    show FP.Core.dmul (FP.Core.dneg a) p = FP.Core.dmul a (FP.Core.dneg p)
    rw [FP.Core.dmul_dneg, FP.Core.dmul_comm a (FP.Core.dneg p), FP.Core.dmul_dneg, FP.Core.dmul_comm p a]
  · rw [one_mul' ha, one_mul' hp]
theorem e_phase {m n : Nat} {cost : (Nat → UInt64)} {sec : Int32} {T : (Nat → Nat → UInt64)} {R : (Nat → UInt64)} {B : Nat → Nat} {s0 : Nat} {t co x : (Nat → UInt64)} {ba : Nat → Int32} (vl vw vt va vs vo vnm vnn : Int32) (vnu : UInt64) (vb : Int32) (hm : m ≤ 5) (hn : n ≤ 8) (hs0 : s0 ≤ 200) (hT : TB m n T R B) (hc : CB m n cost) (hC : MT m n T R B t ba) (hco : ∀ k, k < n + m → co k = cost k) :
    Ok (s_M_phase (nI m) (nI n) vl vw (nI s0) vt va vs vo sec vnm vnn vnu vb x t co ba) (fun r => ∃ k how, PhTo m n cost sec T R B s0 k how ∧ r.1 = (if how = 6 then 0 else how) ∧ r.2.1 = nI (eff s0 k how) ∧ (¬ how = 2 → r.2.2.1 = x) ∧ (how = 2 → r.2.2.1 = rayX (kT m n cost sec T R B k) (kB m n cost sec T R B k) m n (kCol m n cost sec T R B k).toNatClampNeg x) ∧ (how = 6 → MT m n (kT m n cost sec T R B k) (kR m n cost sec T R B k) (kB m n cost sec T R B k) r.2.2.2.1 r.2.2.2.2)) := by
  unfold s_M_phase
  have ei0 : s_M_entering (nI m) (nI n) vl vw (nI s0) vt va vs vo sec vnm vnn vnu vb t co ba = some (kCol m n cost sec T R B 0) := e_entering _ _ _ _ _ _ _ _ _ _ _ _ hm hn hT hc hC hco
  rw [ei0]
  simp only [Option.bind_some]
  unfold s_M_phase_L5
  refine Ok.bind (P := fun v => Sum.elim (fun (w : Int32 × (Nat → UInt64) × (Nat → Int32)) => ∃ k, PhTo m n cost sec T R B s0 k 6 ∧ w.1 = nI (s0 + k) ∧ MT m n (kT m n cost sec T R B k) (kR m n cost sec T R B k) (kB m n cost sec T R B k) w.2.1 w.2.2) (fun (r : Int32 × Int32 × (Nat → UInt64) × (Nat → UInt64) × (Nat → Int32)) => ∃ k how, ¬ how = 6 ∧ PhTo m n cost sec T R B s0 k how ∧ r.1 = how ∧ r.2.1 = nI (eff s0 k how) ∧ (¬ how = 2 → r.2.2.1 = x) ∧ (how = 2 → r.2.2.1 = rayX (kT m n cost sec T R B k) (kB m n cost sec T R B k) m n (kCol m n cost sec T R B k).toNatClampNeg x)) v) ?_ ?_
  · refine Ok.loop (fun k (st : Int32 × (Nat → UInt64) × (Nat → Int32) × Int32) => s0 + k ≤ 200 ∧ st.1 = nI (s0 + k) ∧ st.2.2.2 = kCol m n cost sec T R B k ∧ (∀ k', k' < k → kMv m n cost sec T R B s0 k') ∧ MT m n (kT m n cost sec T R B k) (kR m n cost sec T R B k) (kB m n cost sec T R B k) st.2.1 st.2.2.1) 200 ?_ 200 0 2000 _ (by omega) (by omega) ⟨hs0, rfl, rfl, fun i hi => absurd hi (Nat.not_lt_zero _), hC⟩
    rintro k ⟨sd, t, ba, z⟩ hk ⟨w0, w1, w2, w3, w4⟩
    have w1 : sd = nI (s0 + k) := w1
    have w2 : z = kCol m n cost sec T R B k := w2
    subst w1 w2
    have tm := ph_tame hm hn hT k w3
    unfold s_M_phase_B5
    by_cases c1 : 0 ≤ kCol m n cost sec T R B k
    · rw [if_neg (fun q => i32_nle c1 q)]
      obtain ⟨j, hj, ej, er, st⟩ := ph_step hm hn tm c1
      have eo : s_M_leaving (nI m) (nI n) vl vw (nI (s0 + k)) vt va vs vo sec vnm vnn vnu vb t ba (kCol m n cost sec T R B k) = some (kRow m n cost sec T R B k) := by
        rw [ej, er]
        exact e_leaving _ _ _ _ _ _ _ _ _ _ _ _ hm hn hj tm w4
      rw [eo]
      simp only [Option.bind_some]
      by_cases c2 : 0 ≤ kRow m n cost sec T R B k
      · rw [if_pos c2]
        obtain ⟨r, hr, er2, hp, f1, f2, f3⟩ := st c2
        by_cases c3 : s0 + k < 200
        · have ne : ¬ nI (s0 + k) = 200 := fun h => by
            have := (nI_eq (a := s0 + k) (b := 200) (by omega) (by omega)).mp h
            omega
          rw [if_neg ne, er2, ej, nI_1]
          refine Ok.bind (e_mpivot vl vw (nI (s0 + k + 1)) vt va vs vo sec vnm vnn vnu vb hm hn tm w4 hr hj hp) ?_
          rintro ⟨t2, ba2⟩ h2
          have h2 : MT m n (kT m n cost sec T R B (k + 1)) (kR m n cost sec T R B (k + 1)) (kB m n cost sec T R B (k + 1)) t2 ba2 := by rw [f1, f2, f3]; exact h2
          obtain ⟨-, -, -, -, p5, p6⟩ := piv_bc tm hr hj hp
          refine Ok.bind (e_isWild (T := kT m n cost sec T R B (k + 1)) (R := kR m n cost sec T R B (k + 1)) vl vw (nI (s0 + k + 1)) vt va vs vo sec vnm vnn vnu vb hm hn (fun i hi => (h2 i hi).1) (fun i hi => by rw [f1, f2]; exact ⟨fun k hk => (p5 i hi k hk).nn, (p6 i hi).nn⟩)) ?_
          rintro r (⟨rfl, hw⟩ | ⟨rfl, hw⟩)
          · simp only [i32_10, ↓reduceIte]
            refine Ok.mk ⟨k, 3, i32_623.1, ⟨w3, w0, Or.inr (Or.inr ⟨rfl, c1, c2, Or.inr hw⟩)⟩, rfl, ?_, fun _ => rfl, fun q => absurd q i32_623.2.2.1⟩
            unfold eff
            rw [if_pos ⟨rfl, c3⟩]
          · simp only [↓reduceIte]
            have mv : ∀ k', k' < k + 1 → kMv m n cost sec T R B s0 k' := fun k' hk' => by
              by_cases e : k' = k
              · subst e
                exact ⟨c1, c2, c3, hw⟩
              · exact w3 k' (by omega)
            have tm2 := ph_tame hm hn hT (k + 1) mv
            have ei : s_M_entering (nI m) (nI n) vl vw (nI (s0 + k + 1)) vt va vs vo sec vnm vnn vnu vb t2 co ba2 = some (kCol m n cost sec T R B (k + 1)) := e_entering _ _ _ _ _ _ _ _ _ _ _ _ hm hn tm2 hc h2 hco
            rw [ei]
            exact Ok.mk ⟨by omega, by omega, rfl, rfl, mv, h2⟩
        · have he : s0 + k = 200 := by omega
          have hq : nI (s0 + k) = 200 := by rw [he]; rfl
          rw [if_pos hq]
          refine Ok.mk ⟨k, 3, i32_623.1, ⟨w3, w0, Or.inr (Or.inr ⟨rfl, c1, c2, Or.inl he⟩)⟩, rfl, ?_, fun _ => rfl, fun q => absurd q i32_623.2.2.1⟩
          unfold eff
          rw [if_neg (fun q => c3 q.2)]
      · rw [if_neg c2, ej]
        simp (disch := omega) only [↓ite_le_t, ↓ite_le_f, ↓ite_lt_t, ↓ite_lt_f, li5, li8, nI_leI, nI_ltI, nI_eqI, if_pos, if_neg, ↓reduceIte, inb_nI, gd_t, nI_clamp, Option.bind_some, nI_1, isb_0, isb_1, lit13, lit14, lit40, nI_mul, nI_add]
        unfold s_M_phase_L28
        refine Ok.bind (P := fun v => v = rayX (kT m n cost sec T R B k) (kB m n cost sec T R B k) m n j x) ?_ ?_
        · refine loop_ok m (fun q => (fd (rayB (kT m n cost sec T R B k) (kB m n cost sec T R B k) n j) q (vf_upd x j FP.dconst1), nI q)) _ rfl (by omega) (fun i hi => ?_) ?_
          · have h1 := w4.t hi (show j < n + m by omega)
            have h1 : t (14 * i + j) = kT m n cost sec T R B k i j := h1
            have h3 : ba i = nI (kB m n cost sec T R B k i) := (w4 i hi).2
            have hB := (tm i hi).2.2
            show _ = some (Sum.inl (rayB (kT m n cost sec T R B k) (kB m n cost sec T R B k) n j i (fd (rayB (kT m n cost sec T R B k) (kB m n cost sec T R B k) n j) i (vf_upd x j FP.dconst1)), nI (i + 1)))
            unfold rayB
            by_cases cB : kB m n cost sec T R B k i < n
            · simp (disch := omega) only [↓ite_le_t, ↓ite_le_f, ↓ite_lt_t, ↓ite_lt_f, li5, li8, nI_leI, nI_ltI, nI_eqI, if_pos, if_neg, ↓reduceIte, inb_nI, gd_t, nI_clamp, Option.bind_some, nI_1, isb_0, isb_1, lit13, lit14, lit40, nI_mul, nI_add, s_M_phase_B28, s_M_phase_J72, h3, h1]
            · simp (disch := omega) only [↓ite_le_t, ↓ite_le_f, ↓ite_lt_t, ↓ite_lt_f, li5, li8, nI_leI, nI_ltI, nI_eqI, if_pos, if_neg, ↓reduceIte, inb_nI, gd_t, nI_clamp, Option.bind_some, nI_1, isb_0, isb_1, lit13, lit14, lit40, nI_mul, nI_add, s_M_phase_B28, s_M_phase_J72, h3]
          · simp (disch := omega) only [↓ite_le_t, ↓ite_le_f, ↓ite_lt_t, ↓ite_lt_f, s_M_phase_B28]
            rfl
        · rintro v rfl
          refine Ok.mk ⟨k, 2, i32_623.2.1, ⟨w3, w0, Or.inr (Or.inl ⟨rfl, c1, i32_nn c2⟩)⟩, rfl, ?_, fun q => absurd rfl q, fun _ => ?_⟩
          · unfold eff
            rw [if_neg (fun q => absurd q.1 i32_623.2.2.2.2.2)]
          · rw [ej, nI_clamp (by omega)]
    · rw [if_pos (i32_nn c1)]
      exact Ok.mk ⟨k, ⟨w3, w0, Or.inl ⟨rfl, i32_nn c1⟩⟩, rfl, w4⟩
  · rintro (v | v) hv
    · obtain ⟨k, p, e1, e2⟩ := hv
      refine Ok.mk ⟨k, 6, p, rfl, ?_, fun _ => rfl, fun q => absurd q i32_623.2.2.2.1, fun _ => e2⟩
      rw [eff6]
      exact e1
    · obtain ⟨k, how, h6, p, e1, e2, e3, e4⟩ := hv
      refine Ok.mk ⟨k, how, p, ?_, e2, e3, e4, fun q => absurd q h6⟩
      rw [if_neg h6]
      exact e1
theorem e_multipliers {m n : Nat} {T : (Nat → Nat → UInt64)} {R cost : (Nat → UInt64)} {B : Nat → Nat} {t co y0 : (Nat → UInt64)} {ba : Nat → Int32} (vl vw ve vt va vs vo v2 vnm vnn : Int32) (vnu : UInt64) (vb : Int32) (hm : m ≤ 5) (hn : n ≤ 8) (hT : TB m n T R B) (hc : CB m n cost) (hC : MT m n T R B t ba) (hco : ∀ k, k < n + m → co k = cost k) : s_M_multipliers (nI m) (nI n) vl vw ve vt va vs vo v2 vnm vnn vnu vb y0 t co ba = some (wr m (prY m n T cost B) y0) := by
  unfold s_M_multipliers s_M_multipliers_L2
  refine loop_b m (fun k => (wr k (prY m n T cost B) y0, nI k)) (wr m (prY m n T cost B) y0) (by rw [wr_0]; rfl) (by omega) (fun i hi => ?_) ?_ rfl
  · obtain ⟨o1, -⟩ := prY_bc hm hT hc hi
    simp (disch := omega) only [↓ite_le_t, ↓ite_le_f, ↓ite_lt_t, ↓ite_lt_f, li5, li8, nI_leI, nI_ltI, nI_eqI, if_pos, if_neg, ↓reduceIte, inb_nI, gd_t, nI_clamp, Option.bind_some, nI_1, isb_0, isb_1, lit13, lit14, lit40, nI_mul, nI_add, s_M_multipliers_B2]
    unfold s_M_multipliers_L19
    refine loop_b m (fun k => (vf_upd (wr i (prY m n T cost B) y0) i (sumR (fun k => FP.dmul (cost (B k)) (T k (n + i))) k FP.dconst0), nI k)) (vf_upd (wr i (prY m n T cost B) y0) i (sumR (fun k => FP.dmul (cost (B k)) (T k (n + i))) m FP.dconst0)) rfl (by omega) (fun k hk => ?_) ?_ ?_
    · have h1 := hC.t hk (show n + i < n + m by omega)
      rw [← Nat.add_assoc] at h1
      have h3 := (hC k hk).2
      have hB := (hT k hk).2.2
      simp (disch := omega) only [↓ite_le_t, ↓ite_le_f, ↓ite_lt_t, ↓ite_lt_f, li5, li8, nI_leI, nI_ltI, nI_eqI, if_pos, if_neg, ↓reduceIte, inb_nI, gd_t, nI_clamp, Option.bind_some, nI_1, isb_0, isb_1, lit13, lit14, lit40, nI_mul, nI_add, s_M_multipliers_B19, h3, hco _ hB, h1, o1.1 k hk, upd_at, upd_upd, ← sumR_s (fun k => FP.dmul (cost (B k)) (T k (n + i))), o1.2 k hk]
    · simp (disch := omega) only [↓ite_le_t, ↓ite_le_f, ↓ite_lt_t, ↓ite_lt_f, s_M_multipliers_B19]
    · have e9 : sumR (fun k => FP.dmul (cost (B k)) (T k (n + i))) m FP.dconst0 = prY m n T cost B i := rfl
      simp (disch := omega) only [↓ite_le_t, ↓ite_le_f, ↓ite_lt_t, ↓ite_lt_f, li5, li8, nI_leI, nI_ltI, nI_eqI, if_pos, if_neg, ↓reduceIte, inb_nI, gd_t, nI_clamp, Option.bind_some, nI_1, isb_0, isb_1, lit13, lit14, lit40, nI_mul, nI_add, e9, wr_s (F := prY m n T cost B)]
  · simp (disch := omega) only [↓ite_le_t, ↓ite_le_f, ↓ite_lt_t, ↓ite_lt_f, s_M_multipliers_B2]
/-- the prices before the signs -/
def Yu (m : Nat) (b : (Nat → UInt64)) (how : Int32) (y yu : (Nat → UInt64)) : Prop := ((how = 0 ∨ how = 1) ∧ ∀ i, i < m → y i = FP.dmul (yu i) (sgn1 b i) ∧ Bc 1 1159 (yu i)) ∨ ((how = 2 ∨ how = 3) ∧ ∀ i, i < m → yu i = y i)
theorem e_sbt {m n : Nat} {A : (Nat → Nat → UInt64)} {b c : (Nat → UInt64)} {sa sc mx ms my t co : (Nat → UInt64)} {ba : Nat → Int32} (vl vw vt va vs vo v2 vnm vnn : Int32) (vnu : UInt64) (vb : Int32) (hP : SPb m n A b c) (hsa : ∀ i, i < m → ∀ j, j < n → sa (8 * i + j) = sAt A b i j) (hsc : ∀ j, j < n → sc j = c j) (hx : ∀ j, j < 8 → mx j = z0 j) (hs : ∀ j, j < 8 → ms j = z0 j) (hy : ∀ i, i < 5 → my i = z0 i) (hC : MT m n (T0 n A b) (R0 b) (B0 n) t ba) :
    Ok (s_M_solveByTable (nI m) (nI n) vl vw 0 vt va vs vo v2 vnm vnn vnu vb sa sc mx ms my t co ba) (fun r => ∃ ef x s y yu, Sx m n A b c r.1 ef x s y ∧ r.2.1 = nI ef ∧ (∀ j, j < 8 → r.2.2.2.1 j = x j) ∧ (∀ j, j < 8 → r.2.2.2.2.1 j = s j) ∧ (∀ i, i < m → r.2.2.2.2.2.1 i = yu i) ∧ Yu m b r.1 y yu) := by
  have hP' := hP
  obtain ⟨m1', m5, n1', n8, hA, hb, hc⟩ := hP'
  unfold s_M_solveByTable s_M_solveByTable_L2
  refine Ok.bind (P := fun q => ∀ k, k < n + m → q k = cst1 n k) ?_ ?_
  · refine Ok.for (fun t st => st.2 = nI t ∧ ∀ k, k < t → st.1 k = cst1 n k) (n + m) (by omega) ⟨rfl, fun i hi => absurd hi (Nat.not_lt_zero _)⟩ ?_ ?_
    · rintro k ⟨w, z⟩ hk ⟨hz, g1⟩
      have hz : z = nI k := hz
      subst hz
      have fin : ∀ v, v = cst1 n k → ∀ k', k' < k + 1 → vf_upd w k v k' = cst1 n k' := fun v hv k' hk' => by
        by_cases e : k' = k
        · subst e; exact (upd_at _ _ _).trans hv
        · exact (upd_ne e).trans (g1 k' (by omega))
      by_cases c1 : n ≤ k
      · simp (disch := omega) only [↓ite_le_t, ↓ite_le_f, ↓ite_lt_t, ↓ite_lt_f, li5, li8, nI_leI, nI_ltI, nI_eqI, if_pos, if_neg, ↓reduceIte, inb_nI, gd_t, nI_clamp, Option.bind_some, nI_1, isb_0, isb_1, lit13, lit14, lit40, nI_mul, nI_add, s_M_solveByTable_B2, s_M_solveByTable_J33]
        exact Ok.mk ⟨rfl, fin _ (by unfold cst1; rw [if_neg (by omega)])⟩
      · simp (disch := omega) only [↓ite_le_t, ↓ite_le_f, ↓ite_lt_t, ↓ite_lt_f, li5, li8, nI_leI, nI_ltI, nI_eqI, if_pos, if_neg, ↓reduceIte, inb_nI, gd_t, nI_clamp, Option.bind_some, nI_1, isb_0, isb_1, lit13, lit14, lit40, nI_mul, nI_add, s_M_solveByTable_B2, s_M_solveByTable_J33]
        exact Ok.mk ⟨rfl, fin _ (by unfold cst1; rw [if_pos (by omega)])⟩
    · rintro ⟨w, z⟩ ⟨hz, g1⟩
      have hz : z = nI (n + m) := hz
      subst hz
      simp (disch := omega) only [s_M_solveByTable_B2, nI_add, ↓ite_le_t]
      exact Ok.mk g1
  · intro co1 hco1
    simp only [isb_0, gd_t]
    refine Ok.bind (e_phase (sec := 0) (s0 := 0) vl vw vt va vs vo vnm vnn vnu vb m5 n8 (by omega) (tb0 hP) (cb1 m n) hC hco1) ?_
    rintro ⟨r1, sd, x1, t2, ba2⟩ ⟨k1, h, p1, e1, e2, e3, e4, e5⟩
    have e1 : r1 = (if h = 6 then 0 else h) := e1
    have e2 : sd = nI (eff 0 k1 h) := e2
    subst e1 e2
    have hk1 : k1 ≤ 200 := by have := p1.2.1; omega
    by_cases c6 : h = 6
    · subst c6
      simp only [↓reduceIte]
      rw [if_pos (by decide)]
      have ct := e5 rfl
      have ex : x1 = mx := e3 i32_623.2.2.2.1
      subst ex
      have ef0 : eff 0 k1 6 = k1 := by rw [eff6, Nat.zero_add]
      rw [ef0]
      have tm := ph_tame m5 n8 (tb0 hP) k1 p1.1
      obtain ⟨o1, cb⟩ := cob_bc m5 tm (cb1 m n)
      have e7 := cv_le (op := .l) cb.nn nn_c7
      unfold s_M_solveByTable_L61
      refine Ok.bind (P := fun v => v = cob m (kR m n (cst1 n) 0 (T0 n A b) (R0 b) (B0 n) k1) (cst1 n) (kB m n (cst1 n) 0 (T0 n A b) (R0 b) (B0 n) k1)) ?_ ?_
      · refine loop_ok m (fun k => (sumR (fun i => FP.dmul (cst1 n (kB m n (cst1 n) 0 (T0 n A b) (R0 b) (B0 n) k1 i)) (kR m n (cst1 n) 0 (T0 n A b) (R0 b) (B0 n) k1 i)) k FP.dconst0, nI k)) _ rfl (by omega) (fun i hi => ?_) ?_
        · have h2 : t2 (14 * i + 13) = _ := ct.r m5 n8 hi
          have h3 : ba2 i = _ := (ct i hi).2
          have hB := (tm i hi).2.2
          simp (disch := omega) only [↓ite_le_t, ↓ite_le_f, ↓ite_lt_t, ↓ite_lt_f, li5, li8, nI_leI, nI_ltI, nI_eqI, if_pos, if_neg, ↓reduceIte, inb_nI, gd_t, nI_clamp, Option.bind_some, nI_1, isb_0, isb_1, lit13, lit14, lit40, nI_mul, nI_add, s_M_solveByTable_B61, h2, h3, hco1 _ hB, o1.1 i hi, ← sumR_s (fun i => FP.dmul (cst1 n (kB m n (cst1 n) 0 (T0 n A b) (R0 b) (B0 n) k1 i)) (kR m n (cst1 n) 0 (T0 n A b) (R0 b) (B0 n) k1 i)), o1.2 i hi]
        · simp (disch := omega) only [↓ite_le_t, ↓ite_le_f, ↓ite_lt_t, ↓ite_lt_f, s_M_solveByTable_B61]
          rfl
      · rintro v rfl
        by_cases c7' : zv c7 < zv (cob m (kR m n (cst1 n) 0 (T0 n A b) (R0 b) (B0 n) k1) (cst1 n) (kB m n (cst1 n) 0 (T0 n A b) (R0 b) (B0 n) k1))
        · rw [if_neg (fun q => absurd (e7.mp q) (Int.not_le.mpr c7'))]
          have et := e_multipliers (y0 := my) vl vw (nI k1) vt va vs vo 0 vnm vnn vnu vb m5 n8 tm (cb1 m n) ct hco1
          dsimp only at et
          rw [et]
          refine Ok.mk ⟨k1, z0, z0, _, prY m n (kT m n (cst1 n) 0 (T0 n A b) (R0 b) (B0 n) k1) (cst1 n) (kB m n (cst1 n) 0 (T0 n A b) (R0 b) (B0 n) k1), ⟨k1, 6, p1, Or.inr (Or.inl ⟨rfl, c7', rfl, rfl, rfl, rfl, rfl⟩)⟩, rfl, hx, hs, fun i hi => wr_in hi, Or.inl ⟨Or.inr rfl, fun i hi => ⟨wr_in hi, (prY_bc m5 tm (cb1 m n) hi).2⟩⟩⟩
        · rw [if_pos (e7.mpr (Int.not_lt.mp c7'))]
          unfold s_M_solveByTable_L122
          refine Ok.bind (P := fun q => ∀ k, k < n + m → q k = cst2 c n k) ?_ ?_
          · refine Ok.for (fun t st => st.2 = nI t ∧ ∀ k, k < t → st.1 k = cst2 c n k) (n + m) (by omega) ⟨rfl, fun i hi => absurd hi (Nat.not_lt_zero _)⟩ ?_ ?_
            · rintro k ⟨w, z⟩ hk ⟨hz, g1⟩
              have hz : z = nI k := hz
              subst hz
              have fin : ∀ v, v = cst2 c n k → ∀ k', k' < k + 1 → vf_upd w k v k' = cst2 c n k' := fun v hv k' hk' => by
                by_cases e : k' = k
                · subst e; exact (upd_at _ _ _).trans hv
                · exact (upd_ne e).trans (g1 k' (by omega))
              by_cases c1 : n ≤ k
              · simp (disch := omega) only [↓ite_le_t, ↓ite_le_f, ↓ite_lt_t, ↓ite_lt_f, li5, li8, nI_leI, nI_ltI, nI_eqI, if_pos, if_neg, ↓reduceIte, inb_nI, gd_t, nI_clamp, Option.bind_some, nI_1, isb_0, isb_1, lit13, lit14, lit40, nI_mul, nI_add, s_M_solveByTable_B122, s_M_solveByTable_J162]
                exact Ok.mk ⟨rfl, fin _ (by unfold cst2; rw [if_neg (by omega)])⟩
              · simp (disch := omega) only [↓ite_le_t, ↓ite_le_f, ↓ite_lt_t, ↓ite_lt_f, li5, li8, nI_leI, nI_ltI, nI_eqI, if_pos, if_neg, ↓reduceIte, inb_nI, gd_t, nI_clamp, Option.bind_some, nI_1, isb_0, isb_1, lit13, lit14, lit40, nI_mul, nI_add, s_M_solveByTable_B122, s_M_solveByTable_J162, hsc k (by omega)]
                exact Ok.mk ⟨rfl, fin _ (by unfold cst2; rw [if_pos (by omega)])⟩
            · rintro ⟨w, z⟩ ⟨hz, g1⟩
              have hz : z = nI (n + m) := hz
              subst hz
              simp (disch := omega) only [s_M_solveByTable_B122, nI_add, ↓ite_le_t]
              exact Ok.mk g1
          · intro co2 hco2
            simp only [isb_1, gd_t]
            refine Ok.bind (e_phase (sec := 1) (s0 := k1) vl vw vt va vs vo vnm vnn vnu vb m5 n8 hk1 tm (cb2 hP) ct hco2) ?_
            rintro ⟨r2, sd, x2, t3, ba3⟩ ⟨k2, h, p2, f1, f2, f3, f4, f5⟩
            have f1 : r2 = (if h = 6 then 0 else h) := f1
            have f2 : sd = nI (eff k1 k2 h) := f2
            subst f1 f2
            by_cases c8 : h = 6
            · subst c8
              simp only [↓reduceIte]
              rw [if_pos (by decide)]
              have ct2 := f5 rfl
              have ex : x2 = x1 := f3 i32_623.2.2.2.1
              subst ex
              have tm2 := ph_tame m5 n8 tm k2 p2.1
              generalize hT2 : kT m n (cst2 c n) 1 (kT m n (cst1 n) 0 (T0 n A b) (R0 b) (B0 n) k1) (kR m n (cst1 n) 0 (T0 n A b) (R0 b) (B0 n) k1) (kB m n (cst1 n) 0 (T0 n A b) (R0 b) (B0 n) k1) k2 = T2 at *
              generalize hR2 : kR m n (cst2 c n) 1 (kT m n (cst1 n) 0 (T0 n A b) (R0 b) (B0 n) k1) (kR m n (cst1 n) 0 (T0 n A b) (R0 b) (B0 n) k1) (kB m n (cst1 n) 0 (T0 n A b) (R0 b) (B0 n) k1) k2 = R2 at *
              generalize hB2 : kB m n (cst2 c n) 1 (kT m n (cst1 n) 0 (T0 n A b) (R0 b) (B0 n) k1) (kR m n (cst1 n) 0 (T0 n A b) (R0 b) (B0 n) k1) (kB m n (cst1 n) 0 (T0 n A b) (R0 b) (B0 n) k1) k2 = B2 at *
              unfold s_M_solveByTable_L188
              refine Ok.bind (P := fun v => v = solX R2 B2 m n x2) ?_ ?_
              · refine loop_ok m (fun k => (fd (solB R2 B2 n) k x2, nI k)) _ rfl (by omega) (fun i hi => ?_) ?_
                · have h2 : t3 (14 * i + 13) = R2 i := ct2.r m5 n8 hi
                  have h3 : ba3 i = nI (B2 i) := (ct2 i hi).2
                  have hB := (tm2 i hi).2.2
                  show _ = some (Sum.inl (solB R2 B2 n i (fd (solB R2 B2 n) i x2), nI (i + 1)))
                  unfold solB
                  by_cases c1 : B2 i < n
                  · simp (disch := omega) only [↓ite_le_t, ↓ite_le_f, ↓ite_lt_t, ↓ite_lt_f, li5, li8, nI_leI, nI_ltI, nI_eqI, if_pos, if_neg, ↓reduceIte, inb_nI, gd_t, nI_clamp, Option.bind_some, nI_1, isb_0, isb_1, lit13, lit14, lit40, nI_mul, nI_add, s_M_solveByTable_B188, s_M_solveByTable_J236, h2, h3]
                  · simp (disch := omega) only [↓ite_le_t, ↓ite_le_f, ↓ite_lt_t, ↓ite_lt_f, li5, li8, nI_leI, nI_ltI, nI_eqI, if_pos, if_neg, ↓reduceIte, inb_nI, gd_t, nI_clamp, Option.bind_some, nI_1, isb_0, isb_1, lit13, lit14, lit40, nI_mul, nI_add, s_M_solveByTable_B188, s_M_solveByTable_J236, h3]
                · simp (disch := omega) only [↓ite_le_t, ↓ite_le_f, ↓ite_lt_t, ↓ite_lt_f, s_M_solveByTable_B188]
                  rfl
              · rintro v rfl
                have et := e_multipliers (y0 := my) vl vw (nI (eff k1 k2 6)) vt va vs vo 1 vnm vnn vnu vb m5 n8 tm2 (cb2 hP) ct2 hco2
                dsimp only at et
                rw [et]
                simp only [Option.bind_some]
                unfold s_M_solveByTable_L249
                refine Ok.bind (P := fun v => v = wr n (fun j => subR (fun i => FP.dmul (A i j) (yS m n T2 (cst2 c n) b B2 i)) m (c j)) ms) ?_ ?_
                · refine loop_ok n (fun k => (wr k (fun j => subR (fun i => FP.dmul (A i j) (yS m n T2 (cst2 c n) b B2 i)) m (c j)) ms, nI k)) _ (by rw [wr_0]; rfl) (by omega) (fun j hj => ?_) ?_
                  · have o := (okS_bc (K := 1169) (n := m) (f := fun i => FP.dmul (A i j) (yS m n T2 (cst2 c n) b B2 i)) (z := c j) (by omega) (by decide) (fun i hi => mul_bc (hA i hi j hj) (yS_bc m5 tm2 (cb2 hP) hi) (by decide) (by decide)) ((hc j hj).k (by decide))).1
                    simp (disch := omega) only [↓ite_le_t, ↓ite_le_f, ↓ite_lt_t, ↓ite_lt_f, li5, li8, nI_leI, nI_ltI, nI_eqI, if_pos, if_neg, ↓reduceIte, inb_nI, gd_t, nI_clamp, Option.bind_some, nI_1, isb_0, isb_1, lit13, lit14, lit40, nI_mul, nI_add, s_M_solveByTable_B249]
                    unfold s_M_solveByTable_L275
                    refine loop_b m (fun k => (vf_upd (wr j (fun j => subR (fun i => FP.dmul (A i j) (yS m n T2 (cst2 c n) b B2 i)) m (c j)) ms) j (subR (fun i => FP.dmul (A i j) (yS m n T2 (cst2 c n) b B2 i)) k (c j)), nI k)) (vf_upd (wr j (fun j => subR (fun i => FP.dmul (A i j) (yS m n T2 (cst2 c n) b B2 i)) m (c j)) ms) j (subR (fun i => FP.dmul (A i j) (yS m n T2 (cst2 c n) b B2 i)) m (c j))) (by rw [hsc j hj]; rfl) (by omega) (fun i hi => ?_) ?_ ?_
                    · have a1 := o.1 i hi
                      have a2 := o.2 i hi
                      have es : FP.dmul (sAt A b i j) (prY m n T2 (cst2 c n) B2 i) = FP.dmul (A i j) (yS m n T2 (cst2 c n) b B2 i) := sgn_swap (hA i hi j hj).nn (prY_bc m5 tm2 (cb2 hP) hi).2.nn
                      simp (disch := omega) only [↓ite_le_t, ↓ite_le_f, ↓ite_lt_t, ↓ite_lt_f, li5, li8, nI_leI, nI_ltI, nI_eqI, if_pos, if_neg, ↓reduceIte, inb_nI, gd_t, nI_clamp, Option.bind_some, nI_1, isb_0, isb_1, lit13, lit14, lit40, nI_mul, nI_add, s_M_solveByTable_B275, hsa i hi j hj, wr_in, es, a1, upd_at, upd_upd, ← subR_s (fun i => FP.dmul (A i j) (yS m n T2 (cst2 c n) b B2 i)), a2]
                    · simp (disch := omega) only [↓ite_le_t, ↓ite_le_f, ↓ite_lt_t, ↓ite_lt_f, s_M_solveByTable_B275]
                    · simp (disch := omega) only [↓ite_le_t, ↓ite_le_f, ↓ite_lt_t, ↓ite_lt_f, li5, li8, nI_leI, nI_ltI, nI_eqI, if_pos, if_neg, ↓reduceIte, inb_nI, gd_t, nI_clamp, Option.bind_some, nI_1, isb_0, isb_1, lit13, lit14, lit40, nI_mul, nI_add, wr_s (F := fun j => subR (fun i => FP.dmul (A i j) (yS m n T2 (cst2 c n) b B2 i)) m (c j))]
                  · simp (disch := omega) only [↓ite_le_t, ↓ite_le_f, ↓ite_lt_t, ↓ite_lt_f, s_M_solveByTable_B249]
                · rintro v rfl
                  have sxx : Sx m n A b c 0 (k1 + k2) (solX R2 B2 m n z0) (wr n (fun j => subR (fun i => FP.dmul (A i j) (yS m n T2 (cst2 c n) b B2 i)) m (c j)) z0) (wr m (yS m n T2 (cst2 c n) b B2) z0) := by
                    subst hT2 hR2 hB2
                    exact ⟨k1, 6, p1, Or.inr (Or.inr ⟨rfl, c7', _, _, _, rfl, rfl, rfl, k2, 6, p2, Or.inr ⟨rfl, rfl, rfl, rfl, rfl, rfl⟩⟩)⟩
                  refine Ok.mk ⟨k1 + k2, _, _, _, prY m n T2 (cst2 c n) B2, sxx, ?_, sol_agree hx, fun j hj => ?_, fun i hi => wr_in hi, Or.inl ⟨Or.inl rfl, fun i hi => ⟨wr_in hi, (prY_bc m5 tm2 (cb2 hP) hi).2⟩⟩⟩
                  · show nI (eff k1 k2 6) = nI (k1 + k2)
                    rw [eff6]
                  · dsimp only
                    by_cases q : j < n
                    · rw [wr_in q, wr_in q]
                    · rw [wr_out q, wr_out q]
                      exact hs j hj
            · simp only [c8, ↓reduceIte]
              have h23 : h = 2 ∨ h = 3 := by
                rcases p2.2.2 with ⟨q, -⟩ | ⟨q, -⟩ | ⟨q, -⟩
                · exact absurd q c8
                · exact Or.inl q
                · exact Or.inr q
              rw [if_neg (by rcases h23 with rfl | rfl <;> decide)]
              by_cases c9' : h = 2
              · have ex : x2 = _ := f4 c9'
                subst ex
                exact Ok.mk ⟨eff k1 k2 h, _, z0, z0, z0, ⟨k1, 6, p1, Or.inr (Or.inr ⟨rfl, c7', _, _, _, rfl, rfl, rfl, k2, h, p2, Or.inl ⟨c8, rfl, rfl, fun q => absurd c9' q, fun _ => rfl, rfl, rfl⟩⟩)⟩, rfl, ray_agree hx, hs, fun i hi => hy i (by omega), Or.inr ⟨h23, fun _ _ => rfl⟩⟩
              · have ex : x2 = _ := f3 c9'
                subst ex
                exact Ok.mk ⟨eff k1 k2 h, z0, z0, z0, z0, ⟨k1, 6, p1, Or.inr (Or.inr ⟨rfl, c7', _, _, _, rfl, rfl, rfl, k2, h, p2, Or.inl ⟨c8, rfl, rfl, fun _ => rfl, fun q => absurd q c9', rfl, rfl⟩⟩)⟩, rfl, hx, hs, fun i hi => hy i (by omega), Or.inr ⟨h23, fun _ _ => rfl⟩⟩
    · simp only [c6, ↓reduceIte]
      have h23 : h = 2 ∨ h = 3 := by
        rcases p1.2.2 with ⟨q, -⟩ | ⟨q, -⟩ | ⟨q, -⟩
        · exact absurd q c6
        · exact Or.inl q
        · exact Or.inr q
      rw [if_neg (by rcases h23 with rfl | rfl <;> decide)]
      by_cases c9' : h = 2
      · have ex : x1 = _ := e4 c9'
        subst ex
        exact Ok.mk ⟨eff 0 k1 h, _, z0, z0, z0, ⟨k1, h, p1, Or.inl ⟨c6, rfl, rfl, fun q => absurd c9' q, fun _ => rfl, rfl, rfl⟩⟩, rfl, ray_agree hx, hs, fun i hi => hy i (by omega), Or.inr ⟨h23, fun _ _ => rfl⟩⟩
      · have ex : x1 = _ := e3 c9'
        subst ex
        exact Ok.mk ⟨eff 0 k1 h, z0, z0, z0, z0, ⟨k1, h, p1, Or.inl ⟨c6, rfl, rfl, fun _ => rfl, fun q => absurd q c9', rfl, rfl⟩⟩, rfl, hx, hs, fun i hi => hy i (by omega), Or.inr ⟨h23, fun _ _ => rfl⟩⟩
