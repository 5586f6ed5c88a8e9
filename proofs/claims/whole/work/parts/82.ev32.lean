/-! scale, simplex, interior: class and reference together -/
theorem sg_p2 : ∀ k, k < 80 → sg (p2 k) = false := by decide +kernel
theorem div_nn {a b : UInt64} (ha : FP.Core.DFin a) (hb : FP.Core.DFin b) (h0 : 0 < mz b) (hs : sg b = false) (h : 0 ≤ zv a) : nnan (FP.ddiv a b) ∧ 0 ≤ zv (FP.ddiv a b) := by
  have r := rr_div ha hb h0
  refine ⟨r.nn, ?_⟩
  have e := r.sg
  rw [hs] at e
  cases hsa : sg a with
  | false =>
    rw [hsa] at e
    rw [zv_f e]
    exact Int.natCast_nonneg _
  | true =>
    rw [zv_t hsa] at h
    have hm : mz a = 0 := by omega
    have := r.le rep_0 (by rw [hm, Nat.zero_mul]; exact Nat.zero_le _)
    have h1 : mz (FP.ddiv a b) = 0 := Nat.le_zero.mp this
    have := (zv_le_mz (FP.ddiv a b)).2
    rw [h1] at this
    simpa using this
/-- the class's scales -/
def ScOk (on : Int32) (A : (Nat → Nat → UInt64)) (m n : Nat) (q : (Nat → UInt64) × (Nat → UInt64)) : Prop := (∀ i, i < 5 → q.1 i = if i < m then tR on A n i else FP.dconst1) ∧ ∀ j, j < 8 → q.2 j = if j < n then tV on A m n j else FP.dconst1
theorem sc_bc {on : Int32} {A : (Nat → Nat → UInt64)} {m n : Nat} {q : (Nat → UInt64) × (Nat → UInt64)} (h : ∀ i, i < m → ∀ j, j < n → okn (A i j)) (hq : ScOk on A m n q) : (∀ i, i < 5 → Bc 1 1095 (q.1 i)) ∧ ∀ j, j < 8 → Bc 1 1105 (q.2 j) ∧ 2 ^ 1064 ≤ mz (q.2 j) ∧ sg (q.2 j) = false := by
  refine ⟨fun i hi => ?_, fun j hj => ?_⟩
  · rw [hq.1 i hi]
    split
    · next c => exact tR_bc (h i c)
    · exact b_1.k (by decide)
  · rw [hq.2 j hj]
    split
    · next c =>
      refine ⟨(tV_bc h c).1, (tV_bc h c).2, ?_⟩
      obtain ⟨e, h30, h71, hp, -⟩ := tV_p (on := on) h c
      rw [hp]
      exact sg_p2 e (by omega)
    · refine ⟨b_1.k (by decide), ?_, by decide +kernel⟩
      rw [m1]
      exact Nat.pow_le_pow_right (by decide) (by decide)
theorem e_applied {m n : Nat} {on : Int32} {A : (Nat → Nat → UInt64)} {b c : (Nat → UInt64)} {q : (Nat → UInt64) × (Nat → UInt64)} {R2 V2 : Int32} {a2 : (Nat → Nat → UInt64)} {b2 c2 : (Nat → UInt64)} (hP : Prob m n A b c) (hq : ScOk on A m n q) : ∃ A2 B2 C2, s_Sc_apply q.1 q.2 (nI m) (nI n) A b c R2 V2 a2 b2 c2 = some (nI m, nI n, A2, B2, C2) ∧ (∀ i, i < m → ∀ j, j < n → A2 i j = sA on A m n i j) ∧ (∀ i, i < m → B2 i = sB on A b n i) ∧ ∀ j, j < n → C2 j = sC on A c m n j := by
  obtain ⟨m1', m5, n1', n8, hA, hb, hc⟩ := hP
  have r1 : ∀ i, i < m → q.1 i = tR on A n i := fun i hi => by rw [hq.1 i (by omega), if_pos hi]
  have v1 : ∀ j, j < n → q.2 j = tV on A m n j := fun j hj => by rw [hq.2 j (by omega), if_pos hj]
  refine ⟨_, _, _, e_apply m5 n8 (fun i hi j hj => ?_) (fun i hi j hj => ?_) (fun i hi => ?_) (fun j hj => ?_), fun i hi j hj => ?_, fun i hi => ?_, fun j hj => ?_⟩
  · rw [r1 i hi]
    exact (rA_ok (hA i hi) hj).1.isn
  · rw [r1 i hi, v1 j hj]
    exact (sA_bc hA hi hj).isn
  · rw [r1 i hi]
    exact (sB_bc (hA i hi) (hb i hi)).isn
  · rw [v1 j hj]
    exact (sC_bc hA hj (hc j hj)).isn
  · rw [wr_in hi, wr_in hj, r1 i hi, v1 j hj]
    rfl
  · rw [wr_in hi, r1 i hi]
    rfl
  · rw [wr_in hj, v1 j hj]
    rfl
theorem e_measured {m n : Nat} {A : (Nat → Nat → UInt64)} {b c : (Nat → UInt64)} {r0 v0 : (Nat → UInt64)} {on : Int32} (hP : Prob m n A b c) : Ok (s_Sc_measure r0 v0 (nI m) (nI n) A on) (fun q => ScOk on A m n q) := e_measure hP.2.1 hP.2.2.2.1 hP.2.2.2.2.1
theorem e_unscaled {m n : Nat} {on : Int32} {A : (Nat → Nat → UInt64)} {q : (Nat → UInt64) × (Nat → UInt64)} {x s y x2 s2 y2 : (Nat → UInt64)} (hA : ∀ i, i < m → ∀ j, j < n → okn (A i j)) (hm : m ≤ 5) (hn : n ≤ 8) (hq : ScOk on A m n q) (hx : ∀ j, j < 8 → Bc 1 1927 (x j) ∧ Bc 1 1856 (s j)) (hy : ∀ i, i < 5 → Bc 1 1842 (y i)) :
    Ok (s_Sc_unscale q.1 q.2 x s y x2 s2 y2) (fun r => ((∀ j, j < n → r.1 j = FP.dmul (tV on A m n j) (x j)) ∧ (∀ j, j < n → r.2.1 j = FP.ddiv (s j) (tV on A m n j)) ∧ ∀ i, i < m → r.2.2 i = FP.dmul (tR on A n i) (y i)) ∧ (∀ j, j < n → Bc 1 1958 (r.1 j) ∧ Bc 1 1958 (r.2.1 j)) ∧ ∀ i, i < m → Bc 1 1900 (r.2.2 i)) := by
  obtain ⟨sr, sv⟩ := sc_bc hA hq
  have b1 : ∀ j, j < 8 → Bc 1 1958 (FP.dmul (q.2 j) (x j)) := fun j hj => mul_bc (sv j hj).1 (hx j hj).1 (by decide) (by decide)
  have b2 : ∀ j, j < 8 → Bc 1 1866 (FP.ddiv (s j) (q.2 j)) := fun j hj => div_bc (hx j hj).2 (sv j hj).1.fin (sv j hj).2.1 (by decide) (by decide)
  have b3 : ∀ i, i < 5 → Bc 1 1863 (FP.dmul (q.1 i) (y i)) := fun i hi => mul_bc (sr i hi) (hy i hi) (by decide) (by decide)
  have r1 : ∀ i, i < m → q.1 i = tR on A n i := fun i hi => by rw [hq.1 i (by omega), if_pos hi]
  have v1 : ∀ j, j < n → q.2 j = tV on A m n j := fun j hj => by rw [hq.2 j (by omega), if_pos hj]
  refine Ok.of (e_unscale (fun j hj => (b1 j hj).isn) (fun j hj => (b2 j hj).isn) (fun i hi => (b3 i hi).isn)) ⟨⟨fun j hj => ?_, fun j hj => ?_, fun i hi => ?_⟩, fun j hj => ⟨?_, ?_⟩, fun i hi => ?_⟩ <;> dsimp only
  · rw [wr_in (show j < 8 by omega), v1 j hj]
  · rw [wr_in (show j < 8 by omega), v1 j hj]
  · rw [wr_in (show i < 5 by omega), r1 i hi]
  · rw [wr_in (show j < 8 by omega)]
    exact b1 j (by omega)
  · rw [wr_in (show j < 8 by omega)]
    exact (b2 j (by omega)).k (by decide)
  · rw [wr_in (show i < 5 by omega)]
    exact (b3 i (by omega)).k (by decide)
/-! scale -/
def ScPost (u : Int32 × (Nat → UInt64) × (Nat → UInt64) × (Nat → UInt64)) (w : UInt64 × Int32 × (Nat → UInt64) × (Nat → UInt64)) : Prop := w.2.1 = u.1 ∧ (u.1 = 0 → Op.cmpValue (FP.dcmp (u.2.2.2 0) w.1) .l = 0)
theorem j_scale {M N : Nat} {a : (Nat → Nat → UInt64)} {b c ma mb mc o r0 v0 mr mv' : (Nat → UInt64)} (sc pt ef fa : Int32) (vl vw ve vt va v2 vnm vnn : Int32) (vnu : UInt64) (vb : Int32) (x1 x2 : Int32) (hI : IP M N a b c ma mb mc) :
    Ok (s_L_scale 1 sc pt ef fa (nI M) (nI N) a r0 v0 o x1 x2) (fun u => Ok (s_M_scale (nI M) (nI N) vl vw ve vt va sc pt v2 vnm vnn vnu vb ma mr mv' x1 x2) (fun w => ScPost u w)) := by
  obtain ⟨h1', h2', h3', h4', hA, -⟩ := id hI.1
  have J : ∀ k : Int32, ¬ k ≤ 0 → s_M_scale_J44 (nI M) (nI N) vl vw ve vt va sc pt v2 vnm vnn vnu vb ma mr mv' x1 x2 k = some (FP.dconst0, k, mr, mv') := fun k hk => by
    unfold s_M_scale_J44
    rw [if_neg hk]
  obtain ⟨q, eq, hq⟩ := e_measured (r0 := r0) (v0 := v0) (on := sc) hI.1
  obtain ⟨w, ew, hw1, hw2⟩ := e_mscales (A := a) (ma := ma) (r0 := mr) (v0 := mv') (on := sc) vl vw ve 0 va pt v2 vnm vnn vnu vb h2' h4' (fun i hi j hj => (hI.2.1 i (by omega) j (by omega)).1) hA
  unfold s_L_scale s_C_scale s_M_scale
  rw [e_in]
  have bad : Ok (some (1, r0, v0, o) : Option (Int32 × (Nat → UInt64) × (Nat → UInt64) × (Nat → UInt64))) (fun u => Ok (s_M_scale_J44 (nI M) (nI N) vl vw ve vt va sc pt v2 vnm vnn vnu vb ma mr mv' x1 x2 1) (fun w => ScPost u w)) := by
    rw [J 1 (by decide)]
    exact Ok.mk (Ok.mk ⟨rfl, fun q => absurd q i32_10⟩)
  have badi : Ok (some (2, r0, v0, o) : Option (Int32 × (Nat → UInt64) × (Nat → UInt64) × (Nat → UInt64))) (fun u => Ok (s_M_scale_J44 (nI M) (nI N) vl vw ve vt va sc pt v2 vnm vnn vnu vb ma mr mv' x1 x2 2) (fun w => ScPost u w)) := by
    rw [J 2 (by decide)]
    exact Ok.mk (Ok.mk ⟨rfl, fun q => absurd q i32_123.2.1⟩)
  by_cases h1 : x1 < 0
  · simp only [h1, ↓reduceIte, Option.bind_some, Sum.elim_inl, true_or]
    exact bad
  · by_cases h2 : x1 ≤ 1
    · have h2a : ¬ 1 < x1 := fun q => lt_nlt q h2
      simp only [h1, h2, h2a, or_self, ↓reduceIte, Option.bind_some, i32_10]
      obtain ⟨k, hk, rfl⟩ := nI_of2 (x := x1) (M := 1) (n := 1) rfl h1 h2
      match k, hk with
      | 0, _ =>
        simp only [show nI 0 = 0 from rfl, ↓reduceIte, s_C_scale_J41, s_M_scale_J31, e_reqIndex, e_minx h1' (show M < 2 ^ 31 by omega), Option.bind_some] at badi ⊢
        by_cases c2 : 0 ≤ x2 ∧ x2 < nI M
        · obtain ⟨i, hi, rfl⟩ := idx (by omega) c2
          have e1 : q.1 i = tR sc a N i := by rw [hq.1 i (by omega), if_pos hi]
          simp only [c2, and_self, ↓reduceIte, Sum.elim_inr, i32_10, eq, Option.bind_some]
          simp +decide (disch := omega) only [s_M_scale_J44, ↓reduceIte, ew, Option.bind_some, inb_nI, gd_t, nI_clamp, e1, hw1 i hi, Sum.elim_inr, inb01, cl0]
          refine Ok.mk (Ok.mk ⟨rfl, fun _ => ?_⟩)
          dsimp only
          rw [upd_at]
          exact dcmp_self (tR_bc (hA i hi)).nn
        · simp +decide only [c2, ↓reduceIte, Sum.elim_inl]
          exact badi
      | 1, _ =>
        simp +decide only [show nI 1 = 1 from rfl, ↓reduceIte, s_C_scale_J41, s_M_scale_J31, e_reqIndex, e_minx h3' (show N < 2 ^ 31 by omega), Option.bind_some] at badi ⊢
        by_cases c2 : 0 ≤ x2 ∧ x2 < nI N
        · obtain ⟨j, hj, rfl⟩ := idx (by omega) c2
          have e1 : q.2 j = tV sc a M N j := by rw [hq.2 j (by omega), if_pos hj]
          simp only [c2, and_self, ↓reduceIte, Sum.elim_inr, i32_10, eq, Option.bind_some]
          simp +decide (disch := omega) only [s_M_scale_J44, ↓reduceIte, ew, Option.bind_some, inb_nI, gd_t, nI_clamp, e1, hw2 j hj, Sum.elim_inr, inb01, cl0]
          refine Ok.mk (Ok.mk ⟨rfl, fun _ => ?_⟩)
          dsimp only
          rw [upd_at]
          exact dcmp_self (tV_bc hA hj).1.nn
        · simp +decide only [c2, ↓reduceIte, Sum.elim_inl]
          exact badi
    · have h2' : 1 < x1 := nle_lt h2
      simp only [h1, h2, h2', ↓reduceIte, Option.bind_some, Sum.elim_inl, or_true]
      exact bad
