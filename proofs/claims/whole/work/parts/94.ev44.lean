/-! read -/
theorem e_mcopy {m n : Nat} {a b c na nb nc : (Nat → UInt64)} {tx : Nat → Int32} (vl vw ve vt va vs vo v2 vnm vnn : Int32) (vnu : UInt64) (vb x1 : Int32) (hm : m ≤ 5) (hn : n ≤ 8) : s_M_read_L82 (nI m) (nI n) vl vw ve vt va vs vo v2 vnm vnn vnu vb a b c tx na nb nc x1 0 = some (x1, nI m, nI n, 0, vw, vt, va, vo, vnm, vnn, vnu, vb, wr 40 na a, wr m nb b, wr n nc c, na, nb, nc) := by
  unfold s_M_read_L82
  refine loop_b 40 (fun k => (wr k na a, nI k)) (wr 40 na a) (by rw [wr_0]; rfl) (by omega) (fun k hk => ?_) ?_ ?_
  · simp (disch := omega) only [↓ite_le_t, ↓ite_le_f, ↓ite_lt_t, ↓ite_lt_f, li5, li8, nI_leI, nI_ltI, nI_eqI, if_pos, if_neg, ↓reduceIte, inb_nI, gd_t, nI_clamp, Option.bind_some, nI_1, isb_0, isb_1, lit13, lit14, lit40, nI_mul, nI_add, s_M_read_B82, wr_s]
  · simp (disch := omega) only [s_M_read_B82, lit40, ↓reduceIte, Int32.le_refl]
  · unfold s_M_read_L108
    refine loop_b m (fun k => (wr k nb b, nI k)) (wr m nb b) (by rw [wr_0]; rfl) (by omega) (fun k hk => ?_) ?_ ?_
    · simp (disch := omega) only [↓ite_le_t, ↓ite_le_f, ↓ite_lt_t, ↓ite_lt_f, li5, li8, nI_leI, nI_ltI, nI_eqI, if_pos, if_neg, ↓reduceIte, inb_nI, gd_t, nI_clamp, Option.bind_some, nI_1, isb_0, isb_1, lit13, lit14, lit40, nI_mul, nI_add, s_M_read_B108, wr_s]
    · simp (disch := omega) only [↓ite_le_t, ↓ite_le_f, ↓ite_lt_t, ↓ite_lt_f, li5, li8, nI_leI, nI_ltI, nI_eqI, if_pos, if_neg, ↓reduceIte, inb_nI, gd_t, nI_clamp, Option.bind_some, nI_1, isb_0, isb_1, lit13, lit14, lit40, nI_mul, nI_add, s_M_read_B108]
    · unfold s_M_read_L136
      refine loop_b n (fun k => (wr k nc c, nI k)) (wr n nc c) (by rw [wr_0]; rfl) (by omega) (fun k hk => ?_) ?_ rfl
      · simp (disch := omega) only [↓ite_le_t, ↓ite_le_f, ↓ite_lt_t, ↓ite_lt_f, li5, li8, nI_leI, nI_ltI, nI_eqI, if_pos, if_neg, ↓reduceIte, inb_nI, gd_t, nI_clamp, Option.bind_some, nI_1, isb_0, isb_1, lit13, lit14, lit40, nI_mul, nI_add, s_M_read_B136, wr_s]
      · simp (disch := omega) only [↓ite_le_t, ↓ite_le_f, ↓ite_lt_t, ↓ite_lt_f, li5, li8, nI_leI, nI_ltI, nI_eqI, if_pos, if_neg, ↓reduceIte, inb_nI, gd_t, nI_clamp, Option.bind_some, nI_1, isb_0, isb_1, lit13, lit14, lit40, nI_mul, nI_add, s_M_read_B136]
def RdPost (M N L : Nat) (pt : Int32) (u : Int32 × Int32 × Int32 × Int32 × Int32 × (Nat → Nat → UInt64) × (Nat → UInt64) × (Nat → UInt64) × Int32 × Int32 × Int32 × Int32 × UInt64 × Int32 × Int32 × Int32 × Int32 × (Nat → Nat → UInt64) × (Nat → UInt64) × (Nat → UInt64) × (Nat → Int64)) (w : Int32 × Int32 × Int32 × Int32 × Int32 × Int32 × Int32 × Int32 × Int32 × Int32 × UInt64 × Int32 × (Nat → UInt64) × (Nat → UInt64) × (Nat → UInt64) × (Nat → UInt64) × (Nat → UInt64) × (Nat → UInt64)) : Prop :=
  w.2.2.2.2.2.1 = u.1 ∧ (u.1 = 0 → lg_cmp (u.2.2.2.2.2.2.2.2.2.2.2.2.2.2.2.2.2.2.2.2 0) w.1.toInt64 = 0) ∧ w.2.2.2.2.1 = u.2.2.1 ∧ w.2.2.2.2.2.2.2.1 = u.2.1 ∧ ∃ M' N' L', u.2.2.2.1 = nI M' ∧ u.2.2.2.2.1 = nI N' ∧ w.2.1 = nI M' ∧ w.2.2.1 = nI N' ∧ u.2.2.2.2.2.2.2.2.1 = nI L' ∧ w.2.2.2.1 = nI L' ∧ L' ≤ L ∧ IP M' N' u.2.2.2.2.2.1 u.2.2.2.2.2.2.1 u.2.2.2.2.2.2.2.1 w.2.2.2.2.2.2.2.2.2.2.2.2.1 w.2.2.2.2.2.2.2.2.2.2.2.2.2.1 w.2.2.2.2.2.2.2.2.2.2.2.2.2.2.1 ∧ (u.2.1 = 0 ∨ (u.2.1 = pt ∧ M' = M ∧ N' = N))
theorem ip_read {M N : Nat} {a fa' : (Nat → Nat → UInt64)} {b c ma mb mc na' fb fc nb nc vb vc : (Nat → UInt64)} (h1 : 1 ≤ M) (h2 : M ≤ 5) (h3 : 1 ≤ N) (h4 : N ≤ 8) (ha : AR M N fa' na') (hb : ∀ i, i < M → okn (vb i)) (hc : ∀ j, j < N → okn (vc j)) (e1 : ∀ i, i < M → fb i = vb i) (e2 : ∀ j, j < N → fc j = vc j) (e3 : ∀ i, i < M → nb i = vb i) (e4 : ∀ j, j < N → nc j = vc j) : IP M N (wr 5 (fun i => wr 8 (fa' i) (a i)) a) (wr 5 fb b) (wr 8 fc c) (wr 40 na' ma) (wr M nb mb) (wr N nc mc) := by
  have f1 : ∀ i, i < 5 → ∀ j, j < 8 → wr 5 (fun i => wr 8 (fa' i) (a i)) a i j = fa' i j := fun i hi j hj => by rw [wr_in hi, wr_in hj]
  refine ⟨⟨h1, h2, h3, h4, fun i hi j hj => ?_, fun i hi => ?_, fun j hj => ?_⟩, fun i hi j hj => ?_, fun i hi => ?_, fun j hj => ?_⟩
  · rw [f1 i (by omega) j (by omega)]
    exact (ha i (by omega) j (by omega)).2.1
  · rw [wr_in (by omega), e1 i hi]
    exact hb i hi
  · rw [wr_in (by omega), e2 j hj]
    exact hc j hj
  · rw [f1 i hi j hj, wr_in (by omega)]
    exact ⟨(ha i hi j hj).1, (ha i hi j hj).2.2⟩
  · rw [wr_in hi, wr_in (by omega), e1 i hi, e3 i hi]
  · rw [wr_in hj, wr_in (by omega), e2 j hj, e4 j hj]
theorem i32_m2 : ¬ (0 : Int32) = 1 := by decide
theorem j_read {M N L : Nat} {a fa : (Nat → Nat → UInt64)} {b c fb fc ma mb mc na nb nc : (Nat → UInt64)} {ch tx : Nat → Int32} {o : Nat → Int64} (sc pt ef fal ra rf rd : Int32) (rv : UInt64) (rn rfa fr fv : Int32) (vw ve vt va vs v2 vnm vnn : Int32) (vnu : UInt64) (vb : Int32) (hL : L ≤ 300) (htx : ∀ p, p < L → tx p = ch p) (hI : IP M N a b c ma mb mc) :
    Ok (s_L_read 1 sc pt ef fal (nI M) (nI N) a b c (nI L) ra rf rd rv rn rfa ch fr fv fa fb fc o) (fun u => Ok (s_M_read (nI M) (nI N) (nI L) vw ve vt va vs pt v2 vnm vnn vnu vb ma mb mc tx na nb nc) (fun w => RdPost M N L pt u w)) := by
  have RL : ∀ Q : _ → Prop, Ok ((s_M_readAll (nI M) (nI N) (nI L) (-2) ve vt 0 vs pt v2 vnm vnn vnu 0 tx (wr 40 (fun _ => FP.dconst0) na) nb nc).bind fun u15 => if u15.2.2.2.2.2.2.1 = 0 then (s_M_read_J55 (nI M) (nI N) (nI L) u15.2.1 ve vt u15.2.2.1 vs pt v2 u15.2.2.2.1 u15.2.2.2.2.1 u15.2.2.2.2.2.1 u15.2.2.2.2.2.2.1 ma mb mc tx u15.2.2.2.2.2.2.2.1 u15.2.2.2.2.2.2.2.2.1 u15.2.2.2.2.2.2.2.2.2 u15.1 0) else (s_M_read_J55 (nI M) (nI N) (nI L) u15.2.1 ve vt u15.2.2.1 vs pt v2 u15.2.2.2.1 u15.2.2.2.2.1 u15.2.2.2.2.2.1 u15.2.2.2.2.2.2.1 ma mb mc tx u15.2.2.2.2.2.2.2.1 u15.2.2.2.2.2.2.2.2.1 u15.2.2.2.2.2.2.2.2.2 u15.1 1)) Q → Ok (s_M_read (nI M) (nI N) (nI L) vw ve vt va vs pt v2 vnm vnn vnu vb ma mb mc tx na nb nc) Q := by
    intro Q h
    unfold s_M_read s_M_read_L18
    rw [isb_0, gd_t]
    refine Ok.bind (P := fun v => v = wr 40 (fun _ => FP.dconst0) na) ?_ ?_
    · refine loop_ok 40 (fun k => (wr k (fun _ => FP.dconst0) na, nI k)) _ (by rw [wr_0]; rfl) (by omega) (fun k hk => ?_) ?_
      · simp (disch := omega) only [↓ite_le_t, ↓ite_le_f, ↓ite_lt_t, ↓ite_lt_f, li5, li8, nI_leI, nI_ltI, nI_eqI, if_pos, if_neg, ↓reduceIte, inb_nI, gd_t, nI_clamp, Option.bind_some, nI_1, isb_0, isb_1, lit13, lit14, lit40, nI_mul, nI_add, s_M_read_B18, wr_s (F := fun _ => FP.dconst0)]
      · simp (disch := omega) only [s_M_read_B18, lit40, ↓reduceIte, Int32.le_refl]
    · rintro _ rfl
      exact h
  unfold s_L_read s_C_read
  rcases j_parse hL htx with ⟨q, hq, c', r⟩ | ⟨M', N', cc, wb, wc, h1, h2, h3, h4, hb, hc, hh⟩
  · obtain ⟨x, ex, x1, x2⟩ := c' ra rf rd rv rn rfa fr fv fa fb fc
    rw [ex]
    simp only [Option.bind_some, x1, ↓reduceIte, Sum.elim_inl]
    refine Ok.mk (RL _ ?_)
    refine Ok.bind (r M N (-2) ve vt vs pt v2 vnm vnn vnu _ nb nc) ?_
    rintro w ⟨w1, w2⟩
    rw [if_neg (by rw [w2]; exact i32_10), w1, w2]
    unfold s_M_read_J55
    rw [if_neg i32_10]
    exact Ok.mk ⟨rfl, fun h => absurd h i32_10, x2.symm, rfl, M, N, L, rfl, rfl, rfl, rfl, rfl, rfl, Nat.le_refl _, hI, Or.inr ⟨rfl, rfl, rfl⟩⟩
  · obtain ⟨fa', na', ha', c', r⟩ := hh fa (wr 40 (fun _ => FP.dconst0) na) (fun k hk => wr_in hk)
    obtain ⟨x, ex, x1, x2, x3, x4, x5, x6, x7, x8⟩ := c' ra rf rd rv rn rfa fr fv fb fc
    rw [ex]
    simp only [Option.bind_some, x1, if_neg i32_10, e_copy, isb_0, gd_t, Sum.elim_inr, inb01, cl0, x2, x4, x5, x6]
    refine Ok.mk (RL _ ?_)
    refine Ok.bind (r M N (-2) ve vt vs pt v2 vnm vnn vnu nb nc) ?_
    rintro w ⟨w1, w2, w3, w4, w5, w6, w7, w8⟩
    rw [if_pos w5, w1, w2, w3, w4, w5, w6]
    unfold s_M_read_J55
    have g1 : ¬ nI M' < 1 := nI_nlt (b := 1) h1 (by omega)
    have g2 : ¬ (5 : Int32) < nI M' := nI_nlt (a := 5) h2 (by omega)
    have g3 : ¬ nI N' < 1 := nI_nlt (b := 1) h3 (by omega)
    have g4 : ¬ (8 : Int32) < nI N' := nI_nlt (a := 8) h4 (by omega)
    rw [if_pos rfl, e_mbegin _ _ _ _ _ _ _ _ _ _ _ _ _ _ _ _ g1 g2 g3 g4]
    simp only [Option.bind_some]
    rw [e_mcopy _ _ _ _ _ _ _ _ _ _ _ _ _ h2 h4]
    refine Ok.mk ⟨rfl, fun _ => ?_, rfl, rfl, M', N', 0, rfl, rfl, rfl, rfl, rfl, rfl, Nat.zero_le _, ip_read h1 h2 h3 h4 ha' hb hc x7 x8 w7 w8, Or.inl rfl⟩
    dsimp only
    rw [updL_at]
    exact lg_self _
