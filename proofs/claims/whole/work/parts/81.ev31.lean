/-! certifies, count, scale -/
def LPost (u : Int32 × (Nat → Int64)) (w : Int32 × Int32) : Prop := w.2 = u.1 ∧ (u.1 = 0 → lg_cmp (u.2 0) w.1.toInt64 = 0)
def CPost (u : Int32 × (Nat → Int64)) (w : Int32 × Int32) : Prop := w.2 = u.1 ∧ (w.1 = 0 ∨ w.1 = 1) ∧ (u.1 = 0 → u.2 0 = w.1.toInt64)
theorem i64_01 : (0 : Int32).toInt64 = 0 ∧ (1 : Int32).toInt64 = 1 := by decide
theorem isb_of {r : Int32} (h : r = 0 ∨ r = 1) : isb r = true := decide_eq_true h
theorem cpost {o : Nat → Int64} {r : Int32} (h : r = 0 ∨ r = 1) : Ok (if r = 0 then (gd (inb 0 1) <| some (0, vp_updL o (0 : Int32).toNatClampNeg 0)) else (gd (inb 0 1) <| some (0, vp_updL o (0 : Int32).toNatClampNeg 1)) : Option (Int32 × (Nat → Int64))) (fun u => CPost u (r, 0)) := by
  rcases h with rfl | rfl
  · rw [if_pos rfl, inb01]
    refine Ok.mk ⟨rfl, Or.inl rfl, fun _ => ?_⟩
    dsimp only
    rw [i64_01.1, cl0, updL_at]
  · rw [if_neg i32_10, inb01]
    refine Ok.mk ⟨rfl, Or.inr rfl, fun _ => ?_⟩
    dsimp only
    rw [i64_01.2, cl0, updL_at]
theorem same01 {P : Prop} {r r' : Int32} (h : (r = 1 ∧ P) ∨ (r = 0 ∧ ¬ P)) (h' : (r' = 1 ∧ P) ∨ (r' = 0 ∧ ¬ P)) : r = r' ∧ (r = 0 ∨ r = 1) := by
  rcases h with ⟨rfl, h⟩ | ⟨rfl, h⟩ <;> rcases h' with ⟨rfl, g⟩ | ⟨rfl, g⟩
  · exact ⟨rfl, Or.inr rfl⟩
  · exact absurd h g
  · exact absurd g h
  · exact ⟨rfl, Or.inl rfl⟩
theorem e_msol {m n : Nat} {a : (Nat → Nat → UInt64)} {b c x s y ma mb mc mx ms my : (Nat → UInt64)} {e : UInt64} (vl vw ve va vs vo v2 vnm vnn : Int32) (vnu : UInt64) (vb : Int32) (hM : m ≤ 5) (hN : n ≤ 8) (he : nnan e) (h : PtOk m n a b c x s y) (q : MX m n a b c x s y ma mb mc mx ms my) : Ok (s_M_certifies_J38 (nI m) (nI n) vl vw ve 0 va vs vo v2 vnm vnn vnu vb ma mb mc mx ms my 0 e 0) (fun r => r.2 = 0 ∧ ((r.1 = 1 ∧ cS m n a b c x s y e) ∨ (r.1 = 0 ∧ ¬ cS m n a b c x s y e))) := by
  have g0 := e_far0 vl vw ve 0 va vs vo v2 vnm vnn vnu vb hM hN h q
  have g1 := e_far1 vl vw ve 0 va vs vo v2 vnm vnn vnu vb hM hN h q
  have g2 := e_far2 vl vw ve 0 va vs vo v2 vnm vnn vnu vb hM hN h q
  have g3 := e_far3 vl vw ve 0 va vs vo v2 vnm vnn vnu vb hM hN h q
  obtain ⟨n0, n1, n3, n2⟩ := ptOk_nn h
  unfold s_M_certifies_J38 s_M_certifies_J128 cS
  simp +decide only [↓reduceIte, g0, g1, g2, g3, Option.bind_some, cv_gt n0 he, cv_gt n1 he, cv_gt n3 he, cv_gt n2 he, cv_lt n2 (nn_neg.mpr he), isb_0, isb_1, gd_t]
  by_cases c0 : zv e < zv (pg m n a b x)
  · rw [if_pos c0]; exact Ok.mk ⟨rfl, Or.inr ⟨rfl, fun q => q.1 c0⟩⟩
  · rw [if_neg c0]
    by_cases c1 : zv e < zv (dg m n a c s y)
    · rw [if_pos c1]; exact Ok.mk ⟨rfl, Or.inr ⟨rfl, fun q => q.2.1 c1⟩⟩
    · rw [if_neg c1]
      by_cases c3 : zv e < zv (dpR x s n FP.dconst0)
      · rw [if_pos c3]; exact Ok.mk ⟨rfl, Or.inr ⟨rfl, fun q => q.2.2.1 c3⟩⟩
      · rw [if_neg c3]
        by_cases c2 : zv e < zv (tG x s n)
        · rw [if_pos c2]; exact Ok.mk ⟨rfl, Or.inr ⟨rfl, fun q => q.2.2.2.1 c2⟩⟩
        · rw [if_neg c2]
          by_cases c4 : zv (tG x s n) < zv (FP.dneg e)
          · rw [if_pos c4]; exact Ok.mk ⟨rfl, Or.inr ⟨rfl, fun q => q.2.2.2.2 c4⟩⟩
          · rw [if_neg c4]; exact Ok.mk ⟨rfl, Or.inl ⟨rfl, c0, c1, c3, c2, c4⟩⟩
theorem j_certifies {M N : Nat} {a : (Nat → Nat → UInt64)} {b c x s y ma mb mc mx ms my : (Nat → UInt64)} {o : Nat → Int64} (sc pt ef fa : Int32) (vl vw ve vt va vs v2 vnm vnn : Int32) (vnu : UInt64) (vb : Int32) (x1 : Int32) (e : UInt64) (he : nnan e) (hpt : pt = 0 ∨ pt = 1) (hI : IP M N a b c ma mb mc) (hX : pt = 1 → IX M N x s y mx ms my) :
    Ok (s_L_certifies 1 sc pt ef fa (nI M) (nI N) a b c x s y o x1 e) (fun u => Ok (s_M_certifies (nI M) (nI N) vl vw ve vt va vs pt v2 vnm vnn vnu vb ma mb mc mx ms my x1 e) (fun w => CPost u w)) := by
  obtain ⟨h1', h2', h3', h4', -⟩ := hI.1
  have J : ∀ k : Int32, ¬ k ≤ 0 → s_M_certifies_J38 (nI M) (nI N) vl vw ve vt va vs pt v2 vnm vnn vnu vb ma mb mc mx ms my x1 e k = some (0, k) := fun k hk => by
    unfold s_M_certifies_J38
    rw [if_neg hk]
    rfl
  have bad : Ok (some (1, o) : Option (Int32 × (Nat → Int64))) (fun u => Ok (s_M_certifies_J22 (nI M) (nI N) vl vw ve vt va vs pt v2 vnm vnn vnu vb ma mb mc mx ms my x1 e) (fun w => CPost u w)) := by
    unfold s_M_certifies_J22
    rw [J 1 (by decide)]
    exact Ok.mk (Ok.mk ⟨rfl, Or.inl rfl, fun q => absurd q i32_10⟩)
  unfold s_L_certifies s_C_certifies s_M_certifies s_C_requireTold
  rw [e_in]
  simp only [cv_lt he nn_0, cv_le he nn_1]
  by_cases h1 : x1 < 0
  · simp only [h1, ↓reduceIte, Option.bind_some, Sum.elim_inl, true_or]
    exact bad
  · by_cases h2 : x1 ≤ 2
    · have h2a : ¬ 2 < x1 := fun q => lt_nlt q h2
      by_cases c1 : zv e < zv FP.dconst0
      · simp only [h1, h2, h2a, c1, or_self, ↓reduceIte, Option.bind_some, Sum.elim_inl, i32_10]
        exact bad
      · by_cases c2 : zv e ≤ zv FP.dconst1
        · by_cases hp : pt = 0
          · simp only [h1, h2, h2a, c1, c2, hp, or_self, ↓reduceIte, Option.bind_some, Sum.elim_inl, i32_10]
            subst hp
            simp +decide only [J 2 (by decide), ↓reduceIte]
            exact Ok.mk (Ok.mk ⟨rfl, Or.inl rfl, fun q => absurd q i32_123.2.1⟩)
          · have hp1 := pt1 hpt hp
            subst hp1
            have hx := hX rfl
            have po := ptOk_of hI.1 hx.1
            have mx' := mx_of hI hx
            simp only [h1, h2, h2a, c1, c2, or_self, ↓reduceIte, Option.bind_some, Sum.elim_inr, i32_10]
            have fin : ∀ r : Int32, (r = 0 ∨ r = 1) → ∀ (W : Option (Int32 × Int32)), W = some (r, 0) → Ok (if r = 0 then (gd (inb 0 1) <| some (0, vp_updL o (0 : Int32).toNatClampNeg 0)) else (gd (inb 0 1) <| some (0, vp_updL o (0 : Int32).toNatClampNeg 1)) : Option (Int32 × (Nat → Int64))) (fun u => Ok W (fun w => CPost u w)) := fun r hr W hW => (cpost hr).imp fun u hu => Ok.of hW hu
            rcases what3 h1 h2 with rfl | rfl | rfl
            · obtain ⟨r, er, hr⟩ := e_isSolution sc 1 ef fa h2' h4' he po
              obtain ⟨⟨r2, q2⟩, er2, hq, hr2⟩ := e_msol vl vw ve va vs 1 v2 vnm vnn vnu vb h2' h4' he po mx'
              obtain ⟨e1, e2⟩ := same01 hr hr2
              have hq : q2 = 0 := hq
              have e1 : r = r2 := e1
              subst e1 hq
              have er2' : s_M_certifies_J38 (nI M) (nI N) vl vw ve vt va vs 1 v2 vnm vnn vnu vb ma mb mc mx ms my 0 e 0 = some (r, 0) := er2
              simp only [↓reduceIte, er, Option.bind_some, isb_of e2, gd_t, Sum.elim_inr]
              exact fin r e2 _ er2'
            · obtain ⟨r, er, hr⟩ := e_showsNoSolution sc 1 ef fa h2' h4' he po
              obtain ⟨r2, er2, hr2⟩ := e_isNone vl vw ve 0 va vs 1 v2 vnm vnn vnu vb h2' h4' he po mx'
              obtain ⟨e1, e2⟩ := same01 hr hr2
              subst e1
              simp +decide only [↓reduceIte, er, Option.bind_some, isb_of e2, gd_t, Sum.elim_inr, s_M_certifies_J38, er2]
              exact fin r e2 _ rfl
            · obtain ⟨r, er, hr⟩ := e_showsNoLeast sc 1 ef fa h2' h4' he po
              obtain ⟨r2, er2, hr2⟩ := e_isRay vl vw ve 0 va vs 1 v2 vnm vnn vnu vb h2' h4' he po mx'
              obtain ⟨e1, e2⟩ := same01 hr hr2
              subst e1
              simp +decide only [↓reduceIte, er, Option.bind_some, isb_of e2, gd_t, Sum.elim_inr, s_M_certifies_J38, er2]
              exact fin r e2 _ rfl
        · simp only [h1, h2, h2a, c1, c2, or_self, ↓reduceIte, Option.bind_some, Sum.elim_inl, i32_10]
          exact bad
    · have h2' : 2 < x1 := nle_lt h2
      simp only [h1, h2, h2', ↓reduceIte, Option.bind_some, Sum.elim_inl, or_true]
      exact bad
/-! count -/
def nzN (v : UInt64) : Nat := if zv v = 0 then 0 else 1
def sumN (f : Nat → Nat) (n : Nat) : Nat := fd (fun k a => a + f k) n 0
theorem sumN_s (f : Nat → Nat) (n : Nat) : sumN f (n + 1) = sumN f n + f n := rfl
theorem sumN_congr {f g : Nat → Nat} {n : Nat} (h : ∀ k, k < n → f k = g k) : sumN f n = sumN g n := fd_congr (fun k hk a => by rw [h k hk])
theorem sumN_le {f : Nat → Nat} {n B : Nat} (h : ∀ k, k < n → f k ≤ B) : sumN f n ≤ B * n := by
  induction n with
  | zero => exact Nat.zero_le _
  | succ n ih =>
    have i := ih fun k hk => h k (by omega)
    have q := h n (by omega)
    rw [sumN_s, Nat.mul_succ]
    omega
theorem sumN_ext {f : Nat → Nat} {n : Nat} : ∀ d, (∀ k, n ≤ k → k < n + d → f k = 0) → sumN f (n + d) = sumN f n := by
  intro d
  induction d with
  | zero => intro _; rfl
  | succ d ih =>
    intro h
    rw [show n + (d + 1) = n + d + 1 by omega, sumN_s, h (n + d) (by omega) (by omega), Nat.add_zero]
    exact ih fun k h1 h2 => h k h1 (by omega)
theorem sumN_add (f : Nat → Nat) (a : Nat) : ∀ d, sumN f (a + d) = sumN f a + sumN (fun j => f (a + j)) d := by
  intro d
  induction d with
  | zero => rfl
  | succ d ih =>
    rw [show a + (d + 1) = a + d + 1 by omega, sumN_s, ih, sumN_s, Nat.add_assoc]
theorem sum8 (f : Nat → Nat) : ∀ k, sumN f (8 * k) = sumN (fun i => sumN (fun j => f (8 * i + j)) 8) k := by
  intro k
  induction k with
  | zero => rfl
  | succ k ih =>
    rw [show 8 * (k + 1) = 8 * k + 8 by omega, sumN_add, ih]
    rfl
theorem sum40 (f : Nat → Nat) : sumN f 40 = sumN (fun i => sumN (fun j => f (8 * i + j)) 8) 5 := sum8 f 5
theorem nzN_le (v : UInt64) : nzN v ≤ 1 := by
  unfold nzN
  split <;> omega
theorem e_nonZeros {M N : Nat} {a : (Nat → Nat → UInt64)} (hM : M ≤ 5) (hN : N ≤ 8) (h : ∀ i, i < M → ∀ j, j < N → nnan (a i j)) : s_Pb_nonZeros (nI M) (nI N) a = some (nI (sumN (fun i => sumN (fun j => nzN (a i j)) N) M)) := by
  unfold s_Pb_nonZeros s_Pb_nonZeros_L4
  refine loop_b M (fun k => (nI (sumN (fun i => sumN (fun j => nzN (a i j)) N) k), nI k)) _ rfl (by omega) (fun i hi => ?_) ?_ rfl
  · simp (disch := omega) only [↓ite_le_t, ↓ite_le_f, ↓ite_lt_t, ↓ite_lt_f, li5, li8, nI_leI, nI_ltI, nI_eqI, if_pos, if_neg, ↓reduceIte, inb_nI, gd_t, nI_clamp, Option.bind_some, nI_1, isb_0, isb_1, lit13, lit14, lit40, nI_mul, nI_add, s_Pb_nonZeros_B4]
    unfold s_Pb_nonZeros_L14
    refine loop_b N (fun k => (nI (sumN (fun i => sumN (fun j => nzN (a i j)) N) i + sumN (fun j => nzN (a i j)) k), nI k)) (nI (sumN (fun i => sumN (fun j => nzN (a i j)) N) i + sumN (fun j => nzN (a i j)) N)) rfl (by omega) (fun j hj => ?_) ?_ ?_
    · have e1 := cv_eq (op := .l) (h i hi j hj) nn_0
      rw [zv_0] at e1
      rw [sumN_s]
      simp (disch := omega) only [↓ite_le_t, ↓ite_le_f, ↓ite_lt_t, ↓ite_lt_f, li5, li8, nI_leI, nI_ltI, nI_eqI, if_pos, if_neg, ↓reduceIte, inb_nI, gd_t, nI_clamp, Option.bind_some, nI_1, isb_0, isb_1, lit13, lit14, lit40, nI_mul, nI_add, s_Pb_nonZeros_B14, s_Pb_nonZeros_J41]
      by_cases c : zv (a i j) = 0
      · have e2 : nzN (a i j) = 0 := if_pos c
        rw [if_pos (e1.mpr c), e2, Int32.add_zero]
        rfl
      · have e2 : nzN (a i j) = 1 := if_neg c
        rw [if_neg (fun q => c (e1.mp q)), e2]
        rfl
    · simp (disch := omega) only [↓ite_le_t, ↓ite_le_f, ↓ite_lt_t, ↓ite_lt_f, s_Pb_nonZeros_B14]
    · simp (disch := omega) only [↓ite_le_t, ↓ite_le_f, ↓ite_lt_t, ↓ite_lt_f, li5, li8, nI_leI, nI_ltI, nI_eqI, if_pos, if_neg, ↓reduceIte, inb_nI, gd_t, nI_clamp, Option.bind_some, nI_1, isb_0, isb_1, lit13, lit14, lit40, nI_mul, nI_add]
      rfl
  · simp (disch := omega) only [↓ite_le_t, ↓ite_le_f, ↓ite_lt_t, ↓ite_lt_f, s_Pb_nonZeros_B4]
theorem e_mcount {m n : Nat} {ma : (Nat → UInt64)} (vl vw ve vt va vs vo v2 vnm vnn : Int32) (vnu : UInt64) (vb x1 : Int32) (h : ∀ k, k < 40 → nnan (ma k)) (Q : Option (Int32 × Int32)) (hQ : (if x1 = 0 then (some (nI m, vt)) else (if x1 = 1 then (some (nI n, vt)) else (if x1 = 2 then (some (vl, vt)) else (if x1 = 3 then (some (nI (sumN (fun k => nzN (ma k)) 40), vt)) else (if x1 = 4 then (if vs = 0 then (some (0, vt)) else (some (1, vt))) else (if vo = 0 then (some (0, vt)) else (some (1, vt)))))))) = Q) : s_M_count_L22 (nI m) (nI n) vl vw ve vt va vs vo v2 vnm vnn vnu vb ma x1 0 0 = Q := by
  unfold s_M_count_L22
  refine loop_b 40 (fun k => (nI (sumN (fun k => nzN (ma k)) k), nI k)) (nI (sumN (fun k => nzN (ma k)) 40)) rfl (by omega) (fun k hk => ?_) ?_ hQ
  · have e1 := cv_eq (op := .l) (h k hk) nn_0
    rw [zv_0] at e1
    rw [sumN_s]
    simp (disch := omega) only [↓ite_le_t, ↓ite_le_f, ↓ite_lt_t, ↓ite_lt_f, li5, li8, nI_leI, nI_ltI, nI_eqI, if_pos, if_neg, ↓reduceIte, inb_nI, gd_t, nI_clamp, Option.bind_some, nI_1, isb_0, isb_1, lit13, lit14, lit40, nI_mul, nI_add, s_M_count_B22, s_M_count_J42]
    by_cases c : zv (ma k) = 0
    · have e2 : nzN (ma k) = 0 := if_pos c
      rw [if_pos (e1.mpr c), e2]
      rfl
    · have e2 : nzN (ma k) = 1 := if_neg c
      rw [if_neg (fun q => c (e1.mp q)), e2]
  · simp (disch := omega) only [s_M_count_B22, lit40, ↓reduceIte, Int32.le_refl]
theorem nz_same {M N : Nat} {a : (Nat → Nat → UInt64)} {b c ma mb mc : (Nat → UInt64)} (hI : IP M N a b c ma mb mc) : sumN (fun k => nzN (ma k)) 40 = sumN (fun i => sumN (fun j => nzN (a i j)) N) M := by
  obtain ⟨⟨h1, h2, h3, h4, -⟩, h8, -⟩ := hI
  rw [sum40]
  have z : ∀ i, i < 5 → ∀ j, j < 8 → ¬ (i < M ∧ j < N) → nzN (ma (8 * i + j)) = 0 := fun i hi j hj q => by
    rw [(h8 i hi j hj).1, (h8 i hi j hj).2 q]
    exact if_pos zv_0
  have r1 : ∀ i, i < 5 → sumN (fun j => nzN (ma (8 * i + j))) 8 = if i < M then sumN (fun j => nzN (a i j)) N else 0 := fun i hi => by
    by_cases q : i < M
    · rw [if_pos q]
      have := sumN_ext (f := fun j => nzN (ma (8 * i + j))) (n := N) (8 - N) (fun k k1 k2 => z i hi k (by omega) (by omega))
      rw [show N + (8 - N) = 8 by omega] at this
      rw [this]
      exact sumN_congr fun j hj => by rw [(h8 i hi j (by omega)).1]
    · rw [if_neg q]
      have := sumN_ext (f := fun j => nzN (ma (8 * i + j))) (n := 0) 8 (fun k k1 k2 => z i hi k (by omega) (by omega))
      exact this
  rw [sumN_congr r1]
  have := sumN_ext (f := fun i => if i < M then sumN (fun j => nzN (a i j)) N else 0) (n := M) (5 - M) (fun k k1 k2 => if_neg (by omega))
  rw [show M + (5 - M) = 5 by omega] at this
  rw [this]
  exact sumN_congr fun i hi => if_pos hi
theorem i32_5 : ∀ k, k < 6 → ¬ nI k < 0 ∧ nI k ≤ 5 ∧ ¬ 5 < nI k := by decide
theorem j_count {M N : Nat} {a : (Nat → Nat → UInt64)} {b c ma mb mc : (Nat → UInt64)} {o : Nat → Int64} (sc pt ef fa len : Int32) (ra rf rd : Int32) (rv : UInt64) (rn rfa : Int32) (vw ve vt va v2 vnm vnn : Int32) (vnu : UInt64) (vb : Int32) (x1 : Int32) (hI : IP M N a b c ma mb mc) :
    Ok (s_L_count 1 sc pt ef fa (nI M) (nI N) a len ra rf rd rv rn rfa o x1) (fun u => Ok (s_M_count (nI M) (nI N) len vw ve vt va sc pt v2 vnm vnn vnu vb ma x1) (fun w => LPost u w)) := by
  obtain ⟨⟨h1', h2', h3', h4', hA, -⟩, h8, -⟩ := id hI
  have nma : ∀ k, k < 40 → nnan (ma k) := fun k hk => by
    have e := h8 (k / 8) (by omega) (k % 8) (by omega)
    rw [show 8 * (k / 8) + k % 8 = k by omega] at e
    rw [e.1]
    by_cases q : k / 8 < M ∧ k % 8 < N
    · exact (hA _ q.1 _ q.2).1.nn
    · rw [e.2 q]; exact nn_0
  unfold s_L_count s_C_count s_M_count s_M_count_J15
  rw [e_in]
  have ok : ∀ v : Int32, Ok (gd (inb 0 1) <| some (0, vp_updL o (0 : Int32).toNatClampNeg v.toInt64) : Option (Int32 × (Nat → Int64))) (fun u => LPost u (v, 0)) := fun v => by
    rw [inb01]
    refine Ok.mk ⟨rfl, fun _ => ?_⟩
    dsimp only
    rw [cl0, updL_at]
    exact lg_self _
  by_cases h1 : x1 < 0
  · simp only [h1, ↓reduceIte, Option.bind_some, Sum.elim_inl, true_or]
    refine Ok.mk ?_
    have e := e_mcount (m := M) (n := N) len vw ve 1 va sc pt v2 vnm vnn vnu vb x1 nma _ rfl
    rw [e]
    repeat' split
    all_goals exact Ok.mk ⟨rfl, fun q => absurd q i32_10⟩
  · by_cases h2 : x1 ≤ 5
    · have h2a : ¬ 5 < x1 := fun q => lt_nlt q h2
      have e := e_mcount (m := M) (n := N) len vw ve 0 va sc pt v2 vnm vnn vnu vb x1 nma _ rfl
      simp only [h1, h2, h2a, or_self, ↓reduceIte, Option.bind_some, i32_10]
      rw [e, nz_same hI, e_nonZeros h2' h4' (fun i hi j hj => (hA i hi j hj).1.nn)]
      repeat' split
      all_goals (try simp only [Option.bind_some, Sum.elim_inr])
      all_goals (refine (ok _).imp fun u hu => Ok.mk hu)
    · have h2' : 5 < x1 := nle_lt h2
      simp only [h1, h2, h2', ↓reduceIte, Option.bind_some, Sum.elim_inl, or_true]
      refine Ok.mk ?_
      have e := e_mcount (m := M) (n := N) len vw ve 1 va sc pt v2 vnm vnn vnu vb x1 nma _ rfl
      rw [e]
      repeat' split
      all_goals exact Ok.mk ⟨rfl, fun q => absurd q i32_10⟩
