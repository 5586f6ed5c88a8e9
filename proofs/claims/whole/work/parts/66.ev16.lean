/-! the move: how far, and nothing falls below 0 -/
def c995 : UInt64 := 4607137382803743703
theorem c995_f : FP.Core.DFin c995 ∧ 0 < mz c995 ∧ sg c995 = false ∧ mz c995 * 1000 ≤ 996 * 2 ^ 1074 := ⟨fin_of (by decide +kernel), by decide +kernel, by decide +kernel, by decide +kernel⟩
theorem mul_pf {c b : UInt64} (hc : FP.Core.DFin c) (h0 : 0 < mz c) (hs : sg c = false) (hb : nnan b) (hsb : sg b = false) : nnan (FP.dmul c b) ∧ sg (FP.dmul c b) = false := by
  refine ⟨mul_nninf hc h0 hb, ?_⟩
  cases eb : FP.Core.val64 b with
  | nan => exact absurd eb hb
  | fin t d r =>
    rw [sg_mul hc ⟨_, _, _, eb⟩, hs, hsb]
    rfl
  | inf t =>
    obtain ⟨s, c', q, ea⟩ := hc
    have hc0 : ¬ c' = 0 := by
      rintro rfl
      unfold mz at h0
      rw [ea] at h0
      have h9 : FP.Core.zmag FP.Core.b64 (.fin s 0 q) = 0 := Nat.zero_mul _
      omega
    have hv : FP.Core.val64 (FP.dmul c b) = FP.Core.round FP.Core.b64 (FP.Core.exactProduct (FP.Core.val64 c) (FP.Core.val64 b)) := FP.Core.val64_dmul c b
    unfold sg at *
    rw [hv]
    rw [ea] at hs
    rw [eb] at hsb
    rw [ea, eb]
    have hs : s = false := hs
    have hsb : t = false := hsb
    subst hs hsb
    simp only [FP.Core.exactProduct, if_neg hc0, FP.Core.round]
    rfl
theorem neg_pos {d : UInt64} (h : zv d < 0) : sg (FP.dneg d) = false ∧ 0 < mz (FP.dneg d) := by
  refine zv_pos ?_
  rw [zv_neg]
  generalize zv d = Z at *
  omega
/-- a share: positive, maybe infinite -/
theorem share_nn {x d : UInt64} (hx : FP.Core.DFin x) (hs : sg x = false) (hd : FP.Core.DFin d) (h : zv d < 0) : nnan (FP.ddiv x (FP.dneg d)) ∧ nnan (FP.dmul c995 (FP.ddiv x (FP.dneg d))) ∧ 0 ≤ zv (FP.dmul c995 (FP.ddiv x (FP.dneg d))) := by
  obtain ⟨n1, n2⟩ := neg_pos h
  have fd' : FP.Core.DFin (FP.dneg d) := (Bd.neg (V := mz d) ⟨hd, Nat.le_refl _⟩).1
  have r := rr_div hx fd' n2
  have s1 : sg (FP.ddiv x (FP.dneg d)) = false := by rw [r.sg, hs, n1]; rfl
  obtain ⟨p1, p2⟩ := mul_pf c995_f.1 c995_f.2.1 c995_f.2.2.1 r.nn s1
  refine ⟨r.nn, p1, ?_⟩
  rw [zv_f p2]
  exact Int.natCast_nonneg _
theorem share_ok {x d a : UInt64} {K : Nat} (hx : FP.Core.DFin x) (hs : sg x = false) (hx0 : 2 ^ 1034 ≤ mz x) (hx1 : mz x ≤ 2 ^ 1104) (hd : Bc 1 K d) (hK : K ≤ 2045) (h : zv d < 0) (ha : Bc 1 1074 a) (ha0 : 0 ≤ zv a) (hle : zv a ≤ zv (FP.dmul c995 (FP.ddiv x (FP.dneg d)))) : mz a * mz d ≤ mz x * 2 ^ 1074 := by
  obtain ⟨n1, n2⟩ := neg_pos h
  rw [mz_neg] at n2
  have fd' : FP.Core.DFin (FP.dneg d) := (Bd.neg (V := mz d) ⟨hd.fin, Nat.le_refl _⟩).1
  have am := ha.mz
  rw [Nat.one_mul] at am
  by_cases hDx : mz d ≤ mz x
  · rw [Nat.mul_comm]
    exact Nat.mul_le_mul hDx am
  · have hDx : mz x < mz d := Nat.not_le.mp hDx
    have dm := hd.mz
    rw [Nat.one_mul] at dm
    have dm : mz d ≤ 2 ^ 2045 := Nat.le_trans dm (Nat.pow_le_pow_right (by decide) hK)
    have r := rr_div hx fd' (by rw [mz_neg]; exact n2)
    rw [mz_neg] at r
    generalize hX : mz x * 2 ^ 1074 = X at r ⊢
    have hn : X / mz d < 2 ^ 1074 := by
      rw [Nat.div_lt_iff_lt_mul n2, ← hX, Nat.mul_comm]
      exact Nat.mul_lt_mul_of_pos_left hDx (Nat.two_pow_pos _)
    have hn2 : 2 ^ 63 ≤ X / mz d := by
      rw [Nat.le_div_iff_mul_le n2, ← hX]
      refine Nat.le_trans (Nat.mul_le_mul_left _ dm) ?_
      refine Nat.le_trans ?_ (Nat.mul_le_mul_right _ hx0)
      rw [← Nat.pow_add, ← Nat.pow_add]
      exact Nat.le_refl _
    have hn0 : X / mz d ≠ 0 := fun q => by rw [q] at hn2; exact absurd hn2 (by decide)
    generalize ht : Nat.log2 (X / mz d) = t
    have t1 : 2 ^ t ≤ X / mz d := by rw [← ht]; exact Nat.log2_self_le hn0
    have t2 : X / mz d < 2 ^ (t + 1) := by rw [← ht]; exact Nat.lt_log2_self
    have t3 : 63 ≤ t := by
      refine Nat.le_of_not_lt fun q => ?_
      have := Nat.lt_of_le_of_lt hn2 t2
      have := (Nat.pow_lt_pow_iff_right (by decide)).mp this
      omega
    have t4 : t < 1074 := by
      have := Nat.lt_of_le_of_lt t1 hn
      exact (Nat.pow_lt_pow_iff_right (by decide)).mp this
    obtain ⟨s, rfl⟩ : ∃ s, t = s + 10 := ⟨t - 10, by omega⟩
    generalize hU : mz d * 2 ^ s = U
    have hU0 : 0 < U := by rw [← hU]; exact Nat.mul_pos n2 (Nat.two_pow_pos _)
    have x1 : U * 1024 ≤ X := by
      have := (Nat.le_div_iff_mul_le n2).mp t1
      rw [← hU]
      refine Nat.le_trans (Nat.le_of_eq ?_) this
      rw [Nat.pow_add, Nat.mul_comm (mz d), Nat.mul_right_comm]
    have x2 : X < U * 2048 := by
      have := (Nat.div_lt_iff_lt_mul n2).mp t2
      rw [← hU]
      refine Nat.lt_of_lt_of_le this (Nat.le_of_eq ?_)
      rw [Nat.add_assoc, Nat.pow_add, Nat.mul_comm (mz d), Nat.mul_right_comm]
    generalize hk : X / U = k
    have k1 : k * U ≤ X := by rw [← hk]; exact Nat.div_mul_le_self X U
    have k2 : X < (k + 1) * U := by
      rw [← hk]
      exact (Nat.div_lt_iff_lt_mul hU0).mp (Nat.lt_succ_self _)
    have k3 : 1024 ≤ k := by
      rw [← hk]
      exact (Nat.le_div_iff_mul_le hU0).mpr (by rw [Nat.mul_comm]; exact x1)
    have k4 : k < 2048 := by
      rw [← hk]
      exact (Nat.div_lt_iff_lt_mul hU0).mpr (by rw [Nat.mul_comm]; exact x2)
    have q1 : mz (FP.ddiv x (FP.dneg d)) ≤ (k + 1) * 2 ^ s := by
      refine r.le (rep_of _ _ (by omega) (by omega)) ?_
      rw [Nat.mul_assoc, Nat.mul_comm (2 ^ s), hU]
      exact Nat.le_of_lt k2
    have fq : FP.Core.DFin (FP.ddiv x (FP.dneg d)) := by
      refine fin_lt r.nn (Nat.lt_of_le_of_lt q1 ?_)
      refine Nat.lt_of_lt_of_le (Nat.mul_lt_mul_of_pos_right (show k + 1 < 2 ^ 12 by omega) (Nat.two_pow_pos _)) ?_
      rw [← Nat.pow_add]
      exact Nat.pow_le_pow_right (by decide) (by omega)
    have v1 : mz (FP.dmul c995 (FP.ddiv x (FP.dneg d))) ≤ (k - 1) * 2 ^ s := by
      refine (rr_mul c995_f.1 fq).le (rep_of _ _ (by omega) (by omega)) ?_
      refine Nat.le_trans (Nat.mul_le_mul_left _ q1) ?_
      have hc := c995_f.2.2.2
      rw [← Nat.mul_assoc, Nat.mul_right_comm (k - 1)]
      refine Nat.mul_le_mul_right _ ?_
      generalize mz c995 = C at hc ⊢
      generalize 2 ^ 1074 = E at hc ⊢
      have h1 : C * 1000 * (k + 1) ≤ 996 * E * (k + 1) := Nat.mul_le_mul_right _ hc
      have h2 : 996 * (k + 1) ≤ 1000 * (k - 1) := by omega
      have h3 : 996 * E * (k + 1) ≤ 1000 * (k - 1) * E := by
        rw [Nat.mul_right_comm]
        exact Nat.mul_le_mul_right _ h2
      have h4 : 1000 * (C * (k + 1)) ≤ 1000 * ((k - 1) * E) := by
        rw [← Nat.mul_assoc, Nat.mul_comm 1000 C, ← Nat.mul_assoc]
        exact Nat.le_trans h1 h3
      exact Nat.le_of_mul_le_mul_left h4 (by decide)
    have a1 : mz a ≤ (k - 1) * 2 ^ s := by
      have b1 := (zv_le_mz (FP.dmul c995 (FP.ddiv x (FP.dneg d)))).1
      have b2 := zv_mz a
      generalize zv a = Z at *
      generalize zv (FP.dmul c995 (FP.ddiv x (FP.dneg d))) = Y at *
      generalize mz (FP.dmul c995 (FP.ddiv x (FP.dneg d))) = N at *
      generalize (k - 1) * 2 ^ s = W at *
      omega
    refine Nat.le_trans (Nat.mul_le_mul_right _ a1) ?_
    rw [Nat.mul_assoc, Nat.mul_comm (2 ^ s), hU]
    exact Nat.le_trans (Nat.mul_le_mul_right _ (Nat.sub_le _ _)) k1
theorem mv_nn {x d a : UInt64} {K : Nat} (hx : FP.Core.DFin x) (hs : sg x = false) (hx0 : 2 ^ 1034 ≤ mz x) (hx1 : mz x ≤ 2 ^ 1104) (hd : Bc 1 K d) (hK : K ≤ 2045) (ha : Bc 1 1074 a) (ha0 : 0 ≤ zv a) (hle : zv d < 0 → zv a ≤ zv (FP.dmul c995 (FP.ddiv x (FP.dneg d)))) (hf : FP.Core.DFin (FP.dmul a d)) : 0 ≤ zv (FP.dadd x (FP.dmul a d)) := by
  have hzx : zv x = (mz x : Int) := zv_f hs
  by_cases h : zv d < 0
  · have hm : mz (FP.dmul a d) ≤ mz x := (rr_mul ha.fin hd.fin).le (rep_mz (DFin.nn hx)) (share_ok hx hs hx0 hx1 hd hK h ha ha0 (hle h))
    obtain ⟨s', P, g1, g2⟩ := rr_add hx hf
    have hss := g1.sg
    cases s' with
    | false => rw [zv_f hss]; exact Int.natCast_nonneg _
    | true =>
      have g2 : -(P : Int) = zv x + zv (FP.dmul a d) := g2
      have b1 := (zv_le_mz (FP.dmul a d)).2
      have := g1.le rep_0 (by
        rw [hzx] at g2
        generalize zv (FP.dmul a d) = B at *
        generalize mz (FP.dmul a d) = M at *
        generalize mz x = N at *
        omega)
      rw [zv_t hss]
      generalize mz (FP.dadd x (FP.dmul a d)) = N at *
      omega
  · refine (add_nn (DFin.nn hx) (DFin.nn hf) ?_ ?_).2
    · rw [hzx]; exact Int.natCast_nonneg _
    · exact (mul_nn ha.fin hd.fin (Or.inl ⟨ha0, Int.not_lt.mp h⟩)).2
/-- the share that is gone: between 0 and 1, below every share of the row -/
theorem lg_bc {x dx : (Nat → UInt64)} {n : Nat} (hx : ∀ j, j < n → FP.Core.DFin (x j) ∧ sg (x j) = false) (hd : ∀ j, j < n → FP.Core.DFin (dx j)) : lgOk x dx n ∧ ∀ k, k ≤ n → (Bc 1 1074 (lgR x dx k) ∧ 0 ≤ zv (lgR x dx k)) ∧ ∀ j, j < k → zv (dx j) < 0 → zv (lgR x dx k) ≤ zv (FP.dmul c995 (FP.ddiv (x j) (FP.dneg (dx j)))) := by
  refine ⟨fun j hj => ⟨DFin.nn (hd j hj), fun h => ⟨isn_of (share_nn (hx j hj).1 (hx j hj).2 (hd j hj) h).1, isn_of (share_nn (hx j hj).1 (hx j hj).2 (hd j hj) h).2.1⟩⟩, ?_⟩
  intro k
  induction k with
  | zero =>
    intro _
    refine ⟨⟨⟨⟨_, _, _, FP.Core.val64_dconst1⟩, ?_⟩, ?_⟩, fun j hj => absurd hj (Nat.not_lt_zero _)⟩
    · show mz FP.dconst1 ≤ _
      rw [m1, Nat.one_mul]
      exact Nat.le_refl _
    · show 0 ≤ zv FP.dconst1
      decide +kernel
  | succ k ih =>
    intro hk
    obtain ⟨⟨i1, i2⟩, i3⟩ := ih (by omega)
    have sh := fun h => share_nn (hx k (by omega)).1 (hx k (by omega)).2 (hd k (by omega)) h
    rw [lgR_s]
    unfold lgB
    by_cases c1 : zv (dx k) < 0
    · rw [if_pos c1]
      obtain ⟨s1, s2, s3⟩ := sh c1
      by_cases c2 : zv (FP.dmul 4607137382803743703 (FP.ddiv (x k) (FP.dneg (dx k)))) < zv (lgR x dx k)
      · rw [if_pos c2]
        have s3' : 0 ≤ zv (FP.dmul 4607137382803743703 (FP.ddiv (x k) (FP.dneg (dx k)))) := s3
        have s2' : nnan (FP.dmul 4607137382803743703 (FP.ddiv (x k) (FP.dneg (dx k)))) := s2
        have hm : mz (FP.dmul 4607137382803743703 (FP.ddiv (x k) (FP.dneg (dx k)))) ≤ 1 * 2 ^ 1074 := by
          have b1 := zv_mz (FP.dmul 4607137382803743703 (FP.ddiv (x k) (FP.dneg (dx k))))
          have b2 := (zv_le_mz (lgR x dx k)).1
          have b3 := i1.mz
          generalize zv (FP.dmul 4607137382803743703 (FP.ddiv (x k) (FP.dneg (dx k)))) = Z at *
          generalize mz (FP.dmul 4607137382803743703 (FP.ddiv (x k) (FP.dneg (dx k)))) = M at *
          generalize zv (lgR x dx k) = Y at *
          generalize mz (lgR x dx k) = N at *
          generalize 2 ^ 1074 = T at *
          omega
        refine ⟨⟨⟨fin_lt s2' (Nat.lt_of_le_of_lt hm (by rw [Nat.one_mul]; exact Nat.pow_lt_pow_right (by decide) (by decide))), hm⟩, s3'⟩, fun j hj hz => ?_⟩
        by_cases e : j = k
        · subst e
          exact Int.le_refl _
        · exact Int.le_trans (Int.le_of_lt c2) (i3 j (by omega) hz)
      · rw [if_neg c2]
        refine ⟨⟨i1, i2⟩, fun j hj hz => ?_⟩
        by_cases e : j = k
        · subst e
          exact Int.not_lt.mp c2
        · exact i3 j (by omega) hz
    · rw [if_neg c1]
      refine ⟨⟨i1, i2⟩, fun j hj hz => ?_⟩
      by_cases e : j = k
      · subst e
        exact absurd hz c1
      · exact i3 j (by omega) hz
