/-! bounds of sums; sums of one sign -/
theorem subs_bc {f : (Nat → UInt64)} {z : UInt64} {K n : Nat} (hK : K ≤ 2041) (hf : ∀ j, j < n → Bc 1 K (f j)) (hz : Bc 1 K z) (hn : n ≤ 8) : ∀ k, k ≤ n → Bc (k + 1) K (subR f k z) := by
  intro k
  induction k with
  | zero => intro _; exact hz
  | succ k ih =>
    intro hk
    rw [subR_s]
    exact Bc.sub (ih (by omega)) (hf k (by omega)) (by omega) (by omega)
theorem okS_bc {f : (Nat → UInt64)} {z : UInt64} {K n : Nat} (hn : n ≤ 8) (hK : K ≤ 2041) (hf : ∀ j, j < n → Bc 1 K (f j)) (hz : Bc 1 K z) : okS f n z ∧ Bc 1 (K + 4) (subR f n z) :=
  ⟨⟨fun j hj => (hf j hj).isn, fun j hj => (subs_bc hK hf hz hn (j + 1) (by omega)).isn⟩, (subs_bc hK hf hz hn n (Nat.le_refl _)).one 4 (by omega)⟩
theorem sums_bc {f : (Nat → UInt64)} {z : UInt64} {K n : Nat} (hK : K ≤ 2041) (hf : ∀ j, j < n → Bc 1 K (f j)) (hz : Bc 1 K z) (hn : n ≤ 8) : ∀ k, k ≤ n → Bc (k + 1) K (sumR f k z) := by
  intro k
  induction k with
  | zero => intro _; exact hz
  | succ k ih =>
    intro hk
    rw [sumR_s]
    exact Bc.add (ih (by omega)) (hf k (by omega)) (by omega) (by omega)
theorem okA_bc {f : (Nat → UInt64)} {z : UInt64} {K n : Nat} (hn : n ≤ 8) (hK : K ≤ 2041) (hf : ∀ j, j < n → Bc 1 K (f j)) (hz : Bc 1 K z) : okA f n z ∧ Bc 1 (K + 4) (sumR f n z) :=
  ⟨⟨fun j hj => (hf j hj).isn, fun j hj => (sums_bc hK hf hz hn (j + 1) (by omega)).isn⟩, (sums_bc hK hf hz hn n (Nat.le_refl _)).one 4 (by omega)⟩
theorem mz_inf {a : UInt64} {s : Bool} (h : FP.Core.val64 a = .inf s) : mz a = 2 ^ 2098 := by
  unfold mz
  rw [h]
  show FP.Core.b64.tails * 2 ^ (FP.Core.b64.exps - 2) = _
  rw [FP.Core.tails_b64, show FP.Core.b64.exps - 2 = 2046 from rfl, ← Nat.pow_add]
theorem sg_inf {a : UInt64} {s : Bool} (h : FP.Core.val64 a = .inf s) : sg a = s := by
  unfold sg
  rw [h]
  rfl
theorem mz_top (a : UInt64) : mz a ≤ 2 ^ 2098 := by
  have := FP.Core.zmag_le_top FP.Core.good_b64 (FP.Core.val64_fits a)
  rw [FP.Core.tails_b64, show FP.Core.b64.exps - 2 = 2046 from rfl, ← Nat.pow_add] at this
  exact this
theorem mz_fin {a : UInt64} (h : FP.Core.DFin a) : mz a < 2 ^ 2098 := by
  have := FP.Core.DFin.zval_lt h
  rw [FP.Core.tails_b64, show FP.Core.b64.exps - 2 = 2046 from rfl, ← Nat.pow_add] at this
  exact this
theorem rep_0 : rep 0 := ⟨_, FP.Core.val64_fits FP.dconst0, nn_0, by decide +kernel⟩
/-- no NaN and not the upper infinity -/
def npi (a : UInt64) : Prop := nnan a ∧ FP.Core.val64 a ≠ .inf false
theorem npi_fin {a : UInt64} (h : FP.Core.DFin a) : npi a := by
  refine ⟨DFin.nn h, ?_⟩
  obtain ⟨s, c, q, e⟩ := h
  rw [e]
  exact FP.Core.Datum.noConfusion
theorem zv_le_mz (a : UInt64) : zv a ≤ (mz a : Int) ∧ -(mz a : Int) ≤ zv a := by
  cases h : sg a with
  | false => rw [zv_f h]; omega
  | true => rw [zv_t h]; omega
theorem sub_dn {a b : UInt64} (ha : npi a) (hb : nnan b) (h0 : 0 ≤ zv b) : npi (FP.dsub a b) ∧ zv (FP.dsub a b) ≤ zv a ∧ (zv a ≤ zv b → zv (FP.dsub a b) ≤ 0) := by
  have hv : FP.Core.val64 (FP.dsub a b) = FP.Core.round FP.Core.b64 (FP.Core.exactSum (FP.Core.val64 a) (FP.Core.negate (FP.Core.val64 b))) := FP.Core.val64_dsub a b
  have low : FP.Core.val64 (FP.dsub a b) = .inf true → npi (FP.dsub a b) ∧ zv (FP.dsub a b) ≤ zv a ∧ (zv a ≤ zv b → zv (FP.dsub a b) ≤ 0) := by
    intro h
    have z1 : zv (FP.dsub a b) = -((2 ^ 2098 : Nat) : Int) := by rw [zv_t (sg_inf h), mz_inf h]
    refine ⟨⟨by unfold nnan; rw [h]; exact FP.Core.Datum.noConfusion, by rw [h]; decide⟩, ?_, fun _ => ?_⟩
    · rw [z1]
      have h1 := (zv_le_mz a).2
      have h2 := mz_top a
      generalize zv a = Z at *
      generalize mz a = M at *
      generalize 2 ^ 2098 = T at *
      omega
    · rw [z1]
      generalize 2 ^ 2098 = T
      omega
  cases ea : FP.Core.val64 a with
  | nan => exact absurd ea ha.1
  | inf s =>
    cases s with
    | false => exact absurd ea ha.2
    | true =>
      refine low ?_
      rw [hv, ea]
      cases eb : FP.Core.val64 b with
      | nan => exact absurd eb hb
      | inf t =>
        cases t with
        | false => rfl
        | true =>
          exfalso
          rw [zv_t (sg_inf eb), mz_inf eb] at h0
          have := Nat.two_pow_pos 2098
          generalize 2 ^ 2098 = T at *
          omega
      | fin t d r => rfl
  | fin s c q =>
    cases eb : FP.Core.val64 b with
    | nan => exact absurd eb hb
    | inf t =>
      cases t with
      | true =>
        exfalso
        rw [zv_t (sg_inf eb), mz_inf eb] at h0
        have := Nat.two_pow_pos 2098
        generalize 2 ^ 2098 = T at *
        omega
      | false =>
        refine low ?_
        rw [hv, ea, eb]
        rfl
    | fin t d r =>
      have fa : FP.Core.DFin a := ⟨_, _, _, ea⟩
      have fb : FP.Core.DFin b := ⟨_, _, _, eb⟩
      obtain ⟨s', P, h1, h2⟩ := rr_sub fa fb
      have hle : zv (FP.dsub a b) ≤ zv a := by
        have hs := h1.sg
        cases s' with
        | true =>
          rw [zv_t hs]
          have h2 : -(P : Int) = zv a - zv b := h2
          cases hsa : sg a with
          | false =>
            rw [zv_f hsa]
            generalize mz a = M
            generalize mz (FP.dsub a b) = N
            omega
          | true =>
            rw [zv_t hsa] at h2 ⊢
            have := h1.ge (rep_mz (DFin.nn fa)) (by
              generalize mz a = M at *
              generalize zv b = B at *
              omega)
            generalize mz a = M at *
            generalize mz (FP.dsub a b) = N at *
            omega
        | false =>
          rw [zv_f hs]
          have h2 : (P : Int) = zv a - zv b := h2
          cases hsa : sg a with
          | true =>
            rw [zv_t hsa] at h2 ⊢
            have hP : P = 0 ∧ mz a = 0 := by
              generalize mz a = M at *
              generalize zv b = B at *
              omega
            have := h1.le rep_0 (by omega)
            rw [hP.2]
            generalize mz (FP.dsub a b) = N at *
            omega
          | false =>
            rw [zv_f hsa] at h2 ⊢
            have := h1.le (rep_mz (DFin.nn fa)) (by
              generalize mz a = M at *
              generalize zv b = B at *
              omega)
            generalize mz a = M at *
            generalize mz (FP.dsub a b) = N at *
            omega
      refine ⟨⟨h1.nn, fun hi => ?_⟩, hle, fun hab => ?_⟩
      · rw [zv_f (sg_inf hi), mz_inf hi] at hle
        have h3 := (zv_le_mz a).1
        have h4 := mz_fin fa
        generalize zv a = Z at *
        generalize mz a = M at *
        generalize 2 ^ 2098 = T at *
        omega
      · have hs := h1.sg
        cases s' with
        | true =>
          rw [zv_t hs]
          generalize mz (FP.dsub a b) = N
          omega
        | false =>
          have h2 : (P : Int) = zv a - zv b := h2
          have := h1.le rep_0 (by
            generalize zv a = Z at *
            generalize zv b = B at *
            omega)
          rw [zv_f hs]
          generalize mz (FP.dsub a b) = N at *
          omega
/-- taking away what is not below 0, again and again -/
theorem subs_dn {f : (Nat → UInt64)} {z : UInt64} {n : Nat} (hz : npi z) (hf : ∀ q, q < n → nnan (f q) ∧ 0 ≤ zv (f q)) : (∀ k, k ≤ n → npi (subR f k z)) ∧ (∀ k l, k ≤ l → l ≤ n → zv (subR f l z) ≤ zv (subR f k z)) ∧ (0 < zv (subR f n z) → ∀ q, q < n → zv (f q) < zv z) := by
  have h1 : ∀ k, k ≤ n → npi (subR f k z) := by
    intro k
    induction k with
    | zero => intro _; exact hz
    | succ k ih =>
      intro hk
      rw [subR_s]
      exact (sub_dn (ih (by omega)) (hf k (by omega)).1 (hf k (by omega)).2).1
  have h2 : ∀ k l, k ≤ l → l ≤ n → zv (subR f l z) ≤ zv (subR f k z) := by
    intro k l
    induction l with
    | zero =>
      intro h _
      have : k = 0 := by omega
      subst this
      exact Int.le_refl _
    | succ l ih =>
      intro h hl
      by_cases e : k = l + 1
      · subst e; exact Int.le_refl _
      · refine Int.le_trans ?_ (ih (by omega) (by omega))
        rw [subR_s]
        exact (sub_dn (h1 l (by omega)) (hf l (by omega)).1 (hf l (by omega)).2).2.1
  refine ⟨h1, h2, fun hp q hq => ?_⟩
  refine Int.not_le.mp fun hle => ?_
  have a := h2 (q + 1) n (by omega) (Nat.le_refl _)
  have b := (sub_dn (h1 q (by omega)) (hf q hq).1 (hf q hq).2).2.2 (Int.le_trans (h2 0 q (Nat.zero_le _) (by omega)) hle)
  rw [← subR_s] at b
  exact absurd hp (Int.not_lt.mpr (Int.le_trans a b))
theorem add_nn {a b : UInt64} (ha : nnan a) (hb : nnan b) (h1 : 0 ≤ zv a) (h2 : 0 ≤ zv b) : nnan (FP.dadd a b) ∧ 0 ≤ zv (FP.dadd a b) := by
  have hv : FP.Core.val64 (FP.dadd a b) = FP.Core.round FP.Core.b64 (FP.Core.exactSum (FP.Core.val64 a) (FP.Core.val64 b)) := FP.Core.val64_dadd a b
  have top : FP.Core.val64 (FP.dadd a b) = .inf false → nnan (FP.dadd a b) ∧ 0 ≤ zv (FP.dadd a b) := by
    intro h
    refine ⟨by unfold nnan; rw [h]; exact FP.Core.Datum.noConfusion, ?_⟩
    rw [zv_f (sg_inf h)]
    exact Int.natCast_nonneg _
  have noneg : ∀ {w : UInt64}, FP.Core.val64 w = .inf true → 0 ≤ zv w → False := by
    intro w hw h
    rw [zv_t (sg_inf hw), mz_inf hw] at h
    have := Nat.two_pow_pos 2098
    generalize 2 ^ 2098 = T at *
    omega
  cases ea : FP.Core.val64 a with
  | nan => exact absurd ea ha
  | inf s =>
    cases s with
    | true => exact (noneg ea h1).elim
    | false =>
      refine top ?_
      rw [hv, ea]
      cases eb : FP.Core.val64 b with
      | nan => exact absurd eb hb
      | inf t =>
        cases t with
        | false => rfl
        | true => exact (noneg eb h2).elim
      | fin t d r => rfl
  | fin s c q =>
    cases eb : FP.Core.val64 b with
    | nan => exact absurd eb hb
    | inf t =>
      cases t with
      | true => exact (noneg eb h2).elim
      | false =>
        refine top ?_
        rw [hv, ea, eb]
        rfl
    | fin t d r =>
      obtain ⟨s', P, g1, g2⟩ := rr_add (a := a) (b := b) ⟨_, _, _, ea⟩ ⟨_, _, _, eb⟩
      refine ⟨g1.nn, ?_⟩
      have hs := g1.sg
      cases s' with
      | false => rw [zv_f hs]; exact Int.natCast_nonneg _
      | true =>
        have g2 : -(P : Int) = zv a + zv b := g2
        have := g1.le rep_0 (by
          generalize zv a = Z at *
          generalize zv b = B at *
          omega)
        rw [zv_t hs]
        generalize mz (FP.dadd a b) = N at *
        omega
theorem mul_nn {a b : UInt64} (ha : FP.Core.DFin a) (hb : FP.Core.DFin b) (h : 0 ≤ zv a ∧ 0 ≤ zv b ∨ zv a ≤ 0 ∧ zv b ≤ 0) : nnan (FP.dmul a b) ∧ 0 ≤ zv (FP.dmul a b) := by
  have r := rr_mul ha hb
  refine ⟨r.nn, ?_⟩
  cases hs : (sg a != sg b) with
  | false =>
    rw [zv_f (r.sg.trans hs)]
    exact Int.natCast_nonneg _
  | true =>
    have h0 : mz a * mz b = 0 := by
      cases ha' : sg a <;> cases hb' : sg b
      · rw [ha', hb'] at hs; cases hs
      · rw [zv_f ha', zv_t hb'] at h
        rcases h with h | h
        · rw [show mz b = 0 by omega, Nat.mul_zero]
        · rw [show mz a = 0 by omega, Nat.zero_mul]
      · rw [zv_t ha', zv_f hb'] at h
        rcases h with h | h
        · rw [show mz a = 0 by omega, Nat.zero_mul]
        · rw [show mz b = 0 by omega, Nat.mul_zero]
      · rw [ha', hb'] at hs; cases hs
    have := r.le rep_0 (by rw [h0]; exact Nat.zero_le _)
    have h1 : mz (FP.dmul a b) = 0 := Nat.le_zero.mp this
    have := (zv_le_mz (FP.dmul a b)).2
    rw [h1] at this
    simpa using this
theorem sums_nn {f : (Nat → UInt64)} {n : Nat} (hf : ∀ j, j < n → nnan (f j) ∧ 0 ≤ zv (f j)) : ∀ k, k ≤ n → nnan (sumR f k FP.dconst0) ∧ 0 ≤ zv (sumR f k FP.dconst0) := by
  intro k
  induction k with
  | zero =>
    intro _
    refine ⟨nn_0, ?_⟩
    show 0 ≤ zv FP.dconst0
    rw [zv_0]
    exact Int.le_refl _
  | succ k ih =>
    intro hk
    rw [sumR_s]
    have i := ih (by omega)
    have g := hf k (by omega)
    exact add_nn i.1 g.1 i.2 g.2
theorem okA_nn {f : (Nat → UInt64)} {n : Nat} (hf : ∀ j, j < n → nnan (f j) ∧ 0 ≤ zv (f j)) : okA f n FP.dconst0 :=
  ⟨fun j hj => isn_of (hf j hj).1, fun j hj => isn_of (sums_nn hf (j + 1) (by omega)).1⟩
/-- times what may be infinite -/
theorem mul_nninf {a b : UInt64} (ha : FP.Core.DFin a) (h0 : 0 < mz a) (hb : nnan b) : nnan (FP.dmul a b) := by
  cases eb : FP.Core.val64 b with
  | nan => exact absurd eb hb
  | fin t d r => exact (rr_mul ha ⟨_, _, _, eb⟩).nn
  | inf t =>
    obtain ⟨s, c, q, ea⟩ := ha
    have hc : ¬ c = 0 := by
      rintro rfl
      unfold mz at h0
      rw [ea] at h0
      have h9 : FP.Core.zmag FP.Core.b64 (.fin s 0 q) = 0 := Nat.zero_mul _
      omega
    have hv : FP.Core.val64 (FP.dmul a b) = FP.Core.round FP.Core.b64 (FP.Core.exactProduct (FP.Core.val64 a) (FP.Core.val64 b)) := FP.Core.val64_dmul a b
    unfold nnan
    rw [hv, ea, eb]
    simp only [FP.Core.exactProduct, if_neg hc, FP.Core.round]
    exact FP.Core.Datum.noConfusion
