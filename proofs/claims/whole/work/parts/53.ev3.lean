/-! doubles: what is rounded, with its sign -/
def sg (a : UInt64) : Bool := FP.Core.sgn (FP.Core.val64 a)
theorem sg_val (a : UInt64) : sg a = FP.Core.sgn (FP.Core.val64 a) := rfl
theorem zv_def (a : UInt64) : zv a = FP.Core.signed (sg a) (mz a) := rfl
theorem zv_f {a : UInt64} (h : sg a = false) : zv a = (mz a : Int) := by rw [zv_def, h]; rfl
theorem zv_t {a : UInt64} (h : sg a = true) : zv a = -(mz a : Int) := by rw [zv_def, h]; rfl
/-- a is P/Q, rounded, in units of the least number -/
def Rr (a : UInt64) (s : Bool) (P Q : Nat) : Prop := ∃ A B e e0, FP.Core.val64 a = FP.Core.roundRatio FP.Core.b64 s A B e ∧ 0 < B ∧ 0 < Q ∧ e0 ≤ -1074 ∧ e0 ≤ e ∧ FP.Core.inUnits A e e0 * Q = P * 2 ^ (-1074 - e0).toNat * B
theorem Rr.nn {a : UInt64} {s : Bool} {P Q : Nat} (h : Rr a s P Q) : nnan a := by
  obtain ⟨A, B, e, e0, h1, -⟩ := h
  unfold nnan
  rw [h1]
  exact FP.Core.roundRatio_ne_nan _ _ _ _ _
theorem Rr.sg {a : UInt64} {s : Bool} {P Q : Nat} (h : Rr a s P Q) : sg a = s := by
  obtain ⟨A, B, e, e0, h1, -⟩ := h
  rw [sg_val, h1]
  exact FP.Core.sgn_roundRatio _ _ _ _ _
theorem Rr.le {a : UInt64} {s : Bool} {P Q V : Nat} (h : Rr a s P Q) (hV : rep V) (hl : P ≤ V * Q) : mz a ≤ V := by
  obtain ⟨A, B, e, e0, h1, hB, hQ, h0, h0e, hu⟩ := h
  obtain ⟨d, d1, d2, rfl⟩ := hV
  unfold mz
  rw [h1]
  refine FP.Core.zmag_roundRatio_le FP.Core.good_b64 hB d1 d2 (by rw [FP.Core.qmin_b64]; exact h0) h0e ?_
  rw [FP.Core.qmin_b64]
  refine Nat.le_of_mul_le_mul_right ?_ hQ
  rw [hu, Nat.mul_right_comm _ B Q, Nat.mul_right_comm _ (2 ^ _) Q]
  exact Nat.mul_le_mul_right _ (Nat.mul_le_mul_right _ hl)
theorem Rr.ge {a : UInt64} {s : Bool} {P Q V : Nat} (h : Rr a s P Q) (hV : rep V) (hl : V * Q ≤ P) : V ≤ mz a := by
  obtain ⟨A, B, e, e0, h1, hB, hQ, h0, h0e, hu⟩ := h
  obtain ⟨d, d1, d2, rfl⟩ := hV
  unfold mz
  rw [h1]
  refine FP.Core.zmag_roundRatio_ge FP.Core.good_b64 hB d1 (by rw [FP.Core.qmin_b64]; exact h0) h0e ?_
  rw [FP.Core.qmin_b64]
  refine Nat.le_of_mul_le_mul_right ?_ hQ
  rw [hu, Nat.mul_right_comm _ B Q, Nat.mul_right_comm _ (2 ^ _) Q]
  exact Nat.mul_le_mul_right _ (Nat.mul_le_mul_right _ hl)
theorem fin_lt {a : UInt64} (hn : nnan a) (h : mz a < 2 ^ 2098) : FP.Core.DFin a := by
  unfold FP.Core.DFin
  unfold mz nnan at *
  cases hv : FP.Core.val64 a with
  | nan => exact absurd hv hn
  | fin s c q => exact ⟨s, c, q, rfl⟩
  | inf s =>
    exfalso
    rw [hv] at h
    have : FP.Core.zmag FP.Core.b64 (.inf s) = 2 ^ 2098 := by
      show FP.Core.b64.tails * 2 ^ (FP.Core.b64.exps - 2) = _
      rw [FP.Core.tails_b64, show FP.Core.b64.exps - 2 = 2046 from rfl, ← Nat.pow_add]
    rw [this] at h
    exact Nat.lt_irrefl _ h
theorem rep_mz {a : UInt64} (h : nnan a) : rep (mz a) := ⟨_, FP.Core.val64_fits a, h, rfl⟩
theorem DFin.nn {a : UInt64} (h : FP.Core.DFin a) : nnan a := by
  obtain ⟨s, c, q, h1⟩ := h
  unfold nnan
  rw [h1]
  exact FP.Core.Datum.noConfusion
theorem rr_mul {a b : UInt64} (ha : FP.Core.DFin a) (hb : FP.Core.DFin b) : Rr (FP.dmul a b) (sg a != sg b) (mz a * mz b) (2 ^ 1074) := by
  obtain ⟨s, c, q, h1⟩ := ha
  obtain ⟨t, d, r, h2⟩ := hb
  have f1 := FP.Core.val64_fits a
  have f2 := FP.Core.val64_fits b
  unfold mz sg
  rw [h1] at f1 ⊢
  rw [h2] at f2 ⊢
  obtain ⟨p1, p2, p3⟩ := FP.Core.product_units f1 f2
  rw [FP.Core.qmin_b64] at p2 p3
  refine ⟨c * d, 1, q + r, 2 * -1074, ?_, by decide, Nat.two_pow_pos _, by omega, p2, ?_⟩
  · show FP.Core.val64 (FP.Core.dmul a b) = _
    rw [FP.Core.val64_dmul, h1, h2, p1]
    rfl
  · rw [p3, Nat.mul_one]
    rfl
theorem rr_div {a b : UInt64} (ha : FP.Core.DFin a) (hb : FP.Core.DFin b) (h0 : 0 < mz b) : Rr (FP.ddiv a b) (sg a != sg b) (mz a * 2 ^ 1074) (mz b) := by
  obtain ⟨s, c, q, h1⟩ := ha
  obtain ⟨t, d, r, h2⟩ := hb
  have f1 := FP.Core.val64_fits a
  have f2 := FP.Core.val64_fits b
  unfold mz at h0
  unfold mz sg
  rw [h1] at f1 ⊢
  rw [h2] at f2 h0 ⊢
  have hd0 : d ≠ 0 := by
    rintro rfl
    have h9 : FP.Core.zmag FP.Core.b64 (.fin t 0 r) = 0 := Nat.zero_mul _
    omega
  have hx1 := f1.2.1
  have hy1 := f2.2.1
  rw [FP.Core.qmin_b64] at hx1 hy1
  refine ⟨c, d, q - r, 2 * -1074 - r, ?_, by omega, h0, by omega, by omega, ?_⟩
  · show FP.Core.val64 (FP.Core.ddiv a b) = _
    rw [FP.Core.val64_ddiv, h1, h2]
    simp only [FP.Core.quotient, if_neg hd0]
    rfl
  · have e1 : FP.Core.inUnits c (q - r) (2 * -1074 - r) = FP.Core.zmag FP.Core.b64 (.fin s c q) * 2 ^ 1074 := by
      show c * _ = c * _ * _
      rw [Nat.mul_assoc, ← Nat.pow_add]
      congr 2
      rw [FP.Core.qmin_b64]
      omega
    have e2 : 2 ^ (-1074 - (2 * -1074 - r)).toNat * d = FP.Core.zmag FP.Core.b64 (.fin t d r) := by
      show _ = d * _
      rw [Nat.mul_comm]
      congr 2
      rw [FP.Core.qmin_b64]
      omega
    rw [e1, Nat.mul_assoc _ (2 ^ (-1074 - (2 * -1074 - r)).toNat) d, e2]
theorem rr_sum {x y : FP.Core.Datum} {a : UInt64} (ha : FP.Core.val64 a = FP.Core.round FP.Core.b64 (FP.Core.exactSum x y)) (hx : ∃ s c q, x = .fin s c q) (hy : ∃ s c q, y = .fin s c q) (fx : FP.Core.fits FP.Core.b64 x) (fy : FP.Core.fits FP.Core.b64 y) :
    ∃ s P, Rr a s P 1 ∧ FP.Core.signed s P = FP.Core.zval FP.Core.b64 x + FP.Core.zval FP.Core.b64 y := by
  obtain ⟨s, c, q, rfl⟩ := hx
  obtain ⟨t, d, r, rfl⟩ := hy
  obtain ⟨g, n, e, p1, p2, p3⟩ := FP.Core.sum_units fx fy
  rw [p1] at ha
  rw [FP.Core.qmin_b64] at p2 p3
  refine ⟨g, FP.Core.inUnits n e (-1074), ⟨n, 1, e, -1074, ha, by decide, by decide, by omega, p2, ?_⟩, p3⟩
  rw [Int.sub_self, Int.toNat_zero, Nat.pow_zero, Nat.mul_one, Nat.mul_one]
theorem rr_add {a b : UInt64} (ha : FP.Core.DFin a) (hb : FP.Core.DFin b) : ∃ s P, Rr (FP.dadd a b) s P 1 ∧ FP.Core.signed s P = zv a + zv b :=
  rr_sum (FP.Core.val64_dadd a b) ha hb (FP.Core.val64_fits a) (FP.Core.val64_fits b)
theorem rr_sub {a b : UInt64} (ha : FP.Core.DFin a) (hb : FP.Core.DFin b) : ∃ s P, Rr (FP.dsub a b) s P 1 ∧ FP.Core.signed s P = zv a - zv b := by
  obtain ⟨s, P, h1, h2⟩ := rr_sum (FP.Core.val64_dsub a b) ha (by
    obtain ⟨s, c, q, hh⟩ := hb
    exact ⟨!s, c, q, by rw [hh]; rfl⟩) (FP.Core.val64_fits a) (FP.Core.negate_fits (FP.Core.val64_fits b))
  refine ⟨s, P, h1, ?_⟩
  rw [h2, FP.Core.zval_negate]
  rfl
theorem Bd.fin {V : Nat} {a : UInt64} (h : Bd V a) : FP.Core.DFin a := h.1
theorem Bc.fin {c K : Nat} {a : UInt64} (h : Bc c K a) : FP.Core.DFin a := h.1
theorem Bc.mz {c K : Nat} {a : UInt64} (h : Bc c K a) : mz a ≤ c * 2 ^ K := h.2
theorem rep_pow {K : Nat} (h : K ≤ 2045) : rep (2 ^ K) := by
  have := rep_of 1 K (by decide) h
  rwa [Nat.one_mul] at this
/-- lower bounds -/
theorem mul_ge {a b : UInt64} {K L M : Nat} (ha : FP.Core.DFin a) (hb : FP.Core.DFin b) (h1 : 2 ^ K ≤ mz a) (h2 : 2 ^ L ≤ mz b) (hM : M + 1074 = K + L) (hl : M ≤ 2045) : 2 ^ M ≤ mz (FP.dmul a b) := by
  refine (rr_mul ha hb).ge (rep_pow hl) ?_
  rw [← Nat.pow_add, hM, Nat.pow_add]
  exact Nat.mul_le_mul h1 h2
theorem div_ge {a b : UInt64} {K L M : Nat} (ha : FP.Core.DFin a) (hb : FP.Core.DFin b) (h0 : 0 < mz b) (h1 : 2 ^ K ≤ mz a) (h2 : mz b ≤ 2 ^ L) (hM : M + L = K + 1074) (hl : M ≤ 2045) : 2 ^ M ≤ mz (FP.ddiv a b) := by
  refine (rr_div ha hb h0).ge (rep_pow hl) ?_
  refine Nat.le_trans (Nat.mul_le_mul_left _ h2) ?_
  rw [← Nat.pow_add, hM, Nat.pow_add]
  exact Nat.mul_le_mul_right _ h1
theorem sg_mul {a b : UInt64} (ha : FP.Core.DFin a) (hb : FP.Core.DFin b) : sg (FP.dmul a b) = (sg a != sg b) := (rr_mul ha hb).sg
theorem sg_div {a b : UInt64} (ha : FP.Core.DFin a) (hb : FP.Core.DFin b) (h0 : 0 < mz b) : sg (FP.ddiv a b) = (sg a != sg b) := (rr_div ha hb h0).sg
theorem sg_neg {a : UInt64} (h : nnan a) : sg (FP.dneg a) = !sg a := by
  unfold sg nnan at *
  rw [val_neg]
  cases hv : FP.Core.val64 a with
  | nan => exact absurd hv h
  | inf s => rfl
  | fin s c q => rfl
theorem zv_pos {a : UInt64} (h : 0 < zv a) : sg a = false ∧ 0 < mz a := by
  cases hs : sg a with
  | false => rw [zv_f hs] at h; exact ⟨rfl, by omega⟩
  | true => rw [zv_t hs] at h; omega
theorem mz_abs (v : UInt64) : mz (dabs v) = mz v := by
  unfold dabs
  split
  · exact mz_neg v
  · rfl
theorem Bc.abs {c K : Nat} {a : UInt64} (h : Bc c K a) : Bc c K (dabs a) := by
  unfold dabs
  split
  · exact h.neg
  · exact h
theorem Bc.max {c K : Nat} {a b : UInt64} (h : Bc c K a) (h2 : Bc c K b) : Bc c K (dmax a b) := by
  unfold dmax
  split
  · exact h2
  · exact h
theorem bc_0 (c K : Nat) : Bc c K FP.dconst0 := by
  refine ⟨⟨_, _, _, FP.Core.val64_dconst0⟩, ?_⟩
  have : mz FP.dconst0 = 0 := by decide +kernel
  rw [this]
  exact Nat.zero_le _
