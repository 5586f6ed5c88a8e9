/-! doubles: magnitudes in units of the least number; rounding keeps what is representable -/
def mz (a : UInt64) : Nat := FP.Core.zmag FP.Core.b64 (FP.Core.val64 a)
def zv (a : UInt64) : Int := FP.Core.zval FP.Core.b64 (FP.Core.val64 a)
def nnan (a : UInt64) : Prop := FP.Core.val64 a ≠ .nan
theorem isn_iff {a : UInt64} : isn a = true ↔ nnan a := by
  unfold isn nnan
  rw [decide_eq_true_iff, FP.Core.ne_nan, ← FP.Core.mask_toNat, UInt64.le_iff_toNat_le]
  exact Iff.rfl
theorem isn_of {a : UInt64} (h : nnan a) : isn a = true := isn_iff.mpr h
def Bd (V : Nat) (a : UInt64) : Prop := FP.Core.DFin a ∧ mz a ≤ V
def rep (V : Nat) : Prop := ∃ d, FP.Core.fits FP.Core.b64 d ∧ d ≠ .nan ∧ FP.Core.zmag FP.Core.b64 d = V
theorem rep_of (c K : Nat) (hc : c < 2 ^ 53) (hK : K ≤ 2045) : rep (c * 2 ^ K) := by
  have hq : FP.Core.b64.qmax = 971 := by decide
  obtain ⟨c', q', h1, h2⟩ := FP.Core.round_exact FP.Core.good_b64 false (c := c) (q := -1074 + (K : Int)) (by exact hc) (by rw [FP.Core.qmin_b64]; omega) (by rw [hq]; omega)
  refine ⟨FP.Core.round FP.Core.b64 (.fin false c (-1074 + (K : Int))), FP.Core.round_fits FP.Core.good_b64 _, by rw [h1]; exact FP.Core.Datum.noConfusion, ?_⟩
  rw [h1]
  show FP.Core.inUnits c' q' FP.Core.b64.qmin = _
  rw [h2]
  unfold FP.Core.inUnits
  rw [FP.Core.qmin_b64]
  congr 2
  omega
theorem Bd.nn {V : Nat} {a : UInt64} (h : Bd V a) : nnan a := by
  obtain ⟨⟨s, c, q, h1⟩, -⟩ := h
  unfold nnan
  rw [h1]
  exact FP.Core.Datum.noConfusion
theorem Bd.isn {V : Nat} {a : UInt64} (h : Bd V a) : isn a = true := isn_of h.nn
theorem Bd.up {V W : Nat} {a : UInt64} (h : Bd V a) (hl : V ≤ W) : Bd W a := ⟨h.1, Nat.le_trans h.2 hl⟩
/-- a rounded quotient of naturals, at most V -/
theorem bd_of {a : UInt64} {s : Bool} {A B : Nat} {e e0 : Int} (ha : FP.Core.val64 a = FP.Core.roundRatio FP.Core.b64 s A B e) (hB : 0 < B) (h0 : e0 ≤ -1074) (h0e : e0 ≤ e) {V : Nat} (hV : rep V) (hVt : V < 2 ^ 2098)
    (h : FP.Core.inUnits A e e0 ≤ V * 2 ^ (-1074 - e0).toNat * B) : Bd V a := by
  obtain ⟨d, d1, d2, rfl⟩ := hV
  have hle := FP.Core.zmag_roundRatio_le FP.Core.good_b64 (s := s) (A := A) (B := B) (e := e) (e0 := e0) hB d1 d2 (by rw [FP.Core.qmin_b64]; exact h0) h0e (by rw [FP.Core.qmin_b64]; exact h)
  rw [← ha] at hle
  refine ⟨?_, hle⟩
  rcases FP.Core.roundRatio_cases FP.Core.b64 s A B e with ⟨c, q, hR⟩ | hR
  · exact ⟨s, c, q, ha.trans hR⟩
  · exfalso
    rw [ha, hR] at hle
    have : FP.Core.zmag FP.Core.b64 (.inf s) = 2 ^ 2098 := by
      show FP.Core.b64.tails * 2 ^ (FP.Core.b64.exps - 2) = _
      rw [FP.Core.tails_b64, show FP.Core.b64.exps - 2 = 2046 from rfl, ← Nat.pow_add]
    omega
theorem Bd.sum {x y : FP.Core.Datum} {a : UInt64} (ha : FP.Core.val64 a = FP.Core.round FP.Core.b64 (FP.Core.exactSum x y)) (hx : ∃ s c q, x = .fin s c q) (hy : ∃ s c q, y = .fin s c q) (fx : FP.Core.fits FP.Core.b64 x) (fy : FP.Core.fits FP.Core.b64 y)
    {V1 V2 V : Nat} (h1 : FP.Core.zmag FP.Core.b64 x ≤ V1) (h2 : FP.Core.zmag FP.Core.b64 y ≤ V2) (hV : rep V) (hVt : V < 2 ^ 2098) (h : V1 + V2 ≤ V) : Bd V a := by
  obtain ⟨s, c, q, rfl⟩ := hx
  obtain ⟨t, d, r, rfl⟩ := hy
  obtain ⟨sg, n, e, p1, p2, p3⟩ := FP.Core.sum_units fx fy
  rw [p1] at ha
  refine bd_of (s := sg) (A := n) (B := 1) (e := e) (e0 := -1074) ha (by decide) (by omega) (by rw [FP.Core.qmin_b64] at p2; exact p2) hV hVt ?_
  have h9 : FP.Core.inUnits n e FP.Core.b64.qmin ≤ FP.Core.zmag FP.Core.b64 (.fin s c q) + FP.Core.zmag FP.Core.b64 (.fin t d r) := by
    have := congrArg Int.natAbs p3
    rw [FP.Core.natAbs_signed] at this
    rw [this]
    refine Nat.le_trans (Int.natAbs_add_le _ _) ?_
    unfold FP.Core.zval
    rw [FP.Core.natAbs_signed, FP.Core.natAbs_signed]
    exact Nat.le_refl _
  rw [FP.Core.qmin_b64] at h9
  rw [Int.sub_self, Int.toNat_zero, Nat.pow_zero, Nat.mul_one, Nat.mul_one]
  omega
theorem Bd.add {V1 V2 V : Nat} {a b : UInt64} (ha : Bd V1 a) (hb : Bd V2 b) (hV : rep V) (hVt : V < 2 ^ 2098) (h : V1 + V2 ≤ V) : Bd V (FP.dadd a b) :=
  Bd.sum (FP.Core.val64_dadd a b) ha.1 hb.1 (FP.Core.val64_fits a) (FP.Core.val64_fits b) ha.2 hb.2 hV hVt h
theorem Bd.sub {V1 V2 V : Nat} {a b : UInt64} (ha : Bd V1 a) (hb : Bd V2 b) (hV : rep V) (hVt : V < 2 ^ 2098) (h : V1 + V2 ≤ V) : Bd V (FP.dsub a b) := by
  refine Bd.sum (FP.Core.val64_dsub a b) ha.1 ?_ (FP.Core.val64_fits a) (FP.Core.negate_fits (FP.Core.val64_fits b)) ha.2 ?_ hV hVt h
  · obtain ⟨s, c, q, hh⟩ := hb.1
    exact ⟨!s, c, q, by rw [hh]; rfl⟩
  · have : FP.Core.zmag FP.Core.b64 (FP.Core.negate (FP.Core.val64 b)) = FP.Core.zmag FP.Core.b64 (FP.Core.val64 b) := by cases FP.Core.val64 b <;> rfl
    rw [this]
    exact hb.2
theorem Bd.mul {V1 V2 V : Nat} {a b : UInt64} (ha : Bd V1 a) (hb : Bd V2 b) (hV : rep V) (hVt : V < 2 ^ 2098) (h : V1 * V2 ≤ V * 2 ^ 1074) : Bd V (FP.dmul a b) := by
  obtain ⟨⟨s, c, q, h1⟩, g1⟩ := ha
  obtain ⟨⟨t, d, r, h2⟩, g2⟩ := hb
  have f1 := FP.Core.val64_fits a
  have f2 := FP.Core.val64_fits b
  unfold mz at g1 g2
  rw [h1] at f1 g1
  rw [h2] at f2 g2
  obtain ⟨p1, p2, p3⟩ := FP.Core.product_units f1 f2
  have hv : FP.Core.val64 (FP.dmul a b) = FP.Core.roundRatio FP.Core.b64 (s != t) (c * d) 1 (q + r) := by
    show FP.Core.val64 (FP.Core.dmul a b) = _
    rw [FP.Core.val64_dmul, h1, h2, p1]
    rfl
  rw [FP.Core.qmin_b64] at p2 p3
  refine bd_of hv (by decide) (e0 := 2 * -1074) (by omega) p2 hV hVt ?_
  rw [p3, Nat.mul_one]
  refine Nat.le_trans (Nat.mul_le_mul g1 g2) ?_
  exact h
theorem Bd.div {V1 W V : Nat} {a b : UInt64} (ha : Bd V1 a) (hb : FP.Core.DFin b) (hW : 0 < W) (hbW : W ≤ mz b) (hV : rep V) (hVt : V < 2 ^ 2098) (h : V1 * 2 ^ 1074 ≤ V * W) : Bd V (FP.ddiv a b) := by
  obtain ⟨⟨s, c, q, h1⟩, g1⟩ := ha
  obtain ⟨t, d, r, h2⟩ := hb
  have f1 := FP.Core.val64_fits a
  have f2 := FP.Core.val64_fits b
  unfold mz at g1 hbW
  rw [h1] at f1 g1
  rw [h2] at f2 hbW
  have hd0 : d ≠ 0 := by
    rintro rfl
    have h9 : FP.Core.zmag FP.Core.b64 (.fin t 0 r) = 0 := Nat.zero_mul _
    omega
  have hv : FP.Core.val64 (FP.ddiv a b) = FP.Core.roundRatio FP.Core.b64 (s != t) c d (q - r) := by
    show FP.Core.val64 (FP.Core.ddiv a b) = _
    rw [FP.Core.val64_ddiv, h1, h2]
    simp only [FP.Core.quotient, if_neg hd0]
  have hx1 := f1.2.1
  have hy1 := f2.2.1
  rw [FP.Core.qmin_b64] at hx1 hy1
  refine bd_of hv (by omega) (e0 := 2 * -1074 - r) (by omega) (by omega) hV hVt ?_
  have e1 : FP.Core.inUnits c (q - r) (2 * -1074 - r) = FP.Core.zmag FP.Core.b64 (.fin s c q) * 2 ^ 1074 := by
    show c * _ = c * _ * _
    rw [Nat.mul_assoc, ← Nat.pow_add]
    congr 2
    rw [FP.Core.qmin_b64]
    omega
  have e2 : 2 ^ (-1074 - (2 * -1074 - r)).toNat * d = FP.Core.zmag FP.Core.b64 (.fin t d r) := by
    show _ = d * _
    rw [Nat.mul_comm]
    congr 2
    rw [FP.Core.qmin_b64]
    omega
  rw [e1, Nat.mul_assoc, e2]
  refine Nat.le_trans (Nat.mul_le_mul_right _ g1) (Nat.le_trans h (Nat.mul_le_mul_left _ hbW))
theorem val_neg (a : UInt64) : FP.Core.val64 (FP.dneg a) = FP.Core.negate (FP.Core.val64 a) := by
  refine FP.Core.val64_neg_bits (a := a) (b := FP.dneg a) ?_
  have hx : (FP.dneg a).toNat = a.toNat ^^^ 2 ^ 63 := by
    unfold FP.dneg
    rw [UInt64.toNat_xor]
    rfl
  rw [hx]
  have hlt : a.toNat < 2 ^ 64 := a.toNat_lt
  by_cases hb : a.toNat.testBit 63
  · left
    have h1 : a.toNat = (a.toNat - 2 ^ 63) + 2 ^ 63 := by
      have := Nat.ge_two_pow_of_testBit hb
      omega
    have h2 : a.toNat - 2 ^ 63 < 2 ^ 63 := by omega
    have h3 : a.toNat ^^^ 2 ^ 63 = a.toNat - 2 ^ 63 := by
      generalize a.toNat - 2 ^ 63 = y at h1 h2
      rw [h1]
      have h4 : y + 2 ^ 63 = y ^^^ 2 ^ 63 := by
        apply Nat.eq_of_testBit_eq
        intro i
        rw [Nat.testBit_xor, Nat.testBit_two_pow]
        by_cases hi : 63 = i
        · subst hi
          have : y.testBit 63 = false := Nat.testBit_lt_two_pow h2
          rw [Nat.add_comm, Nat.testBit_two_pow_add_eq, this]
          simp
        · by_cases hi2 : i < 63
          · rw [Nat.add_comm, Nat.testBit_two_pow_add_gt hi2]
            simp [hi]
          · have a1 : y.testBit i = false := Nat.testBit_lt_two_pow (Nat.lt_of_lt_of_le h2 (Nat.pow_le_pow_right (by decide) (by omega)))
            have a2 : (y + 2 ^ 63).testBit i = false := Nat.testBit_lt_two_pow (Nat.lt_of_lt_of_le (show y + 2 ^ 63 < 2 ^ 64 by omega) (Nat.pow_le_pow_right (by decide) (by omega)))
            rw [a1, a2]
            simp [hi]
      rw [h4, Nat.xor_assoc, Nat.xor_self, Nat.xor_zero]
    rw [h3]
    exact h1
  · right
    have h2 : a.toNat < 2 ^ 63 := by
      refine Nat.lt_of_not_le fun hle => hb ?_
      have h5 : a.toNat / 2 ^ 63 = 1 := by omega
      rw [Nat.testBit_eq_decide_div_mod_eq, h5]
      rfl
    generalize a.toNat = y at h2
    apply Nat.eq_of_testBit_eq
    intro i
    rw [Nat.testBit_xor, Nat.testBit_two_pow]
    by_cases hi : 63 = i
    · subst hi
      have : y.testBit 63 = false := Nat.testBit_lt_two_pow h2
      rw [Nat.add_comm, Nat.testBit_two_pow_add_eq, this]
      simp
    · by_cases hi2 : i < 63
      · rw [Nat.add_comm, Nat.testBit_two_pow_add_gt hi2]
        simp [hi]
      · have a1 : y.testBit i = false := Nat.testBit_lt_two_pow (Nat.lt_of_lt_of_le h2 (Nat.pow_le_pow_right (by decide) (by omega)))
        have a2 : (y + 2 ^ 63).testBit i = false := Nat.testBit_lt_two_pow (Nat.lt_of_lt_of_le (show y + 2 ^ 63 < 2 ^ 64 by omega) (Nat.pow_le_pow_right (by decide) (by omega)))
        rw [a1, a2]
        simp [hi]
theorem nn_neg {a : UInt64} : nnan (FP.dneg a) ↔ nnan a := by
  unfold nnan
  rw [val_neg]
  cases FP.Core.val64 a <;> simp [FP.Core.negate]
theorem mz_neg (a : UInt64) : mz (FP.dneg a) = mz a := by
  unfold mz
  rw [val_neg]
  cases FP.Core.val64 a <;> rfl
theorem zv_neg (a : UInt64) : zv (FP.dneg a) = -zv a := by
  unfold zv
  rw [val_neg, FP.Core.zval_negate]
theorem Bd.neg {V : Nat} {a : UInt64} (h : Bd V a) : Bd V (FP.dneg a) := by
  refine ⟨?_, by rw [mz_neg]; exact h.2⟩
  obtain ⟨s, c, q, h1⟩ := h.1
  exact ⟨!s, c, q, by rw [val_neg, h1]; rfl⟩
theorem zv_mz (a : UInt64) : (zv a).natAbs = mz a := by
  unfold zv mz FP.Core.zval
  rw [FP.Core.natAbs_signed]
/-! the same with a factor and a power of two -/
def Bc (c K : Nat) (a : UInt64) : Prop := Bd (c * 2 ^ K) a
theorem top_of {c K : Nat} (hc : c < 2 ^ 53) (hK : K ≤ 2045) : c * 2 ^ K < 2 ^ 2098 := by
  calc c * 2 ^ K < 2 ^ 53 * 2 ^ K := Nat.mul_lt_mul_of_pos_right hc (Nat.two_pow_pos _)
    _ = 2 ^ (53 + K) := (Nat.pow_add ..).symm
    _ ≤ 2 ^ 2098 := Nat.pow_le_pow_right (by decide) (by omega)
theorem Bc.add {c1 c2 K : Nat} {a b : UInt64} (ha : Bc c1 K a) (hb : Bc c2 K b) (hc : c1 + c2 < 2 ^ 53) (hK : K ≤ 2045) : Bc (c1 + c2) K (FP.dadd a b) :=
  Bd.add ha hb (rep_of _ _ hc hK) (top_of hc hK) (Nat.le_of_eq (Nat.add_mul ..).symm)
theorem Bc.sub {c1 c2 K : Nat} {a b : UInt64} (ha : Bc c1 K a) (hb : Bc c2 K b) (hc : c1 + c2 < 2 ^ 53) (hK : K ≤ 2045) : Bc (c1 + c2) K (FP.dsub a b) :=
  Bd.sub ha hb (rep_of _ _ hc hK) (top_of hc hK) (Nat.le_of_eq (Nat.add_mul ..).symm)
theorem Bc.mul {c1 c2 K1 K2 : Nat} {a b : UInt64} (ha : Bc c1 K1 a) (hb : Bc c2 K2 b) (hc : c1 * c2 < 2 ^ 53) (h1 : 1074 ≤ K1 + K2) (hK : K1 + K2 - 1074 ≤ 2045) : Bc (c1 * c2) (K1 + K2 - 1074) (FP.dmul a b) := by
  refine Bd.mul ha hb (rep_of _ _ hc hK) (top_of hc hK) (Nat.le_of_eq ?_)
  rw [Nat.mul_assoc (c1 * c2), ← Nat.pow_add, Nat.sub_add_cancel h1, Nat.pow_add, Nat.mul_mul_mul_comm]
theorem Bc.div {c1 K1 L : Nat} {a b : UInt64} (ha : Bc c1 K1 a) (hb : FP.Core.DFin b) (hbL : 2 ^ L ≤ mz b) (hc : c1 < 2 ^ 53) (h1 : L ≤ K1 + 1074) (hK : K1 + 1074 - L ≤ 2045) : Bc c1 (K1 + 1074 - L) (FP.ddiv a b) := by
  refine Bd.div ha hb (Nat.two_pow_pos L) hbL (rep_of _ _ hc hK) (top_of hc hK) (Nat.le_of_eq ?_)
  rw [Nat.mul_assoc, Nat.mul_assoc, ← Nat.pow_add, ← Nat.pow_add, Nat.sub_add_cancel h1]
theorem Bc.neg {c K : Nat} {a : UInt64} (h : Bc c K a) : Bc c K (FP.dneg a) := Bd.neg h
theorem Bc.isn {c K : Nat} {a : UInt64} (h : Bc c K a) : isn a = true := Bd.isn h
theorem Bc.nn {c K : Nat} {a : UInt64} (h : Bc c K a) : nnan a := Bd.nn h
theorem Bc.c {c c' K : Nat} {a : UInt64} (h : Bc c K a) (hc : c ≤ c') : Bc c' K a := Bd.up h (Nat.mul_le_mul_right _ hc)
theorem Bc.k {c K K' : Nat} {a : UInt64} (h : Bc c K a) (hK : K ≤ K') : Bc c K' a := Bd.up h (Nat.mul_le_mul_left _ (Nat.pow_le_pow_right (by decide) hK))
theorem Bc.one {c K : Nat} (t : Nat) {a : UInt64} (h : Bc c K a) (hc : c ≤ 2 ^ t) : Bc 1 (K + t) a := by
  refine Bd.up h ?_
  rw [Nat.one_mul, Nat.add_comm, Nat.pow_add]
  exact Nat.mul_le_mul_right _ hc
