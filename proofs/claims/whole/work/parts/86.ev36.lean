/-! reading: digits -/
theorem dig_cases (c : Int32) : c < 48 ∨ 57 < c ∨ ∃ k, k < 10 ∧ c = nI (48 + k) := by
  by_cases h1 : c < 48
  · exact Or.inl h1
  · by_cases h2 : 57 < c
    · exact Or.inr (Or.inl h2)
    · refine Or.inr (Or.inr ?_)
      have a1 : (48 : Int) ≤ c.toInt := by
        rw [Int32.lt_iff_toInt_lt] at h1
        exact Int.not_lt.mp h1
      have a2 : c.toInt ≤ 57 := by
        rw [Int32.lt_iff_toInt_lt] at h2
        exact Int.not_lt.mp h2
      refine ⟨(c.toInt - 48).toNat, by omega, ?_⟩
      refine Int32.toInt_inj.mp ?_
      rw [nI_toInt (by omega)]
      omega
def isD (L : Nat) (ch : Nat → Int32) (p : Nat) : Prop := p < L ∧ ∃ k, k < 10 ∧ ch p = nI (48 + k)
def dgt (ch : Nat → Int32) (p : Nat) : Nat := (ch p).toNatClampNeg - 48
def dV (ch : Nat → Int32) (p V : Nat) : Nat → Nat
  | 0 => V
  | k + 1 => dV ch p V k * 10 + dgt ch (p + k)
theorem isD_dg {L p : Nat} {ch : Nat → Int32} (h : isD L ch p) : dgt ch p < 10 ∧ ch p = nI (48 + dgt ch p) ∧ ch p - 48 = nI (dgt ch p) := by
  obtain ⟨_, k, hk, e⟩ := h
  have d : dgt ch p = k := by
    unfold dgt
    rw [e, nI_clamp (by omega)]
    omega
  rw [d]
  refine ⟨hk, e, ?_⟩
  rw [e]
  refine (show ∀ k, k < 10 → nI (48 + k) - 48 = nI k by decide) k hk
theorem dig_ok : ∀ k, k < 10 → ¬ nI (48 + k) < 48 ∧ ¬ 57 < nI (48 + k) := by decide
theorem dV_lt {L p V B : Nat} {ch : Nat → Int32} (hV : V < B) : ∀ k, (∀ i, i < k → isD L ch (p + i)) → dV ch p V k < B * 10 ^ k := by
  intro k
  induction k with
  | zero => intro _; simpa [dV] using hV
  | succ k ih =>
    intro h
    have a := ih fun i hi => h i (by omega)
    have b := (isD_dg (h k (by omega))).1
    show dV ch p V k * 10 + dgt ch (p + k) < _
    rw [Nat.pow_succ, ← Nat.mul_assoc]
    generalize B * 10 ^ k = X at *
    omega
theorem lit10i : (10 : Int32) = nI 10 := rfl
theorem e_takeDigits {L p V t M : Nat} {ch : Nat → Int32} (rf : Int32) (rv : UInt64) (rn rfa : Int32) (hL : L ≤ 300) (hM : M ≤ 4) (ht : t ≤ M) (hd : ∀ i, i < t → isD L ch (p + i)) (he : t = M ∨ ¬ isD L ch (p + t)) (hp : p ≤ L) : s_Tr_takeDigits (nI L) (nI p) rf (nI V) rv rn rfa ch (nI M) = some (nI t, nI (p + t), nI (dV ch p V t)) := by
  unfold s_Tr_takeDigits s_Tr_takeDigits_L2
  have hpt : p + t ≤ L := by
    by_cases h0 : t = 0
    · omega
    · have := (hd (t - 1) (by omega)).1
      omega
  refine loop_b t (fun k => (nI (p + k), nI (dV ch p V k), nI k)) (nI (p + t), nI (dV ch p V t), nI t) rfl (by omega) (fun k hk => ?_) ?_ rfl
  · have h := hd k hk
    obtain ⟨a, b, c⟩ := isD_dg h
    have h1 := h.1
    have hk' := dig_ok _ a
    unfold s_Tr_takeDigits_B2
    simp only []
    rw [if_neg (nI_ge (by omega) (by omega)), if_neg (nI_ge (by omega) (by omega)), inb_nI (by omega) (by omega), nI_clamp (by omega), c, b, if_neg hk'.1, if_neg hk'.2]
    simp only [gd_t, nI_1]
    rw [lit10i, nI_mul, nI_add]
    rfl
  · unfold s_Tr_takeDigits_B2
    simp only []
    rcases he with e | e
    · rw [if_pos (nI_le (by omega) (by omega))]
    · by_cases hq : t = M
      · rw [if_pos (nI_le (by omega) (by omega))]
      · rw [if_neg (nI_ge (by omega) (by omega))]
        by_cases hl : p + t < L
        · rw [if_neg (nI_ge (by omega) (by omega)), inb_nI (by omega) (by omega), nI_clamp (by omega)]
          simp only [gd_t]
          rcases dig_cases (ch (p + t)) with c | c | c
          · rw [if_pos c]
          · by_cases c2 : ch (p + t) < 48
            · rw [if_pos c2]
            · rw [if_neg c2, if_pos c]
          · exact absurd ⟨hl, c⟩ e
        · rw [if_pos (nI_le (by omega) (by omega))]
/-! the reference's digits -/
theorem num_step {V k : Nat} (hV : V < 20000000) (hk : k < 10) : isn (FP.dmul (FP.i2d (nI V)) 4621819117588971520) = true ∧ isn (FP.dadd (FP.dmul (FP.i2d (nI V)) 4621819117588971520) (FP.i2d (nI k))) = true ∧ FP.dadd (FP.dmul (FP.i2d (nI V)) 4621819117588971520) (FP.i2d (nI k)) = FP.i2d (nI (V * 10 + k)) := by
  have t10 : FP.Core.DInt 10 4621819117588971520 := by
    have := FP.Core.i2d_int 10
    rw [show FP.Core.i2d 10 = 4621819117588971520 by decide +kernel] at this
    exact this
  have a := FP.Core.i2d_int (nI V)
  rw [nI_toInt (by omega)] at a
  have b := FP.Core.i2d_int (nI k)
  rw [nI_toInt (by omega)] at b
  have m := FP.Core.dmul_int a t10 (by omega)
  have s := FP.Core.dadd_int m b (by omega)
  refine ⟨isn_of (FP.Core.DInt_ne_nan m), isn_of (FP.Core.DInt_ne_nan s), ?_⟩
  by_cases h0 : V * 10 + k = 0
  · have h1 : V = 0 := by omega
    have h2 : k = 0 := by omega
    subst h1 h2
    decide +kernel
  · have r := FP.Core.i2d_int (nI (V * 10 + k))
    rw [nI_toInt (by omega)] at r
    refine FP.Core.dint_unique (i := (V : Int) * 10 + k) (by omega) s ?_
    rw [show ((V * 10 + k : Nat) : Int) = (V : Int) * 10 + k by omega] at r
    exact r
theorem e_isDigit {m n L p : Nat} {ch tx : Nat → Int32} (vw ve vt vs vo v2 vnm vnn : Int32) (vnu : UInt64) (vb : Int32) (hL : L ≤ 300) (hp : p ≤ L) (ht : ∀ q, q < L → tx q = ch q) : Ok (s_M_isDigit (nI m) (nI n) (nI L) vw ve vt (nI p) vs vo v2 vnm vnn vnu vb tx) (fun r => (r = 1 ∧ isD L ch p) ∨ (r = 0 ∧ ¬ isD L ch p)) := by
  unfold s_M_isDigit s_M_in s_M_in_J14
  rw [e_here _ _ _ _ _ _ _ _ _ _ hL hp]
  simp only [Option.bind_some]
  by_cases hl : p < L
  · rw [if_pos hl, ht p hl]
    rcases dig_cases (ch p) with c | c | c
    · rw [if_pos c]
      refine Ok.mk (Or.inr ⟨rfl, fun h => ?_⟩)
      have h1 := isD_dg h
      rw [h1.2.1] at c
      exact (dig_ok _ h1.1).1 c
    · have hn : ¬ isD L ch p := fun h => by
        have h1 := isD_dg h
        rw [h1.2.1] at c
        exact (dig_ok _ h1.1).2 c
      by_cases c2 : ch p < 48
      · rw [if_pos c2]
        exact Ok.mk (Or.inr ⟨rfl, hn⟩)
      · rw [if_neg c2, if_pos c]
        exact Ok.mk (Or.inr ⟨rfl, hn⟩)
    · obtain ⟨k, hk, e⟩ := c
      have h1 := dig_ok k hk
      rw [e, if_neg h1.1, if_neg h1.2]
      exact Ok.mk (Or.inl ⟨rfl, hl, k, hk, e⟩)
  · rw [if_neg hl, if_pos i32_m1.2.2.2.2.2]
    exact Ok.mk (Or.inr ⟨rfl, fun h => hl h.1⟩)
theorem e_mdigits {m n L p V t M : Nat} {ch tx : Nat → Int32} (vw ve vt vs vo v2 vnm vnn : Int32) (hL : L ≤ 300) (htx : ∀ q, q < L → tx q = ch q) (hM : M ≤ 4) (hV : V * 10 ^ M ≤ 9999000) (ht : t ≤ M) (hd : ∀ i, i < t → isD L ch (p + i)) (he : t = M ∨ ¬ isD L ch (p + t)) (hp : p ≤ L) : s_M_digits (nI m) (nI n) (nI L) vw ve vt (nI p) vs vo v2 vnm vnn (FP.i2d (nI V)) 0 tx (nI M) = some (nI t, if t = 0 then nI p else vw, nI (p + t), FP.i2d (nI (dV ch p V t)), if t = 0 then 1 else 0) := by
  unfold s_M_digits s_M_digits_L2
  have hpt : p + t ≤ L := by
    by_cases h0 : t = 0
    · omega
    · have := (hd (t - 1) (by omega)).1
      omega
  refine loop_b t (fun k => (nI (p + k), FP.i2d (nI (dV ch p V k)), nI k)) (nI (p + t), FP.i2d (nI (dV ch p V t)), nI t) rfl (by omega) (fun k hk => ?_) ?_ ?_
  · have h := hd k hk
    have h1 := h.1
    obtain ⟨a, b, c⟩ := isD_dg h
    have hb : dV ch p V k < 20000000 := by
      have h2 := dV_lt (L := L) (p := p) (ch := ch) (V := V) (B := V + 1) (by omega) k (fun i hi => hd i (by omega))
      have h3 : 10 ^ k ≤ 10 ^ M := Nat.pow_le_pow_right (by omega) (by omega)
      have h4 : 10 ^ M ≤ 10 ^ 4 := Nat.pow_le_pow_right (by omega) (by omega)
      have h5 : (V + 1) * 10 ^ k ≤ (V + 1) * 10 ^ M := Nat.mul_le_mul_left _ h3
      rw [Nat.succ_mul V (10 ^ M)] at h5
      omega
    obtain ⟨n1, n2, n3⟩ := num_step hb a
    rw [n3] at n2
    unfold s_M_digits_B2
    obtain ⟨r, er, hr⟩ := e_isDigit (m := m) (n := n) (ch := ch) vw ve vt vs vo v2 vnm vnn (FP.i2d (nI (dV ch p V k))) 0 hL (show p + k ≤ L by omega) htx
    simp only [er, Option.bind_some]
    rcases hr with ⟨rfl, _⟩ | ⟨_, hr⟩
    · rw [if_neg i32_10, if_neg (nI_ge (by omega) (by omega)), e_here _ _ _ _ _ _ _ _ _ _ hL (by omega), if_pos h1, htx _ h1]
      simp only [Option.bind_some, c, n1, n2, n3, gd_t, nI_1]
      rfl
    · exact absurd h hr
  · unfold s_M_digits_B2
    obtain ⟨r, er, hr⟩ := e_isDigit (m := m) (n := n) (ch := ch) vw ve vt vs vo v2 vnm vnn (FP.i2d (nI (dV ch p V t))) 0 hL (show p + t ≤ L by omega) htx
    simp only [er, Option.bind_some]
    rcases hr with ⟨rfl, hr⟩ | ⟨rfl, hr⟩
    · rw [if_neg i32_10, if_pos (nI_le (by rcases he with e | e; omega; exact absurd hr e) (by omega))]
    · rw [if_pos rfl]
  · unfold s_M_digits_J51 s_M_fail
    by_cases h0 : t = 0
    · subst h0
      simp only [↓reduceIte, isb_1, gd_t, nI_0, Option.bind_some, Nat.add_zero]
    · simp only [if_neg h0]
      rw [if_neg (nI_ne0 (by omega) (by omega))]
