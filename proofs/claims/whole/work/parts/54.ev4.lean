/-! powers of two -/
def p2 (k : Nat) : UInt64 := UInt64.ofNat ((983 + k) * 4503599627370496)
def two : UInt64 := 4611686018427387904
def fin64 (a : UInt64) : Bool := match FP.Core.val64 a with
  | .fin _ _ _ => true
  | _ => false
theorem fin_of {a : UInt64} (h : fin64 a = true) : FP.Core.DFin a := by
  unfold fin64 at h
  unfold FP.Core.DFin
  split at h
  · next s c q e => exact ⟨s, c, q, e⟩
  · cases h
theorem p2_tab : ∀ k, k < 80 → FP.dmul (p2 k) two = p2 (k + 1) ∧ FP.ddiv (p2 (k + 1)) two = p2 k ∧ zv (p2 k) = 2 ^ (1034 + k) ∧ mz (p2 k) = 2 ^ (1034 + k) ∧ fin64 (p2 k) = true := by
  decide +kernel
theorem p2_mul {k : Nat} (h : k < 80) : FP.dmul (p2 k) two = p2 (k + 1) := (p2_tab k h).1
theorem p2_div {k : Nat} (h : k < 80) : FP.ddiv (p2 (k + 1)) two = p2 k := (p2_tab k h).2.1
theorem p2_zv {k : Nat} (h : k < 80) : zv (p2 k) = 2 ^ (1034 + k) := (p2_tab k h).2.2.1
theorem p2_mz {k : Nat} (h : k < 80) : mz (p2 k) = 2 ^ (1034 + k) := (p2_tab k h).2.2.2.1
theorem p2_fin {k : Nat} (h : k < 80) : FP.Core.DFin (p2 k) := fin_of (p2_tab k h).2.2.2.2
theorem p2_bc {k : Nat} (h : k < 80) : Bc 1 (1034 + k) (p2 k) := ⟨p2_fin h, by rw [p2_mz h, Nat.one_mul]; exact Nat.le_refl _⟩
theorem p2_nn {k : Nat} (h : k < 80) : nnan (p2 k) := (p2_bc h).nn
theorem p2_1 : p2 40 = FP.dconst1 := by decide +kernel
theorem ex_least {P : Nat → Prop} : ∀ (n : Nat), P n → ∃ m, m ≤ n ∧ (∀ k, k < m → ¬ P k) ∧ P m := by
  intro n
  induction n using Nat.strongRecOn with
  | ind n ih =>
    intro hn
    by_cases h : ∃ k, k < n ∧ P k
    · obtain ⟨k, hk, hp⟩ := h
      obtain ⟨m, h1, h2, h3⟩ := ih k hk hp
      exact ⟨m, by omega, h2, h3⟩
    · exact ⟨n, Nat.le_refl _, fun k hk hp => h ⟨k, hk, hp⟩, hn⟩
/-- the power of two for 1/t = v, with v between 2^-40 and 2^30 -/
theorem e_power2 {t v : UInt64} (hv : FP.ddiv FP.dconst1 t = v) (htn : nnan t) (ht : 0 < zv t) (hn : nnan v) (h1 : zv (p2 0) ≤ zv v) (h2 : zv v < zv (p2 72)) : ∃ e, e < 72 ∧ s_Sc_powerFor t = some (p2 e) ∧ s_M_power t = some (p2 e) ∧ zv (p2 e) ≤ zv v ∧ ¬ zv (p2 (e + 1)) ≤ zv v := by
  obtain ⟨n, hn1, hn2, hn3⟩ := ex_least (P := fun k => zv (p2 (40 - k)) ≤ zv v) 40 h1
  obtain ⟨n2, hm1, hm2, hm3⟩ := ex_least (P := fun k => ¬ zv (p2 (40 - n + k + 1)) ≤ zv v) (71 - (40 - n)) (by
    intro h
    rw [show 40 - n + (71 - (40 - n)) + 1 = 72 by omega] at h
    exact absurd h2 (Int.not_lt.mpr h))
  have hm4 : n2 ≤ 60 := by
    by_cases h0 : n = 0
    · subst h0; omega
    · have := hn2 (n - 1) (by omega)
      by_cases h3 : n2 = 0
      · omega
      · exfalso
        have h4 := hm2 0 (by omega)
        have h4 : zv (p2 (40 - n + 0 + 1)) ≤ zv v := Classical.byContradiction h4
        rw [show 40 - n + 0 + 1 = 40 - (n - 1) by omega] at h4
        exact this h4
  have hk : 40 - n + n2 < 72 := by omega
  have hle : zv (p2 (40 - n + n2)) ≤ zv v := by
    by_cases h3 : n2 = 0
    · subst h3; exact hn3
    · have h4 := hm2 (n2 - 1) (by omega)
      have h4 : zv (p2 (40 - n + (n2 - 1) + 1)) ≤ zv v := Classical.byContradiction h4
      rw [show 40 - n + (n2 - 1) + 1 = 40 - n + n2 by omega] at h4
      exact h4
  have i1 : isn v = true := isn_of hn
  have i2 : ∀ k, k < 80 → isn (p2 k) = true := fun k h => (p2_bc h).isn
  refine ⟨40 - n + n2, hk, ?_, ?_, hle, hm3⟩
  · unfold s_Sc_powerFor
    rw [if_pos ((cv_gt htn nn_0).mpr (by rw [zv_0]; exact ht)), hv]
    simp only [i1, gd_t]
    unfold s_Sc_powerFor_L18
    refine loop_b n (fun k => (p2 (40 - k), nI k)) (p2 (40 - n)) (by rw [← p2_1]; rfl) (by omega) (fun k hk => ?_) ?_ ?_
    · have c1 : ¬ Op.cmpValue (FP.dcmp (p2 (40 - k)) v) .l ≤ 0 := fun h => hn2 k hk ((cv_le (p2_nn (by omega)) hn).mp h)
      have c2 : FP.ddiv (p2 (40 - k)) 4611686018427387904 = p2 (40 - (k + 1)) := by
        rw [show 40 - k = 40 - (k + 1) + 1 by omega]
        exact p2_div (by omega)
      simp (disch := omega) only [s_Sc_powerFor_B18, show (64 : Int32) = nI 64 from rfl, nI_leI, if_neg, c1, c2, i2, gd_t, nI_1, ↓reduceIte]
    · have c1 : Op.cmpValue (FP.dcmp (p2 (40 - n)) v) .l ≤ 0 := (cv_le (p2_nn (by omega)) hn).mpr hn3
      simp (disch := omega) only [s_Sc_powerFor_B18, show (64 : Int32) = nI 64 from rfl, nI_leI, if_neg, c1, ↓reduceIte]
    · unfold s_Sc_powerFor_J46 s_Sc_powerFor_L49
      refine loop_b n2 (fun k => (p2 (40 - n + k), nI k)) (p2 (40 - n + n2)) (by simp only [Nat.add_zero]; rfl) (by omega) (fun k hk => ?_) ?_ rfl
      · have c2 : FP.dmul (p2 (40 - n + k)) 4611686018427387904 = p2 (40 - n + (k + 1)) := p2_mul (by omega)
        have c1 : ¬ 0 < Op.cmpValue (FP.dcmp (p2 (40 - n + (k + 1))) v) .g := by
          rw [cv_gt (p2_nn (by omega)) hn]
          have := Classical.byContradiction (hm2 k hk)
          rw [show 40 - n + (k + 1) = 40 - n + k + 1 by omega]
          exact Int.not_lt.mpr this
        simp (disch := omega) only [s_Sc_powerFor_B49, show (64 : Int32) = nI 64 from rfl, nI_leI, if_neg, c2, c1, i2, gd_t, nI_1, ↓reduceIte]
      · have c2 : FP.dmul (p2 (40 - n + n2)) 4611686018427387904 = p2 (40 - n + n2 + 1) := p2_mul (by omega)
        have c1 : 0 < Op.cmpValue (FP.dcmp (p2 (40 - n + n2 + 1)) v) .g := by
          rw [cv_gt (p2_nn (by omega)) hn]
          exact Int.not_le.mp hm3
        simp (disch := omega) only [s_Sc_powerFor_B49, show (64 : Int32) = nI 64 from rfl, nI_leI, if_neg, c2, c1, i2, gd_t, nI_1, ↓reduceIte]
  · unfold s_M_power
    rw [if_neg (fun h => by rw [cv_eq htn nn_0, zv_0] at h; exact absurd ht (by rw [h]; decide)), hv]
    simp only [i1, gd_t]
    unfold s_M_power_L15
    refine loop_b n (fun k => p2 (40 - k)) (p2 (40 - n)) p2_1 (by omega) (fun k hk => ?_) ?_ ?_
    · have c1 : ¬ Op.cmpValue (FP.dcmp (p2 (40 - k)) v) .l ≤ 0 := fun h => hn2 k hk ((cv_le (p2_nn (by omega)) hn).mp h)
      have c2 : FP.ddiv (p2 (40 - k)) 4611686018427387904 = p2 (40 - (k + 1)) := by
        rw [show 40 - k = 40 - (k + 1) + 1 by omega]
        exact p2_div (by omega)
      simp (disch := omega) only [s_M_power_B15, if_neg, c1, c2, i2, gd_t, ↓reduceIte]
    · have c1 : Op.cmpValue (FP.dcmp (p2 (40 - n)) v) .l ≤ 0 := (cv_le (p2_nn (by omega)) hn).mpr hn3
      simp (disch := omega) only [s_M_power_B15, c1, ↓reduceIte]
    · unfold s_M_power_L33
      refine loop_b n2 (fun k => p2 (40 - n + k)) (p2 (40 - n + n2)) (by simp only [Nat.add_zero]) (by omega) (fun k hk => ?_) ?_ rfl
      · have c2 : FP.dmul (p2 (40 - n + k)) 4611686018427387904 = p2 (40 - n + (k + 1)) := p2_mul (by omega)
        have c1 : ¬ 0 < Op.cmpValue (FP.dcmp (p2 (40 - n + (k + 1))) v) .g := by
          rw [cv_gt (p2_nn (by omega)) hn]
          have := Classical.byContradiction (hm2 k hk)
          rw [show 40 - n + (k + 1) = 40 - n + k + 1 by omega]
          exact Int.not_lt.mpr this
        simp (disch := omega) only [s_M_power_B33, c2, c1, i2, gd_t, ↓reduceIte]
      · have c2 : FP.dmul (p2 (40 - n + n2)) 4611686018427387904 = p2 (40 - n + n2 + 1) := p2_mul (by omega)
        have c1 : 0 < Op.cmpValue (FP.dcmp (p2 (40 - n + n2 + 1)) v) .g := by
          rw [cv_gt (p2_nn (by omega)) hn]
          exact Int.not_le.mp hm3
        simp (disch := omega) only [s_M_power_B33, c2, c1, i2, gd_t, ↓reduceIte]
/-- a greatest size from which a scale is made -/
def gt (t : UInt64) : Prop := nnan t ∧ (zv t = 0 ∨ (sg t = false ∧ Bc 1 1084 t ∧ 2 ^ 1044 ≤ mz t))
def pw (t : UInt64) : UInt64 := (s_M_power t).getD FP.dconst1
theorem e_pw {t : UInt64} (h : gt t) : s_Sc_powerFor t = some (pw t) ∧ s_M_power t = some (pw t) ∧ ∃ e, e < 72 ∧ 30 ≤ e ∧ pw t = p2 e ∧ mz t ≤ 2 ^ (1115 - e) ∧ (mz t = 0 → e = 40) := by
  obtain ⟨hn, h⟩ := h
  rcases h with h | ⟨hs, hb, hl⟩
  · have h1 : s_Sc_powerFor t = some FP.dconst1 := by
      unfold s_Sc_powerFor
      rw [if_neg (fun q => by rw [cv_gt hn nn_0, zv_0, h] at q; exact absurd q (by decide))]
    have h2 : s_M_power t = some FP.dconst1 := by
      unfold s_M_power
      rw [if_pos ((cv_eq hn nn_0).mpr (by rw [zv_0, h]))]
    have h3 : pw t = FP.dconst1 := by unfold pw; rw [h2]; rfl
    refine ⟨by rw [h3, h1], by rw [h3, h2], 40, by decide, by decide, by rw [h3, p2_1], ?_, fun _ => rfl⟩
    have : mz t = 0 := by
      have := zv_mz t
      rw [h] at this
      exact this.symm
    rw [this]
    exact Nat.zero_le _
  · have hz : zv t = (mz t : Int) := zv_f hs
    have hp : 0 < mz t := Nat.lt_of_lt_of_le (Nat.two_pow_pos _) hl
    have f1 : FP.Core.DFin FP.dconst1 := ⟨_, _, _, FP.Core.val64_dconst1⟩
    have m1 : mz FP.dconst1 = 2 ^ 1074 := by decide +kernel
    have s1 : sg FP.dconst1 = false := by decide +kernel
    have r := rr_div f1 hb.fin hp
    rw [s1, hs] at r
    have hsv : sg (FP.ddiv FP.dconst1 t) = false := r.sg
    have hbm := hb.mz
    rw [Nat.one_mul] at hbm
    have g1 : 2 ^ 1064 ≤ mz (FP.ddiv FP.dconst1 t) := div_ge f1 hb.fin hp (K := 1074) (L := 1084) (by rw [m1]; exact Nat.le_refl _) hbm (by decide) (by decide)
    have g2 : Bc 1 1104 (FP.ddiv FP.dconst1 t) := Bc.div (K1 := 1074) (L := 1044) (c1 := 1) ⟨f1, by rw [m1, Nat.one_mul]; exact Nat.le_refl _⟩ hb.fin hl (by decide) (by decide) (by decide)
    have g3 := g2.mz
    rw [Nat.one_mul] at g3
    have hzv : zv (FP.ddiv FP.dconst1 t) = (mz (FP.ddiv FP.dconst1 t) : Int) := zv_f hsv
    have u1 : (2 : Nat) ^ 1034 ≤ mz (FP.ddiv FP.dconst1 t) := Nat.le_trans (Nat.pow_le_pow_right (by decide) (by decide)) g1
    have u2 : mz (FP.ddiv FP.dconst1 t) < 2 ^ 1106 := Nat.lt_of_le_of_lt g3 (Nat.pow_lt_pow_right (by decide) (by decide))
    obtain ⟨e, he, h1, h2, h3, h5⟩ := e_power2 (t := t) rfl hn (by rw [hz]; exact Int.natCast_pos.mpr hp) g2.nn (by
      rw [p2_zv (by decide), hzv]
      exact_mod_cast u1) (by
      rw [p2_zv (by decide), hzv]
      exact_mod_cast u2)
    have h4 : pw t = p2 e := by unfold pw; rw [h2]; rfl
    rw [p2_zv (by omega), hzv] at h3
    have h3' : 2 ^ (1034 + e) ≤ mz (FP.ddiv FP.dconst1 t) := by exact_mod_cast h3
    refine ⟨by rw [h4, h1], by rw [h4, h2], e, he, ?_, h4, ?_, fun q => absurd q (Nat.ne_of_gt hp)⟩
    · rw [p2_zv (by omega), hzv] at h5
      have h5' : ¬ 2 ^ (1034 + (e + 1)) ≤ mz (FP.ddiv FP.dconst1 t) := fun q => h5 (by exact_mod_cast q)
      refine Nat.le_of_not_lt fun hlt => h5' (Nat.le_trans (Nat.pow_le_pow_right (by decide) (by omega)) g1)
    · refine Nat.le_of_not_lt fun hlt => ?_
      have b := Bc.div (K1 := 1074) (L := 1115 - e) (c1 := 1) (a := FP.dconst1) ⟨f1, by rw [m1, Nat.one_mul]; exact Nat.le_refl _⟩ hb.fin (Nat.le_of_lt hlt) (by decide) (by omega) (by omega)
      have b2 := b.mz
      rw [Nat.one_mul] at b2
      have := Nat.le_trans h3' b2
      have := (Nat.pow_le_pow_iff_right (by decide)).mp this
      omega
