/-! the matrix: bounds -/
theorem mul_np {a b : UInt64} (ha : FP.Core.DFin a) (hb : FP.Core.DFin b) (h : 0 ≤ zv b) (h2 : zv a ≤ 0) : zv (FP.dmul a b) ≤ 0 := by
  have r := rr_mul ha hb
  cases hs : (sg a != sg b) with
  | true =>
    rw [zv_t (r.sg.trans hs)]
    have := Int.natCast_nonneg (mz (FP.dmul a b))
    generalize (mz (FP.dmul a b) : Int) = N at *
    omega
  | false =>
    have h0 : mz a * mz b = 0 := by
      cases ha' : sg a <;> cases hb' : sg b
      · rw [zv_f ha'] at h2
        rw [show mz a = 0 by omega, Nat.zero_mul]
      · rw [ha', hb'] at hs; cases hs
      · rw [ha', hb'] at hs; cases hs
      · rw [zv_t hb'] at h
        rw [show mz b = 0 by omega, Nat.mul_zero]
    have := r.le rep_0 (by rw [h0]; exact Nat.zero_le _)
    have h1 : mz (FP.dmul a b) = 0 := Nat.le_zero.mp this
    have := (zv_le_mz (FP.dmul a b)).1
    rw [h1] at this
    exact this
theorem sq_nn {a d : UInt64} {K : Nat} (ha : FP.Core.DFin a) (hd : FP.Core.DFin d) (h : 0 ≤ zv d) (hf : Bc 1 K (FP.dmul a d)) : nnan (FP.dmul (FP.dmul a d) a) ∧ 0 ≤ zv (FP.dmul (FP.dmul a d) a) := by
  rcases Int.le_total 0 (zv a) with h1 | h1
  · exact mul_nn hf.fin ha (Or.inl ⟨(mul_nn ha hd (Or.inl ⟨h1, h⟩)).2, h1⟩)
  · exact mul_nn hf.fin ha (Or.inr ⟨mul_np ha hd h h1, h1⟩)
theorem c13_lo : (2 : Int) ^ 1030 ≤ zv 4412443251819771522 := by decide +kernel
theorem gd13_lo {G : (Nat → Nat → UInt64)} {k : Nat} (h : gd13 G k) : sg (tW G k k) = false ∧ 2 ^ 1030 ≤ mz (tW G k k) := by
  have h1 : (2 : Int) ^ 1030 ≤ zv (tW G k k) := Int.le_of_lt (Int.lt_of_le_of_lt c13_lo h)
  have h2 : 0 < zv (tW G k k) := Int.lt_of_lt_of_le (Int.pow_pos (by decide)) h1
  have h3 := zv_pos h2
  refine ⟨h3.1, ?_⟩
  rw [zv_f h3.1] at h1
  exact_mod_cast h1
def RowOk (G : (Nat → Nat → UInt64)) (q : Nat) : Prop := (Bc 1 1168 (tW G q q) ∧ sg (tW G q q) = false ∧ 2 ^ 1030 ≤ mz (tW G q q)) ∧ ∀ l, l < q → Bc 1 1143 (tL G q l)
theorem div_bc {a b : UInt64} {K L M : Nat} (ha : Bc 1 K a) (hb : FP.Core.DFin b) (hl : 2 ^ L ≤ mz b) (hM : M + L = K + 1074) (h : M ≤ 2045) : Bc 1 M (FP.ddiv a b) := by
  have := Bc.div ha hb hl (by decide) (by omega) (by omega)
  rw [show K + 1074 - L = M by omega] at this
  exact this
/-- the row k, with the rows before it good -/
theorem row_w {G : (Nat → Nat → UInt64)} {k : Nat} (hk : k ≤ 4) (hG : ∀ l, l ≤ k → Bc 1 1168 (G k l)) (hr : ∀ q, q < k → RowOk G q) : ∀ l, l < k → (∀ q, q < l → Bc 1 1955 (FP.dmul (tL G k q) (tW G q q))) ∧ okS (tWs G k l) l (G k l) ∧ Bc 1 (1216 + 215 * l) (tL G k l) := by
  intro l
  induction l using Nat.strongRecOn with
  | ind l ih =>
    intro hl
    have h1 : ∀ q, q < l → Bc 1 (1310 + 215 * q) (FP.dmul (tL G k q) (tW G q q)) := fun q hq => mul_bc (ih q hq (by omega)).2.2 (hr q (by omega)).1.1 (by omega) (by omega)
    have h2 : ∀ q, q < l → Bc 1 (1168 + 215 * l) (tWs G k l q) := fun q hq => (mul_bc (M := 1379 + 215 * q) (h1 q hq) ((hr l hl).2 q hq) (by omega) (by omega)).k (by omega)
    obtain ⟨o1, o2⟩ := okS_bc (K := 1168 + 215 * l) (n := l) (by omega) (by omega) h2 ((hG l (by omega)).k (by omega))
    rw [← tW_eq] at o2
    refine ⟨fun q hq => (h1 q hq).k (by omega), o1, ?_⟩
    have d := hr l hl
    exact div_bc (M := 1216 + 215 * l) o2 d.1.1.fin d.1.2.2 (by omega) (by omega)
theorem row_d {G : (Nat → Nat → UInt64)} {k : Nat} (hk : k ≤ 4) (hG : ∀ l, l ≤ k → Bc 1 1168 (G k l)) (hr : ∀ q, q < k → RowOk G q) : (∀ q, q < k → isn (FP.dmul (tL G k q) (tW G q q)) = true) ∧ okS (tWs G k k) k (G k k) ∧ nnan (tW G k k) ∧ (gd13 G k → RowOk G k) := by
  have hw := row_w hk hG hr
  have h1 : ∀ q, q < k → Bc 1 1955 (FP.dmul (tL G k q) (tW G q q)) := fun q hq => (mul_bc (M := 1310 + 215 * q) (hw q hq).2.2 (hr q hq).1.1 (by omega) (by omega)).k (by omega)
  have hD : ∀ q, q < k → 0 ≤ zv (tW G q q) := fun q hq => by
    rw [zv_f (hr q hq).1.2.1]
    exact Int.natCast_nonneg _
  have h2 : ∀ q, q < k → nnan (tWs G k k q) ∧ 0 ≤ zv (tWs G k k q) := fun q hq => sq_nn (hw q hq).2.2.fin (hr q hq).1.1.fin (hD q hq) (h1 q hq)
  have hGk := hG k (Nat.le_refl _)
  obtain ⟨d1, d2, d3⟩ := subs_dn (n := k) (npi_fin hGk.fin) h2
  have e : tW G k k = subR (tWs G k k) k (G k k) := tW_eq G k k
  refine ⟨fun q hq => (h1 q hq).isn, ⟨fun q hq => isn_of (h2 q hq).1, fun q hq => isn_of (d1 (q + 1) (by omega)).1⟩, by rw [e]; exact (d1 k (Nat.le_refl _)).1, fun hg => ?_⟩
  obtain ⟨g1, g2⟩ := gd13_lo hg
  have hz : zv (tW G k k) ≤ zv (G k k) := by rw [e]; exact d2 0 k (Nat.zero_le _) (Nat.le_refl _)
  have hgm := hGk.mz
  rw [Nat.one_mul] at hgm
  have hzG : zv (G k k) ≤ ((2 ^ 1168 : Nat) : Int) := Int.le_trans (zv_le_mz _).1 (by exact_mod_cast hgm)
  have hb : mz (tW G k k) ≤ 2 ^ 1168 := by
    rw [zv_f g1] at hz
    exact_mod_cast Int.le_trans hz hzG
  have hpos : 0 < zv (subR (tWs G k k) k (G k k)) := by
    rw [← e, zv_f g1]
    exact Int.natCast_pos.mpr (Nat.lt_of_lt_of_le (Nat.two_pow_pos _) g2)
  refine ⟨⟨⟨fin_lt (by rw [e]; exact (d1 k (Nat.le_refl _)).1) (Nat.lt_of_le_of_lt hb (Nat.pow_lt_pow_right (by decide) (by decide))), by rw [Nat.one_mul]; exact hb⟩, g1, g2⟩, fun l hl => ?_⟩
  refine ⟨(hw l hl).2.2.fin, ?_⟩
  rw [Nat.one_mul]
  refine Nat.le_of_not_lt fun hlt => ?_
  have a1 : 2 ^ 1099 ≤ mz (FP.dmul (tL G k l) (tW G l l)) := mul_ge (hw l hl).2.2.fin (hr l hl).1.1.fin (Nat.le_of_lt hlt) (hr l hl).1.2.2 (by decide) (by decide)
  have a2 : 2 ^ 1168 ≤ mz (tWs G k k l) := mul_ge (h1 l hl).fin (hw l hl).2.2.fin a1 (Nat.le_of_lt hlt) (by decide) (by decide)
  have a3 := d3 hpos l hl
  have a4 : zv (tWs G k k l) = (mz (tWs G k k l) : Int) := by
    have b1 := (h2 l hl).2
    have b2 := zv_mz (tWs G k k l)
    generalize zv (tWs G k k l) = Z at *
    generalize mz (tWs G k k l) = N at *
    omega
  rw [a4] at a3
  have a5 := Int.lt_of_lt_of_le a3 hzG
  have a6 : mz (tWs G k k l) < 2 ^ 1168 := by exact_mod_cast a5
  exact absurd a2 (Nat.not_le.mpr a6)
theorem rows_ok {G : (Nat → Nat → UInt64)} {m : Nat} (hm : m ≤ 5) (hG : ∀ i, i < m → ∀ l, l ≤ i → Bc 1 1168 (G i l)) : ∀ k, k ≤ m → (∀ q, q < k → gd13 G q) → ∀ q, q < k → RowOk G q := by
  intro k
  induction k with
  | zero => intro _ _ q hq; exact absurd hq (Nat.not_lt_zero _)
  | succ k ih =>
    intro hk hg q hq
    have i := ih (by omega) (fun q hq => hg q (by omega))
    by_cases e : q = k
    · subst e
      exact (row_d (by omega) (hG q (by omega)) i).2.2.2 (hg q (by omega))
    · exact i q (by omega)
theorem facOk_of {G : (Nat → Nat → UInt64)} {m : Nat} (hm : m ≤ 5) (hG : ∀ i, i < m → ∀ l, l ≤ i → Bc 1 1168 (G i l)) : FacOk G m := by
  intro k hk hg
  have hr := rows_ok hm hG k (by omega) hg
  obtain ⟨d1, d2, d3, -⟩ := row_d (by omega) (hG k hk) hr
  refine ⟨fun l hl => ?_, d3⟩
  by_cases e : l = k
  · subst e
    exact ⟨d1, d2, fun q => absurd q (Nat.lt_irrefl _)⟩
  · obtain ⟨w1, w2, w3⟩ := row_w (by omega) (hG k hk) hr l (by omega)
    exact ⟨fun q hq => (w1 q hq).isn, w2, fun _ => w3.isn⟩
/-! solving: bounds -/
theorem z_bc {G : (Nat → Nat → UInt64)} {r : (Nat → UInt64)} {m : Nat} (hm : m ≤ 5) (hR : ∀ q, q < m → RowOk G q) (hr : ∀ i, i < m → Bc 1 1205 (r i)) : ∀ i, i < m → okS (fun q => FP.dmul (tL G i q) (tZ G r q)) i (r i) ∧ Bc 1 (1209 + 73 * i) (tZ G r i) := by
  intro i
  induction i using Nat.strongRecOn with
  | ind i ih =>
    intro hi
    have h1 : ∀ q, q < i → Bc 1 (1205 + 73 * i) (FP.dmul (tL G i q) (tZ G r q)) := fun q hq => (mul_bc (M := 1278 + 73 * q) ((hR i hi).2 q hq) (ih q hq (by omega)).2 (by omega) (by omega)).k (by omega)
    obtain ⟨o1, o2⟩ := okS_bc (K := 1205 + 73 * i) (n := i) (by omega) (by omega) h1 ((hr i hi).k (by omega))
    rw [← tZ_eq] at o2
    exact ⟨o1, o2.k (by omega)⟩
theorem y_bc {G : (Nat → Nat → UInt64)} {r : (Nat → UInt64)} {m : Nat} (hm : m ≤ 5) (hR : ∀ q, q < m → RowOk G q) (hr : ∀ i, i < m → Bc 1 1205 (r i)) : ∀ t, t < m → isn (FP.ddiv (tZ G r (m - 1 - t)) (tW G (m - 1 - t) (m - 1 - t))) = true ∧ okS (fun q => FP.dmul (tL G (m - 1 - t + 1 + q) (m - 1 - t)) (tY G r m (m - 1 - t + 1 + q))) t (FP.ddiv (tZ G r (m - 1 - t)) (tW G (m - 1 - t) (m - 1 - t))) ∧ Bc 1 (1549 + 73 * t) (tY G r m (m - 1 - t)) := by
  intro t
  induction t using Nat.strongRecOn with
  | ind t ih =>
    intro ht
    have hi : m - 1 - t < m := by omega
    have z := (z_bc hm hR hr (m - 1 - t) hi).2.k (K' := 1501) (by omega)
    have d := (hR _ hi).1
    have z2 : Bc 1 1545 (FP.ddiv (tZ G r (m - 1 - t)) (tW G (m - 1 - t) (m - 1 - t))) := div_bc z d.1.fin d.2.2 (by decide) (by decide)
    have h1 : ∀ q, q < t → Bc 1 (1545 + 73 * t) (FP.dmul (tL G (m - 1 - t + 1 + q) (m - 1 - t)) (tY G r m (m - 1 - t + 1 + q))) := fun q hq => by
      have y := (ih (t - 1 - q) (by omega) (by omega)).2.2
      rw [show m - 1 - (t - 1 - q) = m - 1 - t + 1 + q by omega] at y
      exact (mul_bc (M := 1618 + 73 * (t - 1 - q)) ((hR _ (by omega)).2 _ (by omega)) y (by omega) (by omega)).k (by omega)
    obtain ⟨o1, o2⟩ := okS_bc (K := 1545 + 73 * t) (n := t) (by omega) (by omega) h1 (z2.k (by omega))
    refine ⟨z2.isn, o1, ?_⟩
    rw [tY_eq hi, show m - 1 - (m - 1 - t) = t by omega]
    exact o2.k (by omega)
theorem solOk_of {G : (Nat → Nat → UInt64)} {r : (Nat → UInt64)} {m : Nat} (hm : m ≤ 5) (hR : ∀ q, q < m → RowOk G q) (hr : ∀ i, i < m → Bc 1 1205 (r i)) : SolOk G r m ∧ ∀ i, i < m → Bc 1 1841 (tY G r m i) := by
  have h : ∀ i, i < m → isn (FP.ddiv (tZ G r i) (tW G i i)) = true ∧ okS (fun q => FP.dmul (tL G (i + 1 + q) i) (tY G r m (i + 1 + q))) (m - 1 - i) (FP.ddiv (tZ G r i) (tW G i i)) ∧ Bc 1 1841 (tY G r m i) := by
    intro i hi
    obtain ⟨y1, y2, y3⟩ := y_bc hm hR hr (m - 1 - i) (by omega)
    rw [show m - 1 - (m - 1 - i) = i by omega] at y1 y2 y3
    exact ⟨y1, y2, y3.k (by omega)⟩
  exact ⟨⟨fun i hi => (z_bc hm hR hr i hi).1, fun i hi => ⟨(h i hi).1, (h i hi).2.1⟩⟩, fun i hi => (h i hi).2.2⟩
