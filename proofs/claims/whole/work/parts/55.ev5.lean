/-! scales: class and reference -/
theorem lit14 : (14 : Int32) = nI 14 := rfl
theorem lit13 : (13 : Int32) = nI 13 := rfl
theorem lit40 : (40 : Int32) = nI 40 := rfl
theorem nI_mul (a b : Nat) : nI a * nI b = nI (a * b) := (Int32.ofNat_mul a b).symm
theorem loop_ok {σ ε : Type} {body : σ → Option (σ ⊕ ε)} {fuel : Nat} {s0 : σ} (n : Nat) (f : Nat → σ) (e : ε) (h0 : f 0 = s0) (hf : n < fuel) (hs : ∀ k, k < n → body (f k) = some (.inl (f (k + 1)))) (he : body (f n) = some (.inr e)) : Ok (loopO body fuel s0) (fun v => v = e) := by
  rw [← h0]
  exact ⟨e, for_up hs he n 0 fuel (by omega) hf, rfl⟩
/-- a number of a problem: 0, or a millionth to 1000 in size -/
def okn (v : UInt64) : Prop := Bc 1 1084 v ∧ (mz v = 0 ∨ 2 ^ 1054 ≤ mz v)
def Prob (m n : Nat) (A : (Nat → Nat → UInt64)) (b c : (Nat → UInt64)) : Prop := 1 ≤ m ∧ m ≤ 5 ∧ 1 ≤ n ∧ n ≤ 8 ∧ (∀ i, i < m → ∀ j, j < n → okn (A i j)) ∧ (∀ i, i < m → okn (b i)) ∧ ∀ j, j < n → okn (c j)
def gq (L : Nat) (t : UInt64) : Prop := sg t = false ∧ Bc 1 1084 t ∧ (mz t = 0 ∨ 2 ^ L ≤ mz t)
theorem gq.gt {L : Nat} {t : UInt64} (h : gq L t) (hL : 1044 ≤ L) : gt t := by
  refine ⟨h.2.1.nn, ?_⟩
  rcases h.2.2 with h3 | h3
  · left
    rw [zv_f h.1, h3]
    rfl
  · exact Or.inr ⟨h.1, h.2.1, Nat.le_trans (Nat.pow_le_pow_right (by decide) hL) h3⟩
theorem mx_le {f : (Nat → UInt64)} {n : Nat} : ∀ k, k < n → mz (f k) ≤ (zv (mxR f n FP.dconst0)).natAbs ∧ 0 ≤ zv (mxR f n FP.dconst0) := by
  have h0 : ∀ n, 0 ≤ zv (mxR f n FP.dconst0) := by
    intro n
    induction n with
    | zero => show 0 ≤ zv FP.dconst0; rw [zv_0]; exact Int.le_refl 0
    | succ n ih =>
      rw [mxR_s, zv_max]
      exact Int.le_trans ih (Int.le_max_left _ _)
  have h1 : ∀ n k, k < n → (mz (f k) : Int) ≤ zv (mxR f n FP.dconst0) := by
    intro n
    induction n with
    | zero => intro k hk; exact absurd hk (Nat.not_lt_zero _)
    | succ n ih =>
      intro k hk
      rw [mxR_s, zv_max]
      by_cases e : k = n
      · subst e
        refine Int.le_trans ?_ (Int.le_max_right _ _)
        rw [zv_abs, zv_mz]
        exact Int.le_refl _
      · exact Int.le_trans (ih k (by omega)) (Int.le_max_left _ _)
  intro k hk
  refine ⟨?_, h0 n⟩
  have a := h1 n k hk
  have b := h0 n
  generalize zv (mxR f n FP.dconst0) = z at a b
  omega
theorem mx_gq {L : Nat} {f : (Nat → UInt64)} {n : Nat} (h : ∀ k, k < n → Bc 1 1084 (f k) ∧ (mz (f k) = 0 ∨ 2 ^ L ≤ mz (f k))) : gq L (mxR f n FP.dconst0) := by
  induction n with
  | zero => exact ⟨(by decide +kernel : sg FP.dconst0 = false), bc_0 _ _, Or.inl (by decide +kernel : mz FP.dconst0 = 0)⟩
  | succ n ih =>
    have i := ih (fun k hk => h k (by omega))
    have a := h n (by omega)
    rw [mxR_s]
    unfold dmax
    split
    · next hlt =>
      rw [zv_f i.1] at hlt
      have hp : 0 < zv (dabs (f n)) := Int.lt_of_le_of_lt (Int.natCast_nonneg _) hlt
      refine ⟨(zv_pos hp).1, a.1.abs, ?_⟩
      rw [mz_abs]
      exact a.2
    · exact i
theorem mx_mz {f : (Nat → UInt64)} {n k : Nat} (hk : k < n) : mz (f k) ≤ mz (mxR f n FP.dconst0) := by
  have := (mx_le (f := f) k hk).1
  rw [zv_mz] at this
  exact this
/-- the scales themselves -/
def tR (on : Int32) (A : (Nat → Nat → UInt64)) (n i : Nat) : UInt64 := if on = 0 then FP.dconst1 else pw (mxR (A i) n FP.dconst0)
def tV (on : Int32) (A : (Nat → Nat → UInt64)) (m n j : Nat) : UInt64 := if on = 0 then FP.dconst1 else pw (mxR (fun i => FP.dmul (tR on A n i) (A i j)) m FP.dconst0)
theorem m1 : mz FP.dconst1 = 2 ^ 1074 := by decide +kernel
theorem mul_bc {a b : UInt64} {K L M : Nat} (ha : Bc 1 K a) (hb : Bc 1 L b) (hM : M + 1074 = K + L) (hl : M ≤ 2045) : Bc 1 M (FP.dmul a b) := by
  have := Bc.mul ha hb (by decide) (by omega) (by omega)
  rw [show K + L - 1074 = M by omega] at this
  exact this
theorem mul_mz0 {a b : UInt64} (ha : FP.Core.DFin a) (hb : FP.Core.DFin b) (h : mz b = 0) : mz (FP.dmul a b) = 0 := by
  have : mz (FP.dmul a b) ≤ 0 := (rr_mul ha hb).le ⟨_, FP.Core.val64_fits FP.dconst0, nn_0, by decide +kernel⟩ (by rw [h]; exact Nat.zero_le _)
  exact Nat.le_zero.mp this
theorem tR_p {on : Int32} {A : (Nat → Nat → UInt64)} {n i : Nat} (h : ∀ j, j < n → okn (A i j)) : ∃ e, 30 ≤ e ∧ e ≤ 61 ∧ tR on A n i = p2 e ∧ (on = 0 → e = 40) ∧ (¬ on = 0 → ∀ j, j < n → mz (A i j) ≤ 2 ^ (1115 - e)) ∧ (¬ on = 0 → s_Sc_powerFor (mxR (A i) n FP.dconst0) = some (tR on A n i) ∧ s_M_power (mxR (A i) n FP.dconst0) = some (tR on A n i)) := by
  unfold tR
  by_cases ho : on = 0
  · exact ⟨40, by decide, by decide, by rw [if_pos ho, p2_1], fun _ => rfl, fun q => absurd ho q, fun q => absurd ho q⟩
  · have g := mx_gq (L := 1054) (f := A i) (n := n) h
    obtain ⟨h1, h2, e, he, h30, hp, hm, h0⟩ := e_pw (g.gt (by decide))
    refine ⟨e, h30, ?_, by rw [if_neg ho, hp], fun q => absurd q ho, fun _ j hj => Nat.le_trans (mx_mz hj) hm, fun _ => ⟨by rw [if_neg ho, h1], by rw [if_neg ho, h2]⟩⟩
    rcases g.2.2 with h3 | h3
    · rw [h0 h3]; decide
    · have := (Nat.pow_le_pow_iff_right (by decide)).mp (Nat.le_trans h3 hm)
      omega
theorem rA_ok {on : Int32} {A : (Nat → Nat → UInt64)} {n i j : Nat} (h : ∀ j, j < n → okn (A i j)) (hj : j < n) : Bc 1 1084 (FP.dmul (tR on A n i) (A i j)) ∧ (mz (FP.dmul (tR on A n i) (A i j)) = 0 ∨ 2 ^ 1044 ≤ mz (FP.dmul (tR on A n i) (A i j))) := by
  obtain ⟨e, h30, h61, hp, ho0, hm, -⟩ := tR_p (on := on) h
  have a := h j hj
  have q := p2_bc (k := e) (by omega)
  rw [hp]
  refine ⟨?_, ?_⟩
  · by_cases ho : on = 0
    · rw [ho0 ho]
      exact mul_bc (p2_bc (by decide)) a.1 (by decide) (by decide)
    · have hA : Bc 1 (1115 - e) (A i j) := ⟨a.1.fin, by rw [Nat.one_mul]; exact hm ho j hj⟩
      exact (mul_bc (M := 1075) q hA (by omega) (by decide)).k (by decide)
  · rcases a.2 with h3 | h3
    · exact Or.inl (mul_mz0 q.fin a.1.fin h3)
    · refine Or.inr (Nat.le_trans (Nat.pow_le_pow_right (by decide) (j := 1034 + e + 1054 - 1074) (by omega)) (mul_ge q.fin a.1.fin (K := 1034 + e) (L := 1054) ?_ h3 (by omega) (by omega)))
      rw [p2_mz (by omega)]
      exact Nat.le_refl _
theorem tV_p {on : Int32} {A : (Nat → Nat → UInt64)} {m n j : Nat} (h : ∀ i, i < m → ∀ j, j < n → okn (A i j)) (hj : j < n) : ∃ e, 30 ≤ e ∧ e ≤ 71 ∧ tV on A m n j = p2 e ∧ (on = 0 → e = 40) ∧ (¬ on = 0 → ∀ i, i < m → mz (FP.dmul (tR on A n i) (A i j)) ≤ 2 ^ (1115 - e)) ∧ (¬ on = 0 → s_Sc_powerFor (mxR (fun i => FP.dmul (tR on A n i) (A i j)) m FP.dconst0) = some (tV on A m n j) ∧ s_M_power (mxR (fun i => FP.dmul (tR on A n i) (A i j)) m FP.dconst0) = some (tV on A m n j)) := by
  unfold tV
  by_cases ho : on = 0
  · exact ⟨40, by decide, by decide, by rw [if_pos ho, p2_1], fun _ => rfl, fun q => absurd ho q, fun q => absurd ho q⟩
  · have g := mx_gq (L := 1044) (f := fun i => FP.dmul (tR on A n i) (A i j)) (n := m) (fun i hi => rA_ok (h i hi) hj)
    obtain ⟨h1, h2, e, he, h30, hp, hm, h0⟩ := e_pw (g.gt (by decide))
    refine ⟨e, h30, by omega, by rw [if_neg ho, hp], fun q => absurd q ho, fun _ i hi => Nat.le_trans (mx_mz (f := fun i => FP.dmul (tR on A n i) (A i j)) hi) hm, fun _ => ⟨by rw [if_neg ho, h1], by rw [if_neg ho, h2]⟩⟩
/-- the scaled problem -/
def sA (on : Int32) (A : (Nat → Nat → UInt64)) (m n i j : Nat) : UInt64 := FP.dmul (FP.dmul (tR on A n i) (A i j)) (tV on A m n j)
def sB (on : Int32) (A : (Nat → Nat → UInt64)) (b : (Nat → UInt64)) (n i : Nat) : UInt64 := FP.dmul (tR on A n i) (b i)
def sC (on : Int32) (A : (Nat → Nat → UInt64)) (c : (Nat → UInt64)) (m n j : Nat) : UInt64 := FP.dmul (c j) (tV on A m n j)
theorem sA_bc {on : Int32} {A : (Nat → Nat → UInt64)} {m n i j : Nat} (h : ∀ i, i < m → ∀ j, j < n → okn (A i j)) (hi : i < m) (hj : j < n) : Bc 1 1084 (sA on A m n i j) := by
  obtain ⟨e, h30, h71, hp, ho0, hm, -⟩ := tV_p (on := on) h hj
  have a := rA_ok (on := on) (h i hi) hj
  have q := p2_bc (k := e) (by omega)
  unfold sA
  rw [hp]
  by_cases ho : on = 0
  · rw [ho0 ho]
    exact mul_bc a.1 (p2_bc (by decide)) (by decide) (by decide)
  · have hA : Bc 1 (1115 - e) (FP.dmul (tR on A n i) (A i j)) := ⟨a.1.fin, by rw [Nat.one_mul]; exact hm ho i hi⟩
    exact (mul_bc (M := 1075) hA q (by omega) (by decide)).k (by decide)
theorem tR_bc {on : Int32} {A : (Nat → Nat → UInt64)} {n i : Nat} (h : ∀ j, j < n → okn (A i j)) : Bc 1 1095 (tR on A n i) := by
  obtain ⟨e, h30, h61, hp, -⟩ := tR_p (on := on) h
  rw [hp]
  exact (p2_bc (by omega)).k (by omega)
theorem tV_bc {on : Int32} {A : (Nat → Nat → UInt64)} {m n j : Nat} (h : ∀ i, i < m → ∀ j, j < n → okn (A i j)) (hj : j < n) : Bc 1 1105 (tV on A m n j) ∧ 2 ^ 1064 ≤ mz (tV on A m n j) := by
  obtain ⟨e, h30, h71, hp, -⟩ := tV_p (on := on) h hj
  rw [hp]
  refine ⟨(p2_bc (by omega)).k (by omega), ?_⟩
  rw [p2_mz (by omega)]
  exact Nat.pow_le_pow_right (by decide) (by omega)
theorem sB_bc {on : Int32} {A : (Nat → Nat → UInt64)} {b : (Nat → UInt64)} {n i : Nat} (h : ∀ j, j < n → okn (A i j)) (hb : okn (b i)) : Bc 1 1105 (sB on A b n i) := mul_bc (tR_bc h) hb.1 (by decide) (by decide)
theorem sC_bc {on : Int32} {A : (Nat → Nat → UInt64)} {c : (Nat → UInt64)} {m n j : Nat} (h : ∀ i, i < m → ∀ j, j < n → okn (A i j)) (hj : j < n) (hc : okn (c j)) : Bc 1 1115 (sC on A c m n j) := mul_bc hc.1 (tV_bc h hj).1 (by decide) (by decide)
/-! the class's measuring -/
theorem e_measureRows {m n : Nat} {A : (Nat → Nat → UInt64)} {r0 : (Nat → UInt64)} {on : Int32} (hm : m ≤ 5) (hn : n ≤ 8) (h : ∀ i, i < m → ∀ j, j < n → okn (A i j)) (ho : ¬ on = 0) : s_Sc_measureRows r0 (nI m) (nI n) A = some (wr m (tR on A n) r0) := by
  unfold s_Sc_measureRows s_Sc_measureRows_L2
  refine loop_b m (fun k => (wr k (tR on A n) r0, nI k)) (wr m (tR on A n) r0) (by rw [wr_0]; rfl) (by omega) (fun k hk => ?_) ?_ rfl
  · obtain ⟨e, -, -, -, -, -, hq⟩ := tR_p (on := on) (h k hk)
    have e1 : s_C_greatestOf 8 (A k) (nI n) = some (mxR (A k) n FP.dconst0) := e_greatestOf hn (by decide) (fun j hj => (h k hk j hj).1.nn)
    simp (disch := omega) only [↓ite_le_t, ↓ite_le_f, ↓ite_lt_t, ↓ite_lt_f, li5, li8, nI_leI, nI_ltI, nI_eqI, if_pos, if_neg, ↓reduceIte, inb_nI, gd_t, nI_clamp, Option.bind_some, nI_1, isb_0, isb_1, s_Sc_measureRows_B2, e1, (hq ho).1, wr_s (F := tR on A n)]
  · simp (disch := omega) only [↓ite_le_t, ↓ite_le_f, ↓ite_lt_t, ↓ite_lt_f, li5, li8, nI_leI, nI_ltI, nI_eqI, if_pos, if_neg, ↓reduceIte, inb_nI, gd_t, nI_clamp, Option.bind_some, nI_1, isb_0, isb_1, s_Sc_measureRows_B2]
theorem e_measureVariables {m n : Nat} {A : (Nat → Nat → UInt64)} {r v0 : (Nat → UInt64)} {on : Int32} (hm : m ≤ 5) (hn : n ≤ 8) (h : ∀ i, i < m → ∀ j, j < n → okn (A i j)) (ho : ¬ on = 0) (hr : ∀ i, i < m → r i = tR on A n i) : s_Sc_measureVariables r v0 (nI m) (nI n) A = some (wr n (tV on A m n) v0) := by
  unfold s_Sc_measureVariables s_Sc_measureVariables_L2
  refine loop_b n (fun k => (wr k (tV on A m n) v0, nI k)) (wr n (tV on A m n) v0) (by rw [wr_0]; rfl) (by omega) (fun k hk => ?_) ?_ rfl
  · obtain ⟨e, -, -, -, -, -, hq⟩ := tV_p (on := on) h hk
    simp (disch := omega) only [↓ite_le_t, ↓ite_le_f, ↓ite_lt_t, ↓ite_lt_f, li5, li8, nI_leI, nI_ltI, nI_eqI, if_pos, if_neg, ↓reduceIte, inb_nI, gd_t, nI_clamp, Option.bind_some, nI_1, isb_0, isb_1, s_Sc_measureVariables_B2]
    unfold s_Sc_measureVariables_L15
    refine loop_b m (fun i => (mxR (fun i => FP.dmul (tR on A n i) (A i k)) i FP.dconst0, nI i)) (mxR (fun i => FP.dmul (tR on A n i) (A i k)) m FP.dconst0) rfl (by omega) (fun i hi => ?_) ?_ ?_
    · have b1 := rA_ok (on := on) (h i hi) hk
      have e2 := e_greater (nn_fd_max (n := i) (f := fun i => FP.dmul (tR on A n i) (A i k)) nn_0 (fun i' hi' => (rA_ok (on := on) (h i' (by omega)) hk).1.nn)) (nn_abs b1.1.nn)
      simp (disch := omega) only [↓ite_le_t, ↓ite_le_f, ↓ite_lt_t, ↓ite_lt_f, li5, li8, nI_leI, nI_ltI, nI_eqI, if_pos, if_neg, ↓reduceIte, inb_nI, gd_t, nI_clamp, Option.bind_some, nI_1, isb_0, isb_1, s_Sc_measureVariables_B15, hr i hi, b1.1.isn, e_absolute b1.1.nn, e2]
      rfl
    · simp (disch := omega) only [↓ite_le_t, ↓ite_le_f, ↓ite_lt_t, ↓ite_lt_f, li5, li8, nI_leI, nI_ltI, nI_eqI, if_pos, if_neg, ↓reduceIte, inb_nI, gd_t, nI_clamp, Option.bind_some, nI_1, isb_0, isb_1, s_Sc_measureVariables_B15]
    · simp (disch := omega) only [↓ite_le_t, ↓ite_le_f, ↓ite_lt_t, ↓ite_lt_f, li5, li8, nI_leI, nI_ltI, nI_eqI, if_pos, if_neg, ↓reduceIte, inb_nI, gd_t, nI_clamp, Option.bind_some, nI_1, isb_0, isb_1, (hq ho).1, wr_s (F := tV on A m n)]
  · simp (disch := omega) only [↓ite_le_t, ↓ite_le_f, ↓ite_lt_t, ↓ite_lt_f, li5, li8, nI_leI, nI_ltI, nI_eqI, if_pos, if_neg, ↓reduceIte, inb_nI, gd_t, nI_clamp, Option.bind_some, nI_1, isb_0, isb_1, s_Sc_measureVariables_B2]
theorem e_measure {m n : Nat} {A : (Nat → Nat → UInt64)} {r0 v0 : (Nat → UInt64)} {on : Int32} (hm : m ≤ 5) (hn : n ≤ 8) (h : ∀ i, i < m → ∀ j, j < n → okn (A i j)) : Ok (s_Sc_measure r0 v0 (nI m) (nI n) A on) (fun q => (∀ i, i < 5 → q.1 i = if i < m then tR on A n i else FP.dconst1) ∧ ∀ j, j < 8 → q.2 j = if j < n then tV on A m n j else FP.dconst1) := by
  unfold s_Sc_measure
  rw [e_fill 5 (by decide), e_fill 8 (by decide)]
  simp only [Option.bind_some]
  by_cases ho : on = 0
  · rw [if_pos ho]
    refine Ok.mk ⟨fun i hi => ?_, fun j hj => ?_⟩
    · dsimp only
      rw [wr_in hi]
      unfold tR
      rw [if_pos ho]
      split <;> rfl
    · dsimp only
      rw [wr_in hj]
      unfold tV
      rw [if_pos ho]
      split <;> rfl
  · rw [if_neg ho, e_measureRows hm hn h ho]
    simp only [Option.bind_some]
    rw [e_measureVariables hm hn h ho (fun i hi => wr_in hi)]
    simp only [Option.bind_some]
    refine Ok.mk ⟨fun i hi => ?_, fun j hj => ?_⟩
    · dsimp only
      by_cases h1 : i < m
      · rw [wr_in h1, if_pos h1]
      · rw [wr_out h1, if_neg h1, wr_in hi]
    · dsimp only
      by_cases h1 : j < n
      · rw [wr_in h1, if_pos h1]
      · rw [wr_out h1, if_neg h1, wr_in hj]
