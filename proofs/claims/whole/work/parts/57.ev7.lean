/-! course of values -/
def cov {α : Type} (d : α) (F : Nat → (Nat → α) → α) : Nat → Nat → α
  | 0 => fun _ => d
  | k + 1 => vf_upd (cov d F k) k (F k (cov d F k))
def cv {α : Type} (d : α) (F : Nat → (Nat → α) → α) (k : Nat) : α := F k (cov d F k)
theorem cov_cv {α : Type} {d : α} {F : Nat → (Nat → α) → α} : ∀ {k q : Nat}, q < k → cov d F k q = cv d F q := by
  intro k
  induction k with
  | zero => intro q h; exact absurd h (Nat.not_lt_zero _)
  | succ k ih =>
    intro q h
    show vf_upd _ _ _ q = _
    by_cases e : q = k
    · subst e
      exact upd_at _ _ _
    · rw [upd_ne e]
      exact ih (by omega)
theorem cv_eq' {α : Type} {d : α} {F : Nat → (Nat → α) → α} {k : Nat} (h : ∀ a b : Nat → α, (∀ q, q < k → a q = b q) → F k a = F k b) : cv d F k = F k (cv d F) := h _ _ (fun _ hq => cov_cv hq)
/-! one turn of the interior method -/
def tP (A : (Nat → Nat → UInt64)) (b x : (Nat → UInt64)) (n i : Nat) : UInt64 := subR (fun j => FP.dmul (A i j) (x j)) n (b i)
def tDc (A : (Nat → Nat → UInt64)) (c y : (Nat → UInt64)) (m j : Nat) : UInt64 := subR (fun i => FP.dmul (A i j) (y i)) m (c j)
def tD (A : (Nat → Nat → UInt64)) (c y s : (Nat → UInt64)) (m j : Nat) : UInt64 := FP.dsub (tDc A c y m j) (s j)
def tG (x s : (Nat → UInt64)) (n : Nat) : UInt64 := sumR (fun j => FP.dmul (x j) (s j)) n FP.dconst0
def tU (g : UInt64) (n : Nat) : UInt64 := FP.dmul 4591870180066957722 (FP.ddiv g (FP.i2d (nI n)))
def tH (x s : (Nat → UInt64)) (j : Nat) : UInt64 := FP.ddiv (x j) (s j)
def tF (x s d : (Nat → UInt64)) (u : UInt64) (j : Nat) : UInt64 := FP.dadd (FP.dsub (x j) (FP.ddiv u (s j))) (FP.dmul (tH x s j) (d j))
def tRs (A : (Nat → Nat → UInt64)) (p f : (Nat → UInt64)) (n i : Nat) : UInt64 := sumR (fun j => FP.dmul (A i j) (f j)) n (p i)
def tMm (A : (Nat → Nat → UInt64)) (h : (Nat → UInt64)) (n i k : Nat) : UInt64 := sumR (fun j => FP.dmul (FP.dmul (A i j) (h j)) (A k j)) n FP.dconst0
def tWF (G : (Nat → Nat → UInt64)) (l : Nat) (cols : Nat → (Nat → UInt64)) : (Nat → UInt64) := fun k => subR (fun q => FP.dmul (FP.dmul (FP.ddiv (cols q k) (cols q q)) (cols q q)) (FP.ddiv (cols q l) (cols q q))) l (G k l)
def tW (G : (Nat → Nat → UInt64)) (k l : Nat) : UInt64 := cv (fun _ => FP.dconst0) (tWF G) l k
def tL (G : (Nat → Nat → UInt64)) (k l : Nat) : UInt64 := FP.ddiv (tW G k l) (tW G l l)
def tWs (G : (Nat → Nat → UInt64)) (k l q : Nat) : UInt64 := FP.dmul (FP.dmul (tL G k q) (tW G q q)) (tL G l q)
theorem tW_eq (G : (Nat → Nat → UInt64)) (k l : Nat) : tW G k l = subR (tWs G k l) l (G k l) := by
  unfold tW
  rw [cv_eq' (fun a b h => ?_)]
  · rfl
  · funext k
    unfold tWF
    refine subR_congr fun q hq => ?_
    rw [h q hq]
def gd13 (G : (Nat → Nat → UInt64)) (k : Nat) : Prop := zv 4412443251819771522 < zv (tW G k k)
def tZ (G : (Nat → Nat → UInt64)) (r : (Nat → UInt64)) (i : Nat) : UInt64 := cv FP.dconst0 (fun i z => subR (fun q => FP.dmul (tL G i q) (z q)) i (r i)) i
theorem tZ_eq (G : (Nat → Nat → UInt64)) (r : (Nat → UInt64)) (i : Nat) : tZ G r i = subR (fun q => FP.dmul (tL G i q) (tZ G r q)) i (r i) := by
  unfold tZ
  rw [cv_eq' (fun a b h => ?_)]
  exact subR_congr fun q hq => by rw [h q hq]
def tYF (G : (Nat → Nat → UInt64)) (r : (Nat → UInt64)) (m t : Nat) (a : (Nat → UInt64)) : UInt64 := subR (fun q => FP.dmul (tL G (m - t + q) (m - 1 - t)) (a (t - 1 - q))) t (FP.ddiv (tZ G r (m - 1 - t)) (tW G (m - 1 - t) (m - 1 - t)))
def tY (G : (Nat → Nat → UInt64)) (r : (Nat → UInt64)) (m i : Nat) : UInt64 := cv FP.dconst0 (tYF G r m) (m - 1 - i)
theorem tY_eq {G : (Nat → Nat → UInt64)} {r : (Nat → UInt64)} {m i : Nat} (hi : i < m) : tY G r m i = subR (fun q => FP.dmul (tL G (i + 1 + q) i) (tY G r m (i + 1 + q))) (m - 1 - i) (FP.ddiv (tZ G r i) (tW G i i)) := by
  unfold tY
  rw [cv_eq' (fun a b h => ?_)]
  · unfold tYF
    rw [show m - 1 - (m - 1 - i) = i by omega]
    refine subR_congr fun q hq => ?_
    rw [show m - (m - 1 - i) + q = i + 1 + q by omega, show m - 1 - i - 1 - q = m - 1 - (i + 1 + q) by omega]
  · unfold tYF
    exact subR_congr fun q hq => by rw [h _ (by omega)]
/-! the class's matrix -/
def okM (A : (Nat → Nat → UInt64)) (h : (Nat → UInt64)) (n i k : Nat) : Prop := (∀ j, j < n → isn (FP.dmul (A i j) (h j)) = true) ∧ okA (fun j => FP.dmul (FP.dmul (A i j) (h j)) (A k j)) n FP.dconst0
theorem e_gather {m n N : Nat} {A e0 : (Nat → Nat → UInt64)} {h : (Nat → UInt64)} (hm : m ≤ 5) (hn : n ≤ 8) (hN : n ≤ N) (hNN : N ≤ 300) (hok : ∀ i, i < m → ∀ k, k ≤ i → okM A h n i k) : Ok (s_Fm_gather N e0 (nI m) (nI n) A h) (fun e => ∀ i, i < m → ∀ k, k ≤ i → e i k = tMm A h n i k) := by
  unfold s_Fm_gather s_Fm_gather_L2
  refine Ok.bind (P := fun e => ∀ i, i < m → ∀ k, k ≤ i → e i k = tMm A h n i k) ?_ (fun v hv => Ok.mk hv)
  refine Ok.for (fun t st => st.2 = nI t ∧ ∀ i, i < t → ∀ k, k ≤ i → st.1 i k = tMm A h n i k) m (by omega) ⟨rfl, fun i hi => absurd hi (Nat.not_lt_zero _)⟩ ?_ ?_
  · rintro i ⟨e, x⟩ hi ⟨hx, g1⟩
    have hx : x = nI i := hx
    subst hx
    simp (disch := omega) only [↓ite_le_t, ↓ite_le_f, ↓ite_lt_t, ↓ite_lt_f, li5, li8, nI_leI, nI_ltI, nI_eqI, if_pos, if_neg, ↓reduceIte, inb_nI, gd_t, nI_clamp, Option.bind_some, nI_1, isb_0, isb_1, lit13, lit14, lit40, nI_mul, nI_add, s_Fm_gather_B2]
    unfold s_Fm_gather_L13
    refine Ok.bind (P := fun e => (∀ i', i' < i → ∀ k, k ≤ i' → e i' k = tMm A h n i' k) ∧ ∀ k, k ≤ i → e i k = tMm A h n i k) ?_ ?_
    · refine Ok.for (fun t st => st.2 = nI t ∧ (∀ i', i' < i → ∀ k, k ≤ i' → st.1 i' k = tMm A h n i' k) ∧ ∀ k, k < t → st.1 i k = tMm A h n i k) (i + 1) (by omega) ⟨rfl, g1, fun i hi => absurd hi (Nat.not_lt_zero _)⟩ ?_ ?_
      · rintro k ⟨e, x⟩ hk ⟨hx, g1, g2⟩
        have hx : x = nI k := hx
        subst hx
        have ok := hok i hi k (by omega)
        simp (disch := omega) only [↓ite_le_t, ↓ite_le_f, ↓ite_lt_t, ↓ite_lt_f, li5, li8, nI_leI, nI_ltI, nI_eqI, if_pos, if_neg, ↓reduceIte, inb_nI, gd_t, nI_clamp, Option.bind_some, nI_1, isb_0, isb_1, lit13, lit14, lit40, nI_mul, nI_add, s_Fm_gather_B13]
        unfold s_Fm_gather_L25
        refine Ok.bind (P := fun v => v = tMm A h n i k) ?_ ?_
        · refine loop_ok n (fun j => (sumR (fun j => FP.dmul (FP.dmul (A i j) (h j)) (A k j)) j FP.dconst0, nI j)) _ rfl (by omega) (fun j hj => ?_) ?_
          · simp (disch := omega) only [↓ite_le_t, ↓ite_le_f, ↓ite_lt_t, ↓ite_lt_f, li5, li8, nI_leI, nI_ltI, nI_eqI, if_pos, if_neg, ↓reduceIte, inb_nI, gd_t, nI_clamp, Option.bind_some, nI_1, isb_0, isb_1, lit13, lit14, lit40, nI_mul, nI_add, s_Fm_gather_B25, ok.1 j hj, ok.2.1 j hj, ← sumR_s (fun j => FP.dmul (FP.dmul (A i j) (h j)) (A k j)), ok.2.2 j hj]
          · simp (disch := omega) only [↓ite_le_t, ↓ite_le_f, ↓ite_lt_t, ↓ite_lt_f, li5, li8, nI_leI, nI_ltI, nI_eqI, if_pos, if_neg, ↓reduceIte, inb_nI, gd_t, nI_clamp, Option.bind_some, nI_1, isb_0, isb_1, lit13, lit14, lit40, nI_mul, nI_add, s_Fm_gather_B25]
            rfl
        · rintro v rfl
          simp (disch := omega) only [↓ite_le_t, ↓ite_le_f, ↓ite_lt_t, ↓ite_lt_f, li5, li8, nI_leI, nI_ltI, nI_eqI, if_pos, if_neg, ↓reduceIte, inb_nI, gd_t, nI_clamp, Option.bind_some, nI_1, isb_0, isb_1, lit13, lit14, lit40, nI_mul, nI_add]
          refine Ok.mk ⟨rfl, fun i' hi' k' hk' => ?_, fun k' hk' => ?_⟩
          · exact (congrFun (gset_ne (by omega)) k').trans (g1 i' hi' k' hk')
          · refine (congrFun (gset_at _ _ _) k').trans ?_
            by_cases e : k' = k
            · subst e
              exact upd_at _ _ _
            · exact (upd_ne e).trans (g2 k' (by omega))
      · rintro ⟨e, x⟩ ⟨hx, g1, g2⟩
        have hx : x = nI (i + 1) := hx
        subst hx
        simp (disch := omega) only [↓ite_le_t, ↓ite_le_f, ↓ite_lt_t, ↓ite_lt_f, li5, li8, nI_leI, nI_ltI, nI_eqI, if_pos, if_neg, ↓reduceIte, inb_nI, gd_t, nI_clamp, Option.bind_some, nI_1, isb_0, isb_1, lit13, lit14, lit40, nI_mul, nI_add, s_Fm_gather_B13]
        exact Ok.mk ⟨g1, fun k hk => g2 k (by omega)⟩
    · rintro e ⟨g1, g2⟩
      refine Ok.mk ⟨nI_1 i, fun i' hi' k hk => ?_⟩
      by_cases e : i' = i
      · subst e; exact g2 k hk
      · exact g1 i' (by omega) k hk
  · rintro ⟨e, x⟩ ⟨hx, g1⟩
    have hx : x = nI m := hx
    subst hx
    simp (disch := omega) only [↓ite_le_t, ↓ite_le_f, ↓ite_lt_t, ↓ite_lt_f, li5, li8, nI_leI, nI_ltI, nI_eqI, if_pos, if_neg, ↓reduceIte, inb_nI, gd_t, nI_clamp, Option.bind_some, nI_1, isb_0, isb_1, lit13, lit14, lit40, nI_mul, nI_add, s_Fm_gather_B2]
    exact Ok.mk g1
theorem e_reduced {k l : Nat} {G e lo : (Nat → Nat → UInt64)} {di : (Nat → UInt64)} (hk : k < 5) (hl : l ≤ k) (he : e k l = G k l) (h1 : ∀ q, q < l → lo k q = tL G k q) (h2 : ∀ q, q < l → lo l q = tL G l q) (h3 : ∀ q, q < l → di q = tW G q q) (i1 : ∀ q, q < l → isn (FP.dmul (tL G k q) (tW G q q)) = true) (i2 : okS (tWs G k l) l (G k l)) : s_Fm_reduced e lo di (nI k) (nI l) = some (tW G k l) := by
  unfold s_Fm_reduced s_Fm_reduced_L12
  simp (disch := omega) only [↓ite_le_t, ↓ite_le_f, ↓ite_lt_t, ↓ite_lt_f, li5, li8, nI_leI, nI_ltI, nI_eqI, if_pos, if_neg, ↓reduceIte, inb_nI, gd_t, nI_clamp, Option.bind_some, nI_1, isb_0, isb_1, lit13, lit14, lit40, nI_mul, nI_add]
  refine loop_b l (fun q => (subR (tWs G k l) q (G k l), nI q)) (tW G k l) (by rw [he]; rfl) (by omega) (fun q hq => ?_) ?_ rfl
  · have e1 : FP.dmul (FP.dmul (tL G k q) (tW G q q)) (tL G l q) = tWs G k l q := rfl
    have a := i2.1 q hq
    have b := i2.2 q hq
    rw [subR_s] at b
    simp (disch := omega) only [↓ite_le_t, ↓ite_le_f, ↓ite_lt_t, ↓ite_lt_f, li5, li8, nI_leI, nI_ltI, nI_eqI, if_pos, if_neg, ↓reduceIte, inb_nI, gd_t, nI_clamp, Option.bind_some, nI_1, isb_0, isb_1, lit13, lit14, lit40, nI_mul, nI_add, s_Fm_reduced_B12, h1 q hq, h2 q hq, h3 q hq, i1 q hq, e1, a, b]
    rfl
  · simp (disch := omega) only [↓ite_le_t, ↓ite_le_f, ↓ite_lt_t, ↓ite_lt_f, li5, li8, nI_leI, nI_ltI, nI_eqI, if_pos, if_neg, ↓reduceIte, inb_nI, gd_t, nI_clamp, Option.bind_some, nI_1, isb_0, isb_1, lit13, lit14, lit40, nI_mul, nI_add, s_Fm_reduced_B12]
    rw [tW_eq]
def FacOk (G : (Nat → Nat → UInt64)) (m : Nat) : Prop := ∀ k, k < m → (∀ q, q < k → gd13 G q) → (∀ l, l ≤ k → (∀ q, q < l → isn (FP.dmul (tL G k q) (tW G q q)) = true) ∧ okS (tWs G k l) l (G k l) ∧ (l < k → isn (tL G k l) = true)) ∧ nnan (tW G k k)
theorem nn_c13 : nnan 4412443251819771522 := by unfold nnan; decide +kernel
theorem e_factor {m : Nat} {G e lo0 : (Nat → Nat → UInt64)} {di0 : (Nat → UInt64)} (hm : m ≤ 5) (he : ∀ i, i < m → ∀ k, k ≤ i → e i k = G i k) (ok : FacOk G m) : Ok (s_Fm_factor e lo0 di0 (nI m)) (fun r => (r.1 = 1 ∧ (∀ k, k < m → gd13 G k) ∧ (∀ k, k < m → ∀ l, l < k → r.2.1 k l = tL G k l) ∧ ∀ k, k < m → r.2.2 k = tW G k k) ∨ (r.1 = 0 ∧ ¬ ∀ k, k < m → gd13 G k)) := by
  unfold s_Fm_factor s_Fm_factor_L2
  refine Ok.bind (P := fun v => Sum.elim (fun w => (∀ k, k < m → gd13 G k) ∧ (∀ k, k < m → ∀ l, l < k → w.1 k l = tL G k l) ∧ ∀ k, k < m → w.2 k = tW G k k) (fun w => w.1 = 0 ∧ ¬ ∀ k, k < m → gd13 G k) v) ?_ ?_
  · refine Ok.for (fun t st => st.2.2 = nI t ∧ (∀ k, k < t → gd13 G k) ∧ (∀ k, k < t → ∀ l, l < k → st.1 k l = tL G k l) ∧ ∀ k, k < t → st.2.1 k = tW G k k) m (by omega) ⟨rfl, fun i hi => absurd hi (Nat.not_lt_zero _), fun i hi => absurd hi (Nat.not_lt_zero _), fun i hi => absurd hi (Nat.not_lt_zero _)⟩ ?_ ?_
    · rintro k ⟨lo, di, x⟩ hk ⟨hx, g0, g1, g2⟩
      have hx : x = nI k := hx
      subst hx
      obtain ⟨ok1, ok2⟩ := ok k hk g0
      simp (disch := omega) only [↓ite_le_t, ↓ite_le_f, ↓ite_lt_t, ↓ite_lt_f, li5, li8, nI_leI, nI_ltI, nI_eqI, if_pos, if_neg, ↓reduceIte, inb_nI, gd_t, nI_clamp, Option.bind_some, nI_1, isb_0, isb_1, lit13, lit14, lit40, nI_mul, nI_add, s_Fm_factor_B2]
      unfold s_Fm_factor_L9
      refine Ok.bind (P := fun lo' => (∀ k', k' < k → ∀ l, l < k' → lo' k' l = tL G k' l) ∧ ∀ l, l < k → lo' k l = tL G k l) ?_ ?_
      · refine Ok.for (fun t st => st.2 = nI t ∧ (∀ k', k' < k → ∀ l, l < k' → st.1 k' l = tL G k' l) ∧ ∀ l, l < t → st.1 k l = tL G k l) k (by omega) ⟨rfl, g1, fun i hi => absurd hi (Nat.not_lt_zero _)⟩ ?_ ?_
        · rintro l ⟨lo', x⟩ hl ⟨hx, g3, g4⟩
          have hx : x = nI l := hx
          subst hx
          obtain ⟨o1, o2, o3⟩ := ok1 l (by omega)
          have e1 : s_Fm_reduced e lo' di (nI k) (nI l) = some (tW G k l) := e_reduced (by omega) (by omega) (he k hk l (by omega)) g4 (g3 l hl) (fun q hq => g2 q (by omega)) o1 o2
          have e2 : di l = tW G l l := g2 l (by omega)
          have e3 : FP.ddiv (tW G k l) (tW G l l) = tL G k l := rfl
          simp (disch := omega) only [↓ite_le_t, ↓ite_le_f, ↓ite_lt_t, ↓ite_lt_f, li5, li8, nI_leI, nI_ltI, nI_eqI, if_pos, if_neg, ↓reduceIte, inb_nI, gd_t, nI_clamp, Option.bind_some, nI_1, isb_0, isb_1, lit13, lit14, lit40, nI_mul, nI_add, s_Fm_factor_B9, e1, e2, e3, o3 hl]
          refine Ok.mk ⟨rfl, fun k' hk' l' hl' => ?_, fun l' hl' => ?_⟩
          · exact (congrFun (gset_ne (by omega)) l').trans (g3 k' hk' l' hl')
          · refine (congrFun (gset_at _ _ _) l').trans ?_
            by_cases e : l' = l
            · subst e
              exact upd_at _ _ _
            · exact (upd_ne e).trans (g4 l' (by omega))
        · rintro ⟨lo', x⟩ ⟨hx, g3, g4⟩
          have hx : x = nI k := hx
          subst hx
          simp (disch := omega) only [↓ite_le_t, ↓ite_le_f, ↓ite_lt_t, ↓ite_lt_f, li5, li8, nI_leI, nI_ltI, nI_eqI, if_pos, if_neg, ↓reduceIte, inb_nI, gd_t, nI_clamp, Option.bind_some, nI_1, isb_0, isb_1, lit13, lit14, lit40, nI_mul, nI_add, s_Fm_factor_B9]
          exact Ok.mk ⟨g3, g4⟩
      · rintro lo' ⟨g3, g4⟩
        obtain ⟨o1, o2, -⟩ := ok1 k (Nat.le_refl _)
        have e1 : s_Fm_reduced e lo' di (nI k) (nI k) = some (tW G k k) := e_reduced (by omega) (Nat.le_refl _) (he k hk k (Nat.le_refl _)) g4 g4 (fun q hq => g2 q hq) o1 o2
        simp (disch := omega) only [↓ite_le_t, ↓ite_le_f, ↓ite_lt_t, ↓ite_lt_f, li5, li8, nI_leI, nI_ltI, nI_eqI, if_pos, if_neg, ↓reduceIte, inb_nI, gd_t, nI_clamp, Option.bind_some, nI_1, isb_0, isb_1, lit13, lit14, lit40, nI_mul, nI_add, e1, upd_at]
        by_cases hg : gd13 G k
        · rw [if_pos ((cv_gt ok2 nn_c13).mpr hg)]
          refine Ok.mk ⟨rfl, fun k' hk' => ?_, fun k' hk' l hl => ?_, fun k' hk' => ?_⟩
          · by_cases e : k' = k
            · subst e; exact hg
            · exact g0 k' (by omega)
          · by_cases e : k' = k
            · subst e; exact g4 l hl
            · exact g3 k' (by omega) l hl
          · by_cases e : k' = k
            · subst e; exact upd_at _ _ _
            · exact (upd_ne e).trans (g2 k' (by omega))
        · rw [if_neg (fun q => hg ((cv_gt ok2 nn_c13).mp q))]
          exact Ok.mk ⟨rfl, fun q => hg (q k hk)⟩
    · rintro ⟨lo, di, x⟩ ⟨hx, g0, g1, g2⟩
      have hx : x = nI m := hx
      subst hx
      simp (disch := omega) only [↓ite_le_t, ↓ite_le_f, ↓ite_lt_t, ↓ite_lt_f, li5, li8, nI_leI, nI_ltI, nI_eqI, if_pos, if_neg, ↓reduceIte, inb_nI, gd_t, nI_clamp, Option.bind_some, nI_1, isb_0, isb_1, lit13, lit14, lit40, nI_mul, nI_add, s_Fm_factor_B2]
      exact Ok.mk ⟨g0, g1, g2⟩
  · rintro (v | v) hv
    · exact Ok.mk (Or.inl ⟨rfl, hv⟩)
    · exact Ok.mk (Or.inr hv)
theorem i32_cancel {a b : Int32} (h : a + 1 = b + 1) : a = b := by
  have := congrArg (fun z => z - 1) h
  simpa only [Int32.add_sub_cancel] using this
def SolOk (G : (Nat → Nat → UInt64)) (r : (Nat → UInt64)) (m : Nat) : Prop := (∀ i, i < m → okS (fun q => FP.dmul (tL G i q) (tZ G r q)) i (r i)) ∧ ∀ i, i < m → isn (FP.ddiv (tZ G r i) (tW G i i)) = true ∧ okS (fun q => FP.dmul (tL G (i + 1 + q) i) (tY G r m (i + 1 + q))) (m - 1 - i) (FP.ddiv (tZ G r i) (tW G i i))
theorem e_fsolve {m : Nat} {G lo : (Nat → Nat → UInt64)} {di mi0 r r' y0 : (Nat → UInt64)} (hm : m ≤ 5) (hr : ∀ i, i < m → r' i = r i) (hl : ∀ k, k < m → ∀ l, l < k → lo k l = tL G k l) (hd : ∀ k, k < m → di k = tW G k k) (ok : SolOk G r m) : Ok (s_Fm_solve 5 5 lo di mi0 r' y0 (nI m)) (fun v => ∀ i, i < m → v.2 i = tY G r m i) := by
  unfold s_Fm_solve s_Fm_solve_L3
  refine Ok.bind (P := fun z => ∀ i, i < m → z i = tZ G r i) ?_ ?_
  · refine Ok.for (fun t st => st.2 = nI t ∧ ∀ i, i < t → st.1 i = tZ G r i) m (by omega) ⟨rfl, fun i hi => absurd hi (Nat.not_lt_zero _)⟩ ?_ ?_
    · rintro i ⟨z, x⟩ hi ⟨hx, g1⟩
      have hx : x = nI i := hx
      subst hx
      have ok1 := ok.1 i hi
      simp (disch := omega) only [↓ite_le_t, ↓ite_le_f, ↓ite_lt_t, ↓ite_lt_f, li5, li8, nI_leI, nI_ltI, nI_eqI, if_pos, if_neg, ↓reduceIte, inb_nI, gd_t, nI_clamp, Option.bind_some, nI_1, isb_0, isb_1, lit13, lit14, lit40, nI_mul, nI_add, s_Fm_solve_B3]
      unfold s_Fm_solve_L18
      refine Ok.bind (P := fun v => v = tZ G r i) ?_ ?_
      · refine loop_ok i (fun q => (subR (fun q => FP.dmul (tL G i q) (tZ G r q)) q (r i), nI q)) _ (by rw [hr i hi]; rfl) (by omega) (fun q hq => ?_) ?_
        · have a := ok1.1 q hq
          have b := ok1.2 q hq
          rw [subR_s] at b
          have e1 : z q = tZ G r q := g1 q hq
          simp (disch := omega) only [↓ite_le_t, ↓ite_le_f, ↓ite_lt_t, ↓ite_lt_f, li5, li8, nI_leI, nI_ltI, nI_eqI, if_pos, if_neg, ↓reduceIte, inb_nI, gd_t, nI_clamp, Option.bind_some, nI_1, isb_0, isb_1, lit13, lit14, lit40, nI_mul, nI_add, s_Fm_solve_B18, hl i hi q hq, e1, a, b]
          rfl
        · simp (disch := omega) only [↓ite_le_t, ↓ite_le_f, ↓ite_lt_t, ↓ite_lt_f, li5, li8, nI_leI, nI_ltI, nI_eqI, if_pos, if_neg, ↓reduceIte, inb_nI, gd_t, nI_clamp, Option.bind_some, nI_1, isb_0, isb_1, lit13, lit14, lit40, nI_mul, nI_add, s_Fm_solve_B18]
          rw [tZ_eq]
      · rintro v rfl
        simp (disch := omega) only [↓ite_le_t, ↓ite_le_f, ↓ite_lt_t, ↓ite_lt_f, li5, li8, nI_leI, nI_ltI, nI_eqI, if_pos, if_neg, ↓reduceIte, inb_nI, gd_t, nI_clamp, Option.bind_some, nI_1, isb_0, isb_1, lit13, lit14, lit40, nI_mul, nI_add]
        refine Ok.mk ⟨rfl, fun i' hi' => ?_⟩
        by_cases e : i' = i
        · subst e; exact upd_at _ _ _
        · exact (upd_ne e).trans (g1 i' (by omega))
    · rintro ⟨z, x⟩ ⟨hx, g1⟩
      have hx : x = nI m := hx
      subst hx
      simp (disch := omega) only [↓ite_le_t, ↓ite_le_f, ↓ite_lt_t, ↓ite_lt_f, li5, li8, nI_leI, nI_ltI, nI_eqI, if_pos, if_neg, ↓reduceIte, inb_nI, gd_t, nI_clamp, Option.bind_some, nI_1, isb_0, isb_1, lit13, lit14, lit40, nI_mul, nI_add, s_Fm_solve_B3]
      exact Ok.mk g1
  · intro z hz
    unfold s_Fm_solve_L74
    refine Ok.bind (P := fun y => ∀ i, i < m → y i = tY G r m i) ?_ (fun v hv => Ok.mk hv)
    refine Ok.for (fun t st => st.2 + 1 = nI (m - t) ∧ ∀ i, m - t ≤ i → i < m → st.1 i = tY G r m i) m (by omega) ⟨by rw [Nat.sub_zero]; exact Int32.sub_add_cancel _ _, fun i hi h2 => absurd hi (by omega)⟩ ?_ ?_
    · rintro t ⟨y, x⟩ ht ⟨hx, g1⟩
      have hx : x + 1 = nI (m - t) := hx
      obtain ⟨i, rfl⟩ : ∃ i, m = i + 1 + t := ⟨m - 1 - t, by omega⟩
      have hx : x = nI i := by
        rw [show i + 1 + t - t = i + 1 by omega, ← nI_1] at hx
        exact i32_cancel hx
      subst hx
      have hi : i < i + 1 + t := by omega
      obtain ⟨o1, o2⟩ := ok.2 i hi
      rw [show i + 1 + t - 1 - i = t by omega] at o2
      have hz' := hz i hi
      have hd' := hd i hi
      have hpos : ¬ nI i < 0 := nI_pos (by omega)
      simp (disch := omega) only [↓ite_le_t, ↓ite_le_f, ↓ite_lt_t, ↓ite_lt_f, li5, li8, nI_leI, nI_ltI, nI_eqI, if_pos, if_neg, ↓reduceIte, inb_nI, gd_t, nI_clamp, Option.bind_some, nI_1, isb_0, isb_1, lit13, lit14, lit40, nI_mul, nI_add, s_Fm_solve_B74, hpos, hz', hd', o1]
      unfold s_Fm_solve_L102
      refine Ok.bind (P := fun v => v = tY G r (i + 1 + t) i) ?_ ?_
      · refine loop_ok t (fun q => (subR (fun q => FP.dmul (tL G (i + 1 + q) i) (tY G r (i + 1 + t) (i + 1 + q))) q (FP.ddiv (tZ G r i) (tW G i i)), nI (i + 1 + q))) _ rfl (by omega) (fun q hq => ?_) ?_
        · have a := o2.1 q hq
          have b := o2.2 q hq
          rw [subR_s] at b
          have e1 : y (i + 1 + q) = tY G r (i + 1 + t) (i + 1 + q) := g1 _ (by omega) (by omega)
          have e2 : lo (i + 1 + q) i = tL G (i + 1 + q) i := hl _ (by omega) _ (by omega)
          simp (disch := omega) only [↓ite_le_t, ↓ite_le_f, ↓ite_lt_t, ↓ite_lt_f, li5, li8, nI_leI, nI_ltI, nI_eqI, if_pos, if_neg, ↓reduceIte, inb_nI, gd_t, nI_clamp, Option.bind_some, nI_1, isb_0, isb_1, lit13, lit14, lit40, nI_mul, nI_add, s_Fm_solve_B102, e1, e2, a, b]
          rfl
        · simp (disch := omega) only [↓ite_le_t, ↓ite_le_f, ↓ite_lt_t, ↓ite_lt_f, li5, li8, nI_leI, nI_ltI, nI_eqI, if_pos, if_neg, ↓reduceIte, inb_nI, gd_t, nI_clamp, Option.bind_some, nI_1, isb_0, isb_1, lit13, lit14, lit40, nI_mul, nI_add, s_Fm_solve_B102]
          rw [tY_eq (by omega), show i + 1 + t - 1 - i = t by omega]
      · rintro v rfl
        simp (disch := omega) only [↓ite_le_t, ↓ite_le_f, ↓ite_lt_t, ↓ite_lt_f, li5, li8, nI_leI, nI_ltI, nI_eqI, if_pos, if_neg, ↓reduceIte, inb_nI, gd_t, nI_clamp, Option.bind_some, nI_1, isb_0, isb_1, lit13, lit14, lit40, nI_mul, nI_add]
        refine Ok.mk ⟨?_, fun i' hi' h2 => ?_⟩
        · show nI i + -1 + 1 = _
          rw [show i + 1 + t - (t + 1) = i by omega, Int32.add_assoc, show (-1 : Int32) + 1 = 0 from by decide, Int32.add_zero]
        · by_cases e : i' = i
          · subst e; exact upd_at _ _ _
          · exact (upd_ne e).trans (g1 i' (by omega) h2)
    · rintro ⟨y, x⟩ ⟨hx, g1⟩
      have hx : x + 1 = nI (m - m) := hx
      have hx : x = -1 := by
        rw [Nat.sub_self] at hx
        exact i32_cancel (hx.trans rfl)
      subst hx
      simp (disch := omega) only [↓ite_le_t, ↓ite_le_f, ↓ite_lt_t, ↓ite_lt_f, li5, li8, nI_leI, nI_ltI, nI_eqI, if_pos, if_neg, ↓reduceIte, inb_nI, gd_t, nI_clamp, Option.bind_some, nI_1, isb_0, isb_1, lit13, lit14, lit40, nI_mul, nI_add, s_Fm_solve_B74, show (-1 : Int32) < 0 by decide]
      exact Ok.mk (fun i hi => g1 i (by omega) hi)
