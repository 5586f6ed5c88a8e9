/-! a step of the table -/
theorem iupd_at (f : Nat → Int32) (k : Nat) (v : Int32) : upd f k v k = v := if_pos rfl
theorem iupd_ne {f : Nat → Int32} {k j : Nat} {v : Int32} (h : ¬ j = k) : upd f k v j = f j := if_neg h
def pT (T : (Nat → Nat → UInt64)) (row col : Nat) (i k : Nat) : UInt64 := if i = row then FP.ddiv (T row k) (T row col) else FP.dsub (T i k) (FP.dmul (T i col) (FP.ddiv (T row k) (T row col)))
def pR (T : (Nat → Nat → UInt64)) (R : (Nat → UInt64)) (row col : Nat) (i : Nat) : UInt64 := if i = row then FP.ddiv (R row) (T row col) else FP.dsub (R i) (FP.dmul (T i col) (FP.ddiv (R row) (T row col)))
def pB (B : Nat → Nat) (row col : Nat) (i : Nat) : Nat := if i = row then col else B i
def wild (m n : Nat) (T : (Nat → Nat → UInt64)) (R : (Nat → UInt64)) : Prop := ∃ i, i < m ∧ ((∃ k, k < n + m ∧ zv c12 < zv (dabs (T i k))) ∨ zv c12 < zv (dabs (R i)))
/-- what a step needs -/
theorem piv_bc {m n row col : Nat} {T : (Nat → Nat → UInt64)} {R : (Nat → UInt64)} {B : Nat → Nat} (hT : TB m n T R B) (hr : row < m) (hc : col < n) (hp : 2 ^ 1044 ≤ mz (T row col)) :
    (∀ k, k < n + m → Bc 1 1144 (FP.ddiv (T row k) (T row col))) ∧ Bc 1 1144 (FP.ddiv (R row) (T row col)) ∧ (∀ i, i < m → ∀ k, k < n + m → Bc 1 1184 (FP.dmul (T i col) (FP.ddiv (T row k) (T row col)))) ∧ (∀ i, i < m → Bc 1 1184 (FP.dmul (T i col) (FP.ddiv (R row) (T row col)))) ∧ (∀ i, i < m → ∀ k, k < n + m → Bc 1 1185 (pT T row col i k)) ∧ ∀ i, i < m → Bc 1 1185 (pR T R row col i) := by
  have fc := ((hT row hr).1 col (by omega)).fin
  have h1 : ∀ k, k < n + m → Bc 1 1144 (FP.ddiv (T row k) (T row col)) := fun k hk => div_bc ((hT row hr).1 k hk) fc hp (by decide) (by decide)
  have h2 : Bc 1 1144 (FP.ddiv (R row) (T row col)) := div_bc (hT row hr).2.1 fc hp (by decide) (by decide)
  have h3 : ∀ i, i < m → ∀ k, k < n + m → Bc 1 1184 (FP.dmul (T i col) (FP.ddiv (T row k) (T row col))) := fun i hi k hk => mul_bc ((hT i hi).1 col (by omega)) (h1 k hk) (by decide) (by decide)
  have h4 : ∀ i, i < m → Bc 1 1184 (FP.dmul (T i col) (FP.ddiv (R row) (T row col))) := fun i hi => mul_bc ((hT i hi).1 col (by omega)) h2 (by decide) (by decide)
  refine ⟨h1, h2, h3, h4, fun i hi k hk => ?_, fun i hi => ?_⟩
  · unfold pT
    split
    · exact (h1 k hk).k (by decide)
    · exact sub2 (((hT i hi).1 k hk).k (by decide)) (h3 i hi k hk) (by decide)
  · unfold pR
    split
    · exact h2.k (by decide)
    · exact sub2 ((hT i hi).2.1.k (by decide)) (h4 i hi) (by decide)
theorem tame {m n row col : Nat} {T : (Nat → Nat → UInt64)} {R : (Nat → UInt64)} {B : Nat → Nat} (hT : TB m n T R B) (hr : row < m) (hc : col < n) (hp : 2 ^ 1044 ≤ mz (T row col)) (hw : ¬ wild m n (pT T row col) (pR T R row col)) : TB m n (pT T row col) (pR T R row col) (pB B row col) := by
  obtain ⟨-, -, -, -, h5, h6⟩ := piv_bc hT hr hc hp
  have cut : ∀ {v : UInt64}, Bc 1 1185 v → ¬ zv c12 < zv (dabs v) → Bc 1 1114 v := fun {v} hv h => by
    have h1 := Int.le_trans (Int.not_lt.mp h) c12_hi
    rw [zv_abs, zv_mz] at h1
    refine ⟨hv.fin, ?_⟩
    rw [Nat.one_mul]
    exact_mod_cast h1
  refine fun i hi => ⟨fun k hk => cut (h5 i hi k hk) fun q => hw ⟨i, hi, Or.inl ⟨k, hk, q⟩⟩, cut (h6 i hi) fun q => hw ⟨i, hi, Or.inr q⟩, ?_⟩
  unfold pB
  split
  · omega
  · exact (hT i hi).2.2
/-- rows of the class's table -/
theorem e_takeAway {m n x row col : Nat} {T : (Nat → Nat → UInt64)} {R : (Nat → UInt64)} {B : Nat → Nat} {tb : (Nat → Nat → UInt64)} {ri : (Nat → UInt64)} (vs sd : Int32) (hm : m ≤ 5) (hn : n ≤ 8) (hT : TB m n T R B) (hr : row < m) (hc : col < n) (hp : 2 ^ 1044 ≤ mz (T row col)) (hx : x < m) (hne : ¬ x = row)
    (g1 : ∀ k, k < n + m → tb x k = T x k) (g2 : ∀ k, k < n + m → tb row k = FP.ddiv (T row k) (T row col)) (g3 : ri x = R x) (g4 : ri row = FP.ddiv (R row) (T row col)) :
    Ok (s_Sm_takeAway (nI m) vs (nI (n + m)) sd tb ri (nI x) (nI row) (T x col)) (fun r => (∀ k, k < n + m → r.1 x k = pT T row col x k) ∧ (∀ i, ¬ i = x → r.1 i = tb i) ∧ r.2 x = pR T R row col x ∧ ∀ i, ¬ i = x → r.2 i = ri i) := by
  obtain ⟨-, -, b3, b4, b5, b6⟩ := piv_bc hT hr hc hp
  unfold s_Sm_takeAway s_Sm_takeAway_L3
  refine Ok.bind (P := fun v => (∀ k, k < n + m → v x k = pT T row col x k) ∧ ∀ i, ¬ i = x → v i = tb i) ?_ ?_
  · refine Ok.for (fun t st => st.2 = nI t ∧ (∀ k, k < t → st.1 x k = pT T row col x k) ∧ (∀ k, t ≤ k → k < n + m → st.1 x k = T x k) ∧ ∀ i, ¬ i = x → st.1 i = tb i) (n + m) (by omega) ⟨rfl, fun i hi => absurd hi (Nat.not_lt_zero _), fun k _ hk => g1 k hk, fun i _ => rfl⟩ ?_ ?_
    · rintro k ⟨w, z⟩ hk ⟨hz, u1, u2, u3⟩
      have hz : z = nI k := hz
      subst hz
      have e1 : w x k = T x k := u2 k (Nat.le_refl _) hk
      have e2 : w row k = FP.ddiv (T row k) (T row col) := (congrFun (u3 row (fun q => hne q.symm)) k).trans (g2 k hk)
      have e3 : FP.dsub (T x k) (FP.dmul (T x col) (FP.ddiv (T row k) (T row col))) = pT T row col x k := by unfold pT; rw [if_neg hne]
      simp (disch := omega) only [↓ite_le_t, ↓ite_le_f, ↓ite_lt_t, ↓ite_lt_f, li5, li8, nI_leI, nI_ltI, nI_eqI, if_pos, if_neg, ↓reduceIte, inb_nI, gd_t, nI_clamp, Option.bind_some, nI_1, isb_0, isb_1, lit13, lit14, lit40, nI_mul, nI_add, s_Sm_takeAway_B3, e1, e2, (b3 x hx k hk).isn, e3, (b5 x hx k hk).isn]
      refine Ok.mk ⟨rfl, fun k' hk' => (congrFun (gset_at _ _ _) k').trans ?_, fun k' h1 h2 => (congrFun (gset_at _ _ _) k').trans ((upd_ne (by omega)).trans (u2 k' (by omega) h2)), fun i hi => (gset_ne hi).trans (u3 i hi)⟩
      by_cases e : k' = k
      · subst e; exact upd_at _ _ _
      · exact (upd_ne e).trans (u1 k' (by omega))
    · rintro ⟨w, z⟩ ⟨hz, u1, -, u3⟩
      have hz : z = nI (n + m) := hz
      subst hz
      simp (disch := omega) only [↓ite_le_t, ↓ite_le_f, ↓ite_lt_t, ↓ite_lt_f, s_Sm_takeAway_B3]
      exact Ok.mk ⟨u1, u3⟩
  · rintro w ⟨u1, u3⟩
    have e3 : FP.dsub (R x) (FP.dmul (T x col) (FP.ddiv (R row) (T row col))) = pR T R row col x := by unfold pR; rw [if_neg hne]
    simp (disch := omega) only [↓ite_le_t, ↓ite_le_f, ↓ite_lt_t, ↓ite_lt_f, li5, li8, nI_leI, nI_ltI, nI_eqI, if_pos, if_neg, ↓reduceIte, inb_nI, gd_t, nI_clamp, Option.bind_some, nI_1, isb_0, isb_1, lit13, lit14, lit40, nI_mul, nI_add, g3, g4, (b4 x hx).isn, e3, (b6 x hx).isn]
    exact Ok.mk ⟨u1, u3, upd_at _ _ _, fun i hi => upd_ne hi⟩
theorem e_pivot {m n row col : Nat} {T : (Nat → Nat → UInt64)} {R : (Nat → UInt64)} {B : Nat → Nat} {tb : (Nat → Nat → UInt64)} {ri : (Nat → UInt64)} {ba : Nat → Int32} (vs sd : Int32) (hm : m ≤ 5) (hn : n ≤ 8) (hT : TB m n T R B) (hC : CT m n T R B tb ri ba) (hr : row < m) (hc : col < n) (hp : 2 ^ 1044 ≤ mz (T row col)) :
    Ok (s_Sm_pivot (nI m) vs (nI (n + m)) sd tb ri ba (nI row) (nI col)) (fun r => CT m n (pT T row col) (pR T R row col) (pB B row col) r.1 r.2.1 r.2.2) := by
  obtain ⟨b1, b2, -, -, -, -⟩ := piv_bc hT hr hc hp
  have e0 : tb row col = T row col := (hC row hr).1 col (by omega)
  unfold s_Sm_pivot
  simp (disch := omega) only [↓ite_le_t, ↓ite_le_f, ↓ite_lt_t, ↓ite_lt_f, li5, li8, nI_leI, nI_ltI, nI_eqI, if_pos, if_neg, ↓reduceIte, inb_nI, gd_t, nI_clamp, Option.bind_some, nI_1, isb_0, isb_1, lit13, lit14, lit40, nI_mul, nI_add, e0]
  unfold s_Sm_pivot_L12
  refine Ok.bind (P := fun v => (∀ k, k < n + m → v row k = FP.ddiv (T row k) (T row col)) ∧ ∀ i, ¬ i = row → v i = tb i) ?_ ?_
  · refine Ok.for (fun t st => st.2 = nI t ∧ (∀ k, k < t → st.1 row k = FP.ddiv (T row k) (T row col)) ∧ (∀ k, t ≤ k → k < n + m → st.1 row k = T row k) ∧ ∀ i, ¬ i = row → st.1 i = tb i) (n + m) (by omega) ⟨rfl, fun i hi => absurd hi (Nat.not_lt_zero _), fun k _ hk => (hC row hr).1 k hk, fun i _ => rfl⟩ ?_ ?_
    · rintro k ⟨w, z⟩ hk ⟨hz, u1, u2, u3⟩
      have hz : z = nI k := hz
      subst hz
      have e1 : w row k = T row k := u2 k (Nat.le_refl _) hk
      simp (disch := omega) only [↓ite_le_t, ↓ite_le_f, ↓ite_lt_t, ↓ite_lt_f, li5, li8, nI_leI, nI_ltI, nI_eqI, if_pos, if_neg, ↓reduceIte, inb_nI, gd_t, nI_clamp, Option.bind_some, nI_1, isb_0, isb_1, lit13, lit14, lit40, nI_mul, nI_add, s_Sm_pivot_B12, e1, (b1 k hk).isn]
      refine Ok.mk ⟨rfl, fun k' hk' => (congrFun (gset_at _ _ _) k').trans ?_, fun k' h1 h2 => (congrFun (gset_at _ _ _) k').trans ((upd_ne (by omega)).trans (u2 k' (by omega) h2)), fun i hi => (gset_ne hi).trans (u3 i hi)⟩
      by_cases e : k' = k
      · subst e; exact upd_at _ _ _
      · exact (upd_ne e).trans (u1 k' (by omega))
    · rintro ⟨w, z⟩ ⟨hz, u1, -, u3⟩
      have hz : z = nI (n + m) := hz
      subst hz
      simp (disch := omega) only [↓ite_le_t, ↓ite_le_f, ↓ite_lt_t, ↓ite_lt_f, s_Sm_pivot_B12]
      exact Ok.mk ⟨u1, u3⟩
  · rintro w ⟨u1, u3⟩
    have e1 : ri row = R row := (hC row hr).2.1
    simp (disch := omega) only [↓ite_le_t, ↓ite_le_f, ↓ite_lt_t, ↓ite_lt_f, li5, li8, nI_leI, nI_ltI, nI_eqI, if_pos, if_neg, ↓reduceIte, inb_nI, gd_t, nI_clamp, Option.bind_some, nI_1, isb_0, isb_1, lit13, lit14, lit40, nI_mul, nI_add, e1, b2.isn]
    unfold s_Sm_pivot_L64
    refine Ok.bind (P := fun v => ∀ i, i < m → (∀ k, k < n + m → v.1 i k = pT T row col i k) ∧ v.2 i = pR T R row col i) ?_ ?_
    · have pr : ∀ k, pT T row col row k = FP.ddiv (T row k) (T row col) := fun k => if_pos rfl
      have prr : pR T R row col row = FP.ddiv (R row) (T row col) := if_pos rfl
      refine Ok.for (fun t st => st.2.2 = nI t ∧ (∀ i, i < t → i < m → (∀ k, k < n + m → st.1 i k = pT T row col i k) ∧ st.2.1 i = pR T R row col i) ∧ (∀ i, t ≤ i → i < m → ¬ i = row → (∀ k, k < n + m → st.1 i k = T i k) ∧ st.2.1 i = R i) ∧ (∀ k, k < n + m → st.1 row k = FP.ddiv (T row k) (T row col)) ∧ st.2.1 row = FP.ddiv (R row) (T row col)) m (by omega) ⟨rfl, fun i hi => absurd hi (Nat.not_lt_zero _), fun i _ hi hne => ⟨fun k hk => (congrFun (u3 i hne) k).trans ((hC i hi).1 k hk), (upd_ne hne).trans (hC i hi).2.1⟩, u1, upd_at _ _ _⟩ ?_ ?_
      · rintro q ⟨w', ri', z⟩ hq ⟨hz, v1, v2, v3, v4⟩
        have hz : z = nI q := hz
        subst hz
        by_cases e : q = row
        · subst e
          simp (disch := omega) only [↓ite_le_t, ↓ite_le_f, ↓ite_lt_t, ↓ite_lt_f, li5, li8, nI_leI, nI_ltI, nI_eqI, if_pos, if_neg, ↓reduceIte, inb_nI, gd_t, nI_clamp, Option.bind_some, nI_1, isb_0, isb_1, lit13, lit14, lit40, nI_mul, nI_add, s_Sm_pivot_B64, s_Sm_pivot_J95]
          refine Ok.mk ⟨rfl, fun i hi him => ?_, fun i h1 h2 h3 => v2 i (by omega) h2 h3, v3, v4⟩
          by_cases e : i = q
          · subst e
            exact ⟨fun k hk => (v3 k hk).trans (pr k).symm, v4.trans prr.symm⟩
          · exact v1 i (by omega) him
        · have hne : ¬ nI q = nI row := fun h => e ((nI_eq (by omega) (by omega)).mp h)
          obtain ⟨v5, v6⟩ := v2 q (Nat.le_refl _) hq e
          have e5 : w' q col = T q col := v5 col (by omega)
          simp (disch := omega) only [↓ite_le_t, ↓ite_le_f, ↓ite_lt_t, ↓ite_lt_f, li5, li8, nI_leI, nI_ltI, nI_eqI, if_pos, if_neg, ↓reduceIte, inb_nI, gd_t, nI_clamp, Option.bind_some, nI_1, isb_0, isb_1, lit13, lit14, lit40, nI_mul, nI_add, s_Sm_pivot_B64, hne, e5]
          refine Ok.bind (e_takeAway vs sd hm hn hT hr hc hp hq e v5 v3 v6 v4) ?_
          rintro ⟨w2, ri2⟩ ⟨y1, y2, y3, y4⟩
          have er : ¬ row = q := fun h => e h.symm
          simp (disch := omega) only [↓ite_le_t, ↓ite_le_f, ↓ite_lt_t, ↓ite_lt_f, li5, li8, nI_leI, nI_ltI, nI_eqI, if_pos, if_neg, ↓reduceIte, inb_nI, gd_t, nI_clamp, Option.bind_some, nI_1, isb_0, isb_1, lit13, lit14, lit40, nI_mul, nI_add, s_Sm_pivot_J95]
          refine Ok.mk ⟨rfl, fun i hi him => ?_, fun i h1 h2 h3 => ?_, fun k hk => (congrFun (y2 row er) k).trans (v3 k hk), (y4 row er).trans v4⟩
          · by_cases e : i = q
            · subst e
              exact ⟨y1, y3⟩
            · obtain ⟨a1, a2⟩ := v1 i (by omega) him
              exact ⟨fun k hk => (congrFun (y2 i e) k).trans (a1 k hk), (y4 i e).trans a2⟩
          · have e : ¬ i = q := by omega
            obtain ⟨a1, a2⟩ := v2 i (by omega) h2 h3
            exact ⟨fun k hk => (congrFun (y2 i e) k).trans (a1 k hk), (y4 i e).trans a2⟩
      · rintro ⟨w', ri', z⟩ ⟨hz, v1, -⟩
        have hz : z = nI m := hz
        subst hz
        simp (disch := omega) only [↓ite_le_t, ↓ite_le_f, ↓ite_lt_t, ↓ite_lt_f, s_Sm_pivot_B64]
        exact Ok.mk fun i hi => v1 i hi hi
    · rintro ⟨w2, ri2⟩ hv
      simp (disch := omega) only [↓ite_le_t, ↓ite_le_f, ↓ite_lt_t, ↓ite_lt_f, li5, li8, nI_leI, nI_ltI, nI_eqI, if_pos, if_neg, ↓reduceIte, inb_nI, gd_t, nI_clamp, Option.bind_some, nI_1, isb_0, isb_1, lit13, lit14, lit40, nI_mul, nI_add]
      refine Ok.mk fun i hi => ⟨(hv i hi).1, (hv i hi).2, ?_⟩
      show upd ba row (nI col) i = nI (pB B row col i)
      unfold pB
      by_cases e : i = row
      · subst e
        rw [iupd_at, if_pos rfl]
      · rw [iupd_ne e, if_neg e]
        exact (hC i hi).2.2
theorem e_isOvergrown {m n : Nat} {T : (Nat → Nat → UInt64)} {R : (Nat → UInt64)} {tb : (Nat → Nat → UInt64)} {ri : (Nat → UInt64)} (vs sd : Int32) (hm : m ≤ 5) (hn : n ≤ 8) (hC : ∀ i, i < m → (∀ k, k < n + m → tb i k = T i k) ∧ ri i = R i) (hb : ∀ i, i < m → (∀ k, k < n + m → nnan (T i k)) ∧ nnan (R i)) : Ok (s_Sm_isOvergrown (nI m) vs (nI (n + m)) sd tb ri) (fun r => (r = 1 ∧ wild m n T R) ∨ (r = 0 ∧ ¬ wild m n T R)) := by
  have gt : ∀ i, i < m → s_C_greatestOf 13 (tb i) (nI (n + m)) = some (mxR (T i) (n + m) FP.dconst0) := fun i hi => by
    rw [e_greatestOf (by omega) (by decide) (fun k hk => by rw [(hC i hi).1 k hk]; exact (hb i hi).1 k hk)]
    exact congrArg some (fd_congr fun k hk a => by rw [(hC i hi).1 k hk])
  have gr : s_C_greatestOf 5 ri (nI m) = some (mxR R m FP.dconst0) := by
    rw [e_greatestOf hm (by decide) (fun k hk => by rw [(hC k hk).2]; exact (hb k hk).2)]
    exact congrArg some (fd_congr fun k hk a => by rw [(hC k hk).2])
  unfold s_Sm_isOvergrown s_Sm_isOvergrown_L2
  refine Ok.bind (P := fun v => Sum.elim (fun _ => ∀ i, i < m → ¬ zv c12 < zv (mxR (T i) (n + m) FP.dconst0)) (fun r => r = 1 ∧ wild m n T R) v) ?_ ?_
  · refine Ok.for (fun t st => st = nI t ∧ ∀ i, i < t → ¬ zv c12 < zv (mxR (T i) (n + m) FP.dconst0)) m (by omega) ⟨rfl, fun i hi => absurd hi (Nat.not_lt_zero _)⟩ ?_ ?_
    · rintro i st hi ⟨rfl, g1⟩
      have e1 := cv_le (op := .l) (nn_fd_max (n := n + m) nn_0 (hb i hi).1) nn_c12
      simp (disch := omega) only [↓ite_le_t, ↓ite_le_f, ↓ite_lt_t, ↓ite_lt_f, li5, li8, nI_leI, nI_ltI, nI_eqI, if_pos, if_neg, ↓reduceIte, inb_nI, gd_t, nI_clamp, Option.bind_some, nI_1, isb_0, isb_1, lit13, lit14, lit40, nI_mul, nI_add, s_Sm_isOvergrown_B2, gt i hi]
      by_cases c1 : zv (mxR (T i) (n + m) FP.dconst0) ≤ zv c12
      · rw [if_pos (e1.mpr c1)]
        refine Ok.mk ⟨rfl, fun i' hi' => ?_⟩
        by_cases e : i' = i
        · subst e; exact Int.not_lt.mpr c1
        · exact g1 i' (by omega)
      · rw [if_neg (fun q => c1 (e1.mp q))]
        obtain ⟨k, hk, hz⟩ := (mx_gt c12_0 _).mp (Int.not_le.mp c1)
        exact Ok.mk ⟨rfl, i, hi, Or.inl ⟨k, hk, hz⟩⟩
    · rintro st ⟨rfl, g1⟩
      simp (disch := omega) only [↓ite_le_t, ↓ite_le_f, ↓ite_lt_t, ↓ite_lt_f, s_Sm_isOvergrown_B2]
      exact Ok.mk g1
  · rintro (v | v) hv
    · have e1 := cv_le (op := .l) (nn_fd_max (n := m) nn_0 (fun i hi => (hb i hi).2)) nn_c12
      simp only [Sum.elim_inl, gr, Option.bind_some, isb_0, isb_1, gd_t]
      by_cases c1 : zv (mxR R m FP.dconst0) ≤ zv c12
      · rw [if_pos (e1.mpr c1)]
        refine Ok.mk (Or.inr ⟨rfl, ?_⟩)
        rintro ⟨i, hi, ⟨k, hk, q⟩ | q⟩
        · exact hv i hi ((mx_gt c12_0 _).mpr ⟨k, hk, q⟩)
        · exact absurd c1 (Int.not_le.mpr ((mx_gt c12_0 _).mpr ⟨i, hi, q⟩))
      · rw [if_neg (fun q => c1 (e1.mp q))]
        obtain ⟨i, hi, hz⟩ := (mx_gt c12_0 _).mp (Int.not_le.mp c1)
        exact Ok.mk (Or.inl ⟨rfl, i, hi, Or.inr hz⟩)
    · exact Ok.mk (Or.inl hv)
/-- a ray -/
def rayB (T : (Nat → Nat → UInt64)) (B : Nat → Nat) (n col i : Nat) (x : (Nat → UInt64)) : (Nat → UInt64) := if B i < n then vf_upd x (B i) (FP.dneg (T i col)) else x
def rayX (T : (Nat → Nat → UInt64)) (B : Nat → Nat) (m n col : Nat) (x : (Nat → UInt64)) : (Nat → UInt64) := fd (rayB T B n col) m (vf_upd x col FP.dconst1)
theorem e_tellRay {m n col : Nat} {T : (Nat → Nat → UInt64)} {R : (Nat → UInt64)} {B : Nat → Nat} {tb : (Nat → Nat → UInt64)} {ri x : (Nat → UInt64)} {ba : Nat → Int32} (cs sd : Int32) (hm : m ≤ 5) (hn : n ≤ 8) (hT : TB m n T R B) (hC : CT m n T R B tb ri ba) (hc : col < n) : s_Sm_tellRay (nI m) (nI n) cs sd x tb ba (nI col) = some (rayX T B m n col x) := by
  unfold s_Sm_tellRay
  simp (disch := omega) only [↓ite_le_t, ↓ite_le_f, ↓ite_lt_t, ↓ite_lt_f, li5, li8, nI_leI, nI_ltI, nI_eqI, if_pos, if_neg, ↓reduceIte, inb_nI, gd_t, nI_clamp, Option.bind_some, nI_1, isb_0, isb_1, lit13, lit14, lit40, nI_mul, nI_add]
  unfold s_Sm_tellRay_L12
  refine loop_b m (fun k => (fd (rayB T B n col) k (vf_upd x col FP.dconst1), nI k)) (rayX T B m n col x) rfl (by omega) (fun i hi => ?_) ?_ rfl
  · obtain ⟨h1, h2, h3⟩ := hC i hi
    have hB := (hT i hi).2.2
    show _ = some (Sum.inl (rayB T B n col i (fd (rayB T B n col) i (vf_upd x col FP.dconst1)), nI (i + 1)))
    unfold rayB
    by_cases c1 : B i < n
    · simp (disch := omega) only [↓ite_le_t, ↓ite_le_f, ↓ite_lt_t, ↓ite_lt_f, li5, li8, nI_leI, nI_ltI, nI_eqI, if_pos, if_neg, ↓reduceIte, inb_nI, gd_t, nI_clamp, Option.bind_some, nI_1, isb_0, isb_1, lit13, lit14, lit40, nI_mul, nI_add, s_Sm_tellRay_B12, s_Sm_tellRay_J56, h3, h1 col (by omega)]
    · simp (disch := omega) only [↓ite_le_t, ↓ite_le_f, ↓ite_lt_t, ↓ite_lt_f, li5, li8, nI_leI, nI_ltI, nI_eqI, if_pos, if_neg, ↓reduceIte, inb_nI, gd_t, nI_clamp, Option.bind_some, nI_1, isb_0, isb_1, lit13, lit14, lit40, nI_mul, nI_add, s_Sm_tellRay_B12, s_Sm_tellRay_J56, h3]
  · simp (disch := omega) only [↓ite_le_t, ↓ite_le_f, ↓ite_lt_t, ↓ite_lt_f, s_Sm_tellRay_B12]
    rfl
