/-! the simplex method: its table, by itself -/
abbrev c9n : UInt64 := 13695778570484766357
abbrev c9 : UInt64 := 4472406533629990549
abbrev c12 : UInt64 := 4786511204640096256
abbrev c7 : UInt64 := 4502148214488346440
theorem nn_c9n : nnan c9n := by unfold nnan; decide +kernel
theorem nn_c9 : nnan c9 := by unfold nnan; decide +kernel
theorem nn_c12 : nnan c12 := by unfold nnan; decide +kernel
theorem nn_c7 : nnan c7 := by unfold nnan; decide +kernel
theorem c9_lo : (2 : Int) ^ 1044 ≤ zv c9 := by decide +kernel
theorem c12_hi : zv c12 ≤ (2 : Int) ^ 1114 := by decide +kernel
theorem c12_0 : 0 ≤ zv c12 := by decide +kernel
def ffI (p : Nat → Bool) : Nat → Int32
  | 0 => -1
  | n + 1 => if 0 ≤ ffI p n then ffI p n else if p n = true then nI n else -1
def First (P : Nat → Prop) (n : Nat) (r : Int32) : Prop := (∃ j, j < n ∧ r = nI j ∧ P j ∧ ∀ j', j' < j → ¬ P j') ∨ (r = -1 ∧ ∀ j, j < n → ¬ P j)
theorem m1_lt0 : (-1 : Int32) < 0 := by decide
theorem not_0_m1 : ¬ (0 : Int32) ≤ -1 := by decide
theorem First.uniq {P : Nat → Prop} {n : Nat} {r r' : Int32} (h : First P n r) (h' : First P n r') : r = r' := by
  rcases h with ⟨j, h1, rfl, h3, h4⟩ | ⟨rfl, h1⟩ <;> rcases h' with ⟨k, g1, rfl, g3, g4⟩ | ⟨rfl, g1⟩
  · have : j = k := by
      rcases Nat.lt_trichotomy j k with q | q | q
      · exact absurd h3 (g4 j q)
      · exact q
      · exact absurd g3 (h4 k q)
    rw [this]
  · exact absurd h3 (g1 j h1)
  · exact absurd g3 (h1 k g1)
  · rfl
theorem first_ff {p : Nat → Bool} {n : Nat} (hn : n ≤ 13) : First (fun j => p j = true) n (ffI p n) := by
  induction n with
  | zero => exact Or.inr ⟨rfl, fun j hj => absurd hj (Nat.not_lt_zero _)⟩
  | succ n ih =>
    unfold ffI
    rcases ih (by omega) with ⟨j, h1, h2, h3, h4⟩ | ⟨h1, h2⟩
    · rw [h2, if_pos (nI_pos' (by omega))]
      exact Or.inl ⟨j, by omega, rfl, h3, h4⟩
    · rw [h1, if_neg not_0_m1]
      by_cases c : p n = true
      · rw [if_pos c]
        exact Or.inl ⟨n, by omega, rfl, c, h2⟩
      · rw [if_neg c]
        refine Or.inr ⟨rfl, fun j hj => ?_⟩
        by_cases e : j = n
        · subst e; exact c
        · exact h2 j (by omega)
theorem ff_of {P : Nat → Prop} {p : Nat → Bool} {n : Nat} {r : Int32} (hn : n ≤ 13) (hp : ∀ j, p j = true ↔ P j) (h : First P n r) : r = ffI p n := by
  have e : (fun j => p j = true) = P := funext fun j => propext (hp j)
  refine First.uniq h ?_
  rw [← e]
  exact first_ff hn
/-- the state of a table: T, the right side, the basis -/
def TB (m n : Nat) (T : (Nat → Nat → UInt64)) (R : (Nat → UInt64)) (B : Nat → Nat) : Prop := ∀ i, i < m → (∀ k, k < n + m → Bc 1 1114 (T i k)) ∧ Bc 1 1114 (R i) ∧ B i < n + m
def CB (m n : Nat) (cost : (Nat → UInt64)) : Prop := ∀ k, k < n + m → Bc 1 1115 (cost k)
def rqf (T : (Nat → Nat → UInt64)) (cost : (Nat → UInt64)) (B : Nat → Nat) (j : Nat) : (Nat → UInt64) := fun i => FP.dmul (cost (B i)) (T i j)
def rq (m : Nat) (T : (Nat → Nat → UInt64)) (cost : (Nat → UInt64)) (B : Nat → Nat) (j : Nat) : UInt64 := subR (rqf T cost B j) m (cost j)
def colF (m n : Nat) (T : (Nat → Nat → UInt64)) (cost : (Nat → UInt64)) (B : Nat → Nat) : Int32 := ffI (fun j => decide (zv (rq m T cost B j) < zv c9n)) n
theorem rq_bc {m n j : Nat} {T : (Nat → Nat → UInt64)} {R cost : (Nat → UInt64)} {B : Nat → Nat} (hm : m ≤ 5) (hT : TB m n T R B) (hc : CB m n cost) (hj : j < n) : okS (rqf T cost B j) m (cost j) ∧ Bc 1 1159 (rq m T cost B j) :=
  okS_bc (K := 1155) (by omega) (by decide) (fun i hi => mul_bc (hc _ (hT i hi).2.2) ((hT i hi).1 j (by omega)) (by decide) (by decide)) ((hc j (by omega)).k (by decide))
def tgB (T : (Nat → Nat → UInt64)) (R : (Nat → UInt64)) (B : Nat → Nat) (j i : Nat) (st : Int32 × UInt64) : Int32 × UInt64 :=
  if zv (T i j) ≤ zv c9 then st else if st.1 < 0 ∨ zv (FP.ddiv (R i) (T i j)) < zv st.2 ∨ (zv (FP.ddiv (R i) (T i j)) = zv st.2 ∧ B i < B st.1.toNatClampNeg) then (nI i, FP.ddiv (R i) (T i j)) else st
def tgS (m : Nat) (T : (Nat → Nat → UInt64)) (R : (Nat → UInt64)) (B : Nat → Nat) (j : Nat) : Int32 × UInt64 := fd (tgB T R B j) m (-1, FP.dconst0)
def lftF (m n : Nat) (T : (Nat → Nat → UInt64)) (B : Nat → Nat) (j : Nat) : Int32 := ffI (fun i => decide (n ≤ B i ∧ zv c9 < zv (dabs (T i j)))) m
def rowF (m n : Nat) (T : (Nat → Nat → UInt64)) (R : (Nat → UInt64)) (B : Nat → Nat) (second : Int32) (j : Nat) : Int32 := if second = 0 then (tgS m T R B j).1 else if lftF m n T B j < 0 then (tgS m T R B j).1 else lftF m n T B j
theorem big9 {v : UInt64} (h : zv c9 < zv v) : sg v = false ∧ 2 ^ 1044 ≤ mz v := by
  have h1 := Int.le_of_lt (Int.lt_of_le_of_lt c9_lo h)
  have h2 := zv_pos (Int.lt_of_lt_of_le (Int.pow_pos (by decide)) h1)
  refine ⟨h2.1, ?_⟩
  rw [zv_f h2.1] at h1
  exact_mod_cast h1
theorem tgS_s (m : Nat) (T : (Nat → Nat → UInt64)) (R : (Nat → UInt64)) (B : Nat → Nat) (j : Nat) : tgS (m + 1) T R B j = tgB T R B j m (tgS m T R B j) := rfl
theorem rat_bc {m n i j : Nat} {T : (Nat → Nat → UInt64)} {R : (Nat → UInt64)} {B : Nat → Nat} (hT : TB m n T R B) (hi : i < m) (hj : j < n) (h : ¬ zv (T i j) ≤ zv c9) : Bc 1 1144 (FP.ddiv (R i) (T i j)) :=
  div_bc (hT i hi).2.1 ((hT i hi).1 j (by omega)).fin (big9 (Int.not_le.mp h)).2 (by decide) (by decide)
theorem tgS_ok {m n j : Nat} {T : (Nat → Nat → UInt64)} {R : (Nat → UInt64)} {B : Nat → Nat} (hT : TB m n T R B) (hj : j < n) : ∀ k, k ≤ m → ((tgS k T R B j).1 = -1 ∨ ∃ i, i < k ∧ (tgS k T R B j).1 = nI i ∧ 2 ^ 1044 ≤ mz (T i j)) ∧ nnan (tgS k T R B j).2 := by
  intro k
  induction k with
  | zero => intro _; exact ⟨Or.inl rfl, nn_0⟩
  | succ k ih =>
    intro hk
    obtain ⟨i1, i2⟩ := ih (by omega)
    have lift : ((tgS k T R B j).1 = -1 ∨ ∃ i, i < k + 1 ∧ (tgS k T R B j).1 = nI i ∧ 2 ^ 1044 ≤ mz (T i j)) := by
      rcases i1 with q | ⟨i, q1, q2⟩
      · exact Or.inl q
      · exact Or.inr ⟨i, by omega, q2⟩
    rw [tgS_s]
    unfold tgB
    by_cases c1 : zv (T k j) ≤ zv c9
    · rw [if_pos c1]
      exact ⟨lift, i2⟩
    · rw [if_neg c1]
      split
      · exact ⟨Or.inr ⟨k, by omega, rfl, (big9 (Int.not_le.mp c1)).2⟩, (rat_bc hT (by omega) hj c1).nn⟩
      · exact ⟨lift, i2⟩
theorem rowF_ok {m n j : Nat} {T : (Nat → Nat → UInt64)} {R : (Nat → UInt64)} {B : Nat → Nat} {second : Int32} (hm : m ≤ 5) (hT : TB m n T R B) (hj : j < n) : rowF m n T R B second j = -1 ∨ ∃ i, i < m ∧ rowF m n T R B second j = nI i ∧ 2 ^ 1044 ≤ mz (T i j) := by
  unfold rowF
  have t := (tgS_ok hT hj m (Nat.le_refl _)).1
  split
  · exact t
  · split
    · exact t
    · next h =>
      rcases first_ff (p := fun i => decide (n ≤ B i ∧ zv c9 < zv (dabs (T i j)))) (n := m) (by omega) with ⟨i, h1, h2, h3, -⟩ | ⟨h1, -⟩
      · have h3 := of_decide_eq_true h3
        have h4 := (big9 h3.2).2
        rw [mz_abs] at h4
        exact Or.inr ⟨i, h1, h2, h4⟩
      · exact Or.inl h1
theorem colF_ok {m n : Nat} {T : (Nat → Nat → UInt64)} {cost : (Nat → UInt64)} {B : Nat → Nat} (hn : n ≤ 8) : colF m n T cost B = -1 ∨ ∃ j, j < n ∧ colF m n T cost B = nI j := by
  unfold colF
  rcases first_ff (p := fun j => decide (zv (rq m T cost B j) < zv c9n)) (n := n) (by omega) with ⟨j, h1, h2, -⟩ | ⟨h1, -⟩
  · exact Or.inr ⟨j, h1, h2⟩
  · exact Or.inl h1
/-! the class's choices -/
def CT (m n : Nat) (T : (Nat → Nat → UInt64)) (R : (Nat → UInt64)) (B : Nat → Nat) (tb : (Nat → Nat → UInt64)) (ri : (Nat → UInt64)) (ba : Nat → Int32) : Prop := ∀ i, i < m → (∀ k, k < n + m → tb i k = T i k) ∧ ri i = R i ∧ ba i = nI (B i)
theorem e_incoming {m n : Nat} {T : (Nat → Nat → UInt64)} {R cost : (Nat → UInt64)} {B : Nat → Nat} {tb : (Nat → Nat → UInt64)} {ri co : (Nat → UInt64)} {ba : Nat → Int32} (cs sd : Int32) (hm : m ≤ 5) (hn : n ≤ 8) (hT : TB m n T R B) (hc : CB m n cost) (hC : CT m n T R B tb ri ba) (hco : ∀ k, k < n + m → co k = cost k) : s_Sm_incoming (nI m) (nI n) cs sd tb co ba = some (colF m n T cost B) := by
  refine Ok.eq (Ok.imp (P := First (fun j => zv (rq m T cost B j) < zv c9n) n) ?_ fun r hr => ff_of (by omega) (fun j => decide_eq_true_iff) hr)
  unfold s_Sm_incoming s_Sm_incoming_L2
  refine Ok.bind (P := fun v => Sum.elim (fun _ => ∀ j, j < n → ¬ zv (rq m T cost B j) < zv c9n) (fun r => First (fun j => zv (rq m T cost B j) < zv c9n) n r) v) ?_ ?_
  · refine Ok.for (fun t st => st = nI t ∧ ∀ j, j < t → ¬ zv (rq m T cost B j) < zv c9n) n (by omega) ⟨rfl, fun i hi => absurd hi (Nat.not_lt_zero _)⟩ ?_ ?_
    · rintro j st hj ⟨rfl, g1⟩
      obtain ⟨o1, o2⟩ := rq_bc hm hT hc hj
      simp (disch := omega) only [↓ite_le_t, ↓ite_le_f, ↓ite_lt_t, ↓ite_lt_f, li5, li8, nI_leI, nI_ltI, nI_eqI, if_pos, if_neg, ↓reduceIte, inb_nI, gd_t, nI_clamp, Option.bind_some, nI_1, isb_0, isb_1, lit13, lit14, lit40, nI_mul, nI_add, s_Sm_incoming_B2]
      unfold s_Sm_incoming_L20
      refine Ok.bind (P := fun v => v = rq m T cost B j) ?_ ?_
      · refine loop_ok m (fun k => (subR (rqf T cost B j) k (cost j), nI k)) _ (by rw [hco j (by omega)]; rfl) (by omega) (fun i hi => ?_) ?_
        · obtain ⟨h1, h2, h3⟩ := hC i hi
          have hB := (hT i hi).2.2
          have a := o1.1 i hi
          have b := o1.2 i hi
          have e1 : FP.dmul (cost (B i)) (T i j) = rqf T cost B j i := rfl
          simp (disch := omega) only [↓ite_le_t, ↓ite_le_f, ↓ite_lt_t, ↓ite_lt_f, li5, li8, nI_leI, nI_ltI, nI_eqI, if_pos, if_neg, ↓reduceIte, inb_nI, gd_t, nI_clamp, Option.bind_some, nI_1, isb_0, isb_1, lit13, lit14, lit40, nI_mul, nI_add, s_Sm_incoming_B20, h3, hco _ hB, h1 j (by omega), e1, a, ← subR_s (rqf T cost B j), b]
        · simp (disch := omega) only [↓ite_le_t, ↓ite_le_f, ↓ite_lt_t, ↓ite_lt_f, s_Sm_incoming_B20]
          rfl
      · rintro v rfl
        have e1 := cv_ge (op := .g) o2.nn nn_c9n
        by_cases c1 : zv (rq m T cost B j) < zv c9n
        · rw [if_neg (fun q => absurd (e1.mp q) (Int.not_le.mpr c1))]
          exact Ok.mk (Or.inl ⟨j, hj, rfl, c1, g1⟩)
        · rw [if_pos (e1.mpr (Int.not_lt.mp c1))]
          refine Ok.mk ⟨nI_1 j, fun j' hj' => ?_⟩
          by_cases e : j' = j
          · subst e; exact c1
          · exact g1 j' (by omega)
    · rintro st ⟨rfl, g1⟩
      simp (disch := omega) only [↓ite_le_t, ↓ite_le_f, ↓ite_lt_t, ↓ite_lt_f, s_Sm_incoming_B2]
      exact Ok.mk g1
  · rintro (v | v) hv
    · exact Ok.mk (Or.inr ⟨rfl, hv⟩)
    · exact Ok.mk hv
theorem e_leftover {m n j : Nat} {T : (Nat → Nat → UInt64)} {R : (Nat → UInt64)} {B : Nat → Nat} {tb : (Nat → Nat → UInt64)} {ri : (Nat → UInt64)} {ba : Nat → Int32} (cs sd : Int32) (hm : m ≤ 5) (hn : n ≤ 8) (hj : j < n) (hT : TB m n T R B) (hC : CT m n T R B tb ri ba) : s_Sm_leftover (nI m) (nI n) cs sd tb ba (nI j) = some (lftF m n T B j) := by
  refine Ok.eq (Ok.imp (P := First (fun i => n ≤ B i ∧ zv c9 < zv (dabs (T i j))) m) ?_ fun r hr => ff_of (by omega) (fun j => decide_eq_true_iff) hr)
  unfold s_Sm_leftover s_Sm_leftover_L2
  refine Ok.bind (P := fun v => Sum.elim (fun _ => ∀ i, i < m → ¬ (n ≤ B i ∧ zv c9 < zv (dabs (T i j)))) (fun r => First (fun i => n ≤ B i ∧ zv c9 < zv (dabs (T i j))) m r) v) ?_ ?_
  · refine Ok.for (fun t st => st = nI t ∧ ∀ i, i < t → ¬ (n ≤ B i ∧ zv c9 < zv (dabs (T i j)))) m (by omega) ⟨rfl, fun i hi => absurd hi (Nat.not_lt_zero _)⟩ ?_ ?_
    · rintro i st hi ⟨rfl, g1⟩
      obtain ⟨h1, h2, h3⟩ := hC i hi
      have hB := (hT i hi).2.2
      have hn' := ((hT i hi).1 j (by omega)).nn
      have e1 := cv_le (op := .l) (nn_abs hn') nn_c9
      have go : ¬ (n ≤ B i ∧ zv c9 < zv (dabs (T i j))) → ∀ i', i' < i + 1 → ¬ (n ≤ B i' ∧ zv c9 < zv (dabs (T i' j))) := by
        intro hh i' hi'
        by_cases e : i' = i
        · subst e; exact hh
        · exact g1 i' (by omega)
      simp (disch := omega) only [↓ite_le_t, ↓ite_le_f, ↓ite_lt_t, ↓ite_lt_f, li5, li8, nI_leI, nI_ltI, nI_eqI, if_pos, if_neg, ↓reduceIte, inb_nI, gd_t, nI_clamp, Option.bind_some, nI_1, isb_0, isb_1, lit13, lit14, lit40, nI_mul, nI_add, s_Sm_leftover_B2, s_Sm_leftover_J43, h3, h1 j (by omega), e_absolute hn']
      by_cases c1 : B i < n
      · rw [if_pos c1]
        exact Ok.mk ⟨rfl, go fun q => by omega⟩
      · rw [if_neg c1]
        by_cases c2 : zv (dabs (T i j)) ≤ zv c9
        · rw [if_pos (e1.mpr c2)]
          exact Ok.mk ⟨rfl, go fun q => absurd q.2 (Int.not_lt.mpr c2)⟩
        · rw [if_neg (fun q => c2 (e1.mp q))]
          exact Ok.mk (Or.inl ⟨i, hi, rfl, ⟨by omega, Int.not_le.mp c2⟩, g1⟩)
    · rintro st ⟨rfl, g1⟩
      simp (disch := omega) only [↓ite_le_t, ↓ite_le_f, ↓ite_lt_t, ↓ite_lt_f, s_Sm_leftover_B2]
      exact Ok.mk g1
  · rintro (v | v) hv
    · exact Ok.mk (Or.inr ⟨rfl, hv⟩)
    · exact Ok.mk hv
theorem e_tightest {m n j : Nat} {T : (Nat → Nat → UInt64)} {R : (Nat → UInt64)} {B : Nat → Nat} {tb : (Nat → Nat → UInt64)} {ri : (Nat → UInt64)} {ba : Nat → Int32} (vs cs sd : Int32) (hm : m ≤ 5) (hn : n ≤ 8) (hj : j < n) (hT : TB m n T R B) (hC : CT m n T R B tb ri ba) : s_Sm_tightest (nI m) vs cs sd tb ri ba (nI j) = some (tgS m T R B j).1 := by
  unfold s_Sm_tightest s_Sm_tightest_L7
  refine loop_b m (fun k => ((tgS k T R B j).1, (tgS k T R B j).2, nI k)) (tgS m T R B j).1 rfl (by omega) (fun i hi => ?_) ?_ rfl
  · obtain ⟨h1, h2, h3⟩ := hC i hi
    have hB := (hT i hi).2.2
    have hn' := ((hT i hi).1 j (by omega)).nn
    obtain ⟨t1, t2⟩ := tgS_ok hT hj i (by omega)
    have e1 := cv_le (op := .l) hn' nn_c9
    rw [tgS_s]
    unfold tgB
    generalize tgS i T R B j = st at *
    simp (disch := omega) only [↓ite_le_t, ↓ite_le_f, ↓ite_lt_t, ↓ite_lt_f, li5, li8, nI_leI, nI_ltI, nI_eqI, if_pos, if_neg, ↓reduceIte, inb_nI, gd_t, nI_clamp, Option.bind_some, nI_1, isb_0, isb_1, lit13, lit14, lit40, nI_mul, nI_add, s_Sm_tightest_B7, s_Sm_tightest_J91, s_Sm_tightest_J85, h1 j (by omega), h2, h3]
    by_cases c1 : zv (T i j) ≤ zv c9
    · rw [if_pos (e1.mpr c1), if_pos c1]
    · rw [if_neg (fun q => c1 (e1.mp q)), if_neg c1]
      have r := rat_bc hT hi hj c1
      have e2 := cv_lt (op := .g) r.nn t2
      have e3 := cv_eq (op := .l) r.nn t2
      simp only [r.isn, gd_t, e2, e3]
      rcases t1 with q | ⟨k, k1, k2, -⟩
      · rw [q, if_pos m1_lt0, if_pos (Or.inl m1_lt0)]
      · obtain ⟨-, -, k3⟩ := hC k (by omega)
        have hBk := (hT k (by omega)).2.2
        have np : ¬ nI k < 0 := nI_pos (by omega)
        rw [k2, if_neg np]
        simp (disch := omega) only [↓ite_le_t, ↓ite_le_f, ↓ite_lt_t, ↓ite_lt_f, li5, li8, nI_leI, nI_ltI, nI_eqI, if_pos, if_neg, ↓reduceIte, inb_nI, gd_t, nI_clamp, Option.bind_some, nI_1, isb_0, isb_1, lit13, lit14, lit40, nI_mul, nI_add, k3]
        by_cases c2 : zv (FP.ddiv (R i) (T i j)) < zv st.2
        · rw [if_pos c2, if_pos (Or.inr (Or.inl c2))]
        · rw [if_neg c2]
          by_cases c3 : zv (FP.ddiv (R i) (T i j)) = zv st.2
          · rw [if_pos c3]
            by_cases c4 : B k ≤ B i
            · rw [if_pos c4, if_neg (by
                rintro (q | q | ⟨-, q⟩)
                · exact np q
                · exact c2 q
                · omega)]
              rw [← k2]
            · rw [if_neg c4, if_pos (Or.inr (Or.inr ⟨c3, by omega⟩))]
          · rw [if_neg c3, if_neg (by
                rintro (q | q | ⟨q, -⟩)
                · exact np q
                · exact c2 q
                · exact c3 q)]
            rw [← k2]
  · simp (disch := omega) only [↓ite_le_t, ↓ite_le_f, ↓ite_lt_t, ↓ite_lt_f, s_Sm_tightest_B7]
theorem e_outgoing {m n j : Nat} {T : (Nat → Nat → UInt64)} {R : (Nat → UInt64)} {B : Nat → Nat} {tb : (Nat → Nat → UInt64)} {ri : (Nat → UInt64)} {ba : Nat → Int32} (cs sd second : Int32) (hm : m ≤ 5) (hn : n ≤ 8) (hj : j < n) (hT : TB m n T R B) (hC : CT m n T R B tb ri ba) : s_Sm_outgoing (nI m) (nI n) cs sd tb ri ba (nI j) second = some (rowF m n T R B second j) := by
  unfold s_Sm_outgoing s_Sm_outgoing_J13 rowF
  rw [e_leftover cs sd hm hn hj hT hC, e_tightest (nI n) cs sd hm hn hj hT hC]
  simp only [Option.bind_some]
  by_cases h : second = 0
  · rw [if_pos h, if_pos h, if_pos m1_lt0]
  · rw [if_neg h, if_neg h]
    split <;> rfl
