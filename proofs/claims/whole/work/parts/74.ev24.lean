/-! the reference's choices and steps -/
theorem e_entering {m n : Nat} {T : (Nat → Nat → UInt64)} {R cost : (Nat → UInt64)} {B : Nat → Nat} {t co : (Nat → UInt64)} {ba : Nat → Int32} (vl vw ve vt va vs vo v2 vnm vnn : Int32) (vnu : UInt64) (vb : Int32) (hm : m ≤ 5) (hn : n ≤ 8) (hT : TB m n T R B) (hc : CB m n cost) (hC : MT m n T R B t ba) (hco : ∀ k, k < n + m → co k = cost k) : s_M_entering (nI m) (nI n) vl vw ve vt va vs vo v2 vnm vnn vnu vb t co ba = some (colF m n T cost B) := by
  refine Ok.eq (Ok.imp (P := First (fun j => zv (rq m T cost B j) < zv c9n) n) ?_ fun r hr => ff_of (by omega) (fun j => decide_eq_true_iff) hr)
  unfold s_M_entering s_M_entering_L2
  refine Ok.bind (P := fun v => Sum.elim (fun _ => ∀ j, j < n → ¬ zv (rq m T cost B j) < zv c9n) (fun r => First (fun j => zv (rq m T cost B j) < zv c9n) n r) v) ?_ ?_
  · refine Ok.for (fun t st => st = nI t ∧ ∀ j, j < t → ¬ zv (rq m T cost B j) < zv c9n) n (by omega) ⟨rfl, fun i hi => absurd hi (Nat.not_lt_zero _)⟩ ?_ ?_
    · rintro j st hj ⟨rfl, g1⟩
      obtain ⟨o1, o2⟩ := rq_bc hm hT hc hj
      simp (disch := omega) only [↓ite_le_t, ↓ite_le_f, ↓ite_lt_t, ↓ite_lt_f, li5, li8, nI_leI, nI_ltI, nI_eqI, if_pos, if_neg, ↓reduceIte, inb_nI, gd_t, nI_clamp, Option.bind_some, nI_1, isb_0, isb_1, lit13, lit14, lit40, nI_mul, nI_add, s_M_entering_B2]
      unfold s_M_entering_L20
      refine Ok.bind (P := fun v => v = rq m T cost B j) ?_ ?_
      · refine loop_ok m (fun k => (subR (rqf T cost B j) k (cost j), nI k)) _ (by rw [hco j (by omega)]; rfl) (by omega) (fun i hi => ?_) ?_
        · have h1 := hC.t hi (show j < n + m by omega)
          have h3 := (hC i hi).2
          have hB := (hT i hi).2.2
          have a := o1.1 i hi
          have b := o1.2 i hi
          have e1 : FP.dmul (cost (B i)) (T i j) = rqf T cost B j i := rfl
          simp (disch := omega) only [↓ite_le_t, ↓ite_le_f, ↓ite_lt_t, ↓ite_lt_f, li5, li8, nI_leI, nI_ltI, nI_eqI, if_pos, if_neg, ↓reduceIte, inb_nI, gd_t, nI_clamp, Option.bind_some, nI_1, isb_0, isb_1, lit13, lit14, lit40, nI_mul, nI_add, s_M_entering_B20, h3, hco _ hB, h1, e1, a, ← subR_s (rqf T cost B j), b]
        · simp (disch := omega) only [↓ite_le_t, ↓ite_le_f, ↓ite_lt_t, ↓ite_lt_f, s_M_entering_B20]
          rfl
      · rintro v rfl
        have e1 := cv_ge (op := .g) o2.nn nn_c9n
        by_cases c1 : zv (rq m T cost B j) < zv c9n
        · rw [if_neg (fun q => absurd (e1.mp q) (Int.not_le.mpr c1))]
          exact Ok.mk (Or.inl ⟨j, hj, rfl, c1, g1⟩)
        · rw [if_pos (e1.mpr (Int.not_lt.mp c1))]
          refine Ok.mk ⟨nI_1 j, fun j' hj' => ?_⟩
          by_cases e : j' = j
          · subst e; exact c1
          · exact g1 j' (by omega)
    · rintro st ⟨rfl, g1⟩
      simp (disch := omega) only [↓ite_le_t, ↓ite_le_f, ↓ite_lt_t, ↓ite_lt_f, s_M_entering_B2]
      exact Ok.mk g1
  · rintro (v | v) hv
    · exact Ok.mk (Or.inr ⟨rfl, hv⟩)
    · exact Ok.mk hv
theorem e_leaving66 {m n j : Nat} {T : (Nat → Nat → UInt64)} {R : (Nat → UInt64)} {B : Nat → Nat} {t : (Nat → UInt64)} {ba : Nat → Int32} (vl vw ve vt va vs vo v2 vnm vnn : Int32) (vnu : UInt64) (vb : Int32) (hm : m ≤ 5) (hn : n ≤ 8) (hj : j < n) (hT : TB m n T R B) (hC : MT m n T R B t ba) : s_M_leaving_L66 (nI m) (nI n) vl vw ve vt va vs vo v2 vnm vnn vnu vb t ba (nI j) (-1) FP.dconst0 0 = some (tgS m T R B j).1 := by
  unfold s_M_leaving_L66
  refine loop_b m (fun k => ((tgS k T R B j).1, (tgS k T R B j).2, nI k)) (tgS m T R B j).1 rfl (by omega) (fun i hi => ?_) ?_ rfl
  · have h1 := hC.t hi (show j < n + m by omega)
    have h2 := hC.r hm hn hi
    have h3 := (hC i hi).2
    have hB := (hT i hi).2.2
    have hn' := ((hT i hi).1 j (by omega)).nn
    obtain ⟨t1, t2⟩ := tgS_ok hT hj i (by omega)
    have e1 := cv_gt (op := .g) hn' nn_c9
    rw [tgS_s]
    unfold tgB
    generalize tgS i T R B j = st at *
    simp (disch := omega) only [↓ite_le_t, ↓ite_le_f, ↓ite_lt_t, ↓ite_lt_f, li5, li8, nI_leI, nI_ltI, nI_eqI, if_pos, if_neg, ↓reduceIte, inb_nI, gd_t, nI_clamp, Option.bind_some, nI_1, isb_0, isb_1, lit13, lit14, lit40, nI_mul, nI_add, s_M_leaving_B66, s_M_leaving_J165, s_M_leaving_J159, h1, h2, h3]
    by_cases c1 : zv (T i j) ≤ zv c9
    · rw [if_neg (fun q => absurd (e1.mp q) (Int.not_lt.mpr c1)), if_pos c1]
    · rw [if_pos (e1.mpr (Int.not_le.mp c1)), if_neg c1]
      have r := rat_bc hT hi hj c1
      have e2 := cv_lt (op := .g) r.nn t2
      have e3 := cv_eq (op := .l) r.nn t2
      simp only [r.isn, gd_t, e2, e3]
      rcases t1 with q | ⟨k, k1, k2, -⟩
      · rw [q, if_pos m1_lt0, if_pos (Or.inl m1_lt0)]
      · have k3 := (hC k (by omega)).2
        have hBk := (hT k (by omega)).2.2
        have np : ¬ nI k < 0 := nI_pos (by omega)
        rw [k2, if_neg np]
        simp (disch := omega) only [↓ite_le_t, ↓ite_le_f, ↓ite_lt_t, ↓ite_lt_f, li5, li8, nI_leI, nI_ltI, nI_eqI, if_pos, if_neg, ↓reduceIte, inb_nI, gd_t, nI_clamp, Option.bind_some, nI_1, isb_0, isb_1, lit13, lit14, lit40, nI_mul, nI_add, k3]
        by_cases c2 : zv (FP.ddiv (R i) (T i j)) < zv st.2
        · rw [if_pos c2, if_pos (Or.inr (Or.inl c2))]
        · rw [if_neg c2]
          by_cases c3 : zv (FP.ddiv (R i) (T i j)) = zv st.2
          · rw [if_pos c3]
            by_cases c4 : B k ≤ B i
            · rw [if_pos c4, if_neg (by
                rintro (q | q | ⟨-, q⟩)
                · exact np q
                · exact c2 q
                · omega)]
              rw [← k2]
            · rw [if_neg c4, if_pos (Or.inr (Or.inr ⟨c3, by omega⟩))]
          · rw [if_neg c3, if_neg (by
                rintro (q | q | ⟨q, -⟩)
                · exact np q
                · exact c2 q
                · exact c3 q)]
            rw [← k2]
  · simp (disch := omega) only [↓ite_le_t, ↓ite_le_f, ↓ite_lt_t, ↓ite_lt_f, s_M_leaving_B66]
theorem e_leaving {m n j : Nat} {T : (Nat → Nat → UInt64)} {R : (Nat → UInt64)} {B : Nat → Nat} {t : (Nat → UInt64)} {ba : Nat → Int32} (vl vw ve vt va vs vo sec vnm vnn : Int32) (vnu : UInt64) (vb : Int32) (hm : m ≤ 5) (hn : n ≤ 8) (hj : j < n) (hT : TB m n T R B) (hC : MT m n T R B t ba) : s_M_leaving (nI m) (nI n) vl vw ve vt va vs vo sec vnm vnn vnu vb t ba (nI j) = some (rowF m n T R B sec j) := by
  have e66 := e_leaving66 vl vw ve vt va vs vo sec vnm vnn vnu vb hm hn hj hT hC
  unfold s_M_leaving s_M_leaving_L4
  refine Ok.eq ?_
  refine Ok.bind (P := fun v => Sum.elim (fun _ => sec = 0 ∨ lftF m n T B j < 0) (fun r => ¬ sec = 0 ∧ r = lftF m n T B j ∧ ¬ lftF m n T B j < 0) v) ?_ ?_
  · by_cases h : sec = 0
    · subst h
      refine Ok.for (fun t st => st = nI t) 1 (by omega) rfl ?_ ?_
      · rintro i st hi rfl
        have hi0 : i = 0 := by omega
        subst hi0
        by_cases h0 : m = 0
        · subst h0
          simp (disch := omega) only [↓ite_le_t, ↓ite_le_f, ↓ite_lt_t, ↓ite_lt_f, s_M_leaving_B4]
          exact Ok.mk (Or.inl (by trivial))
        · simp only [s_M_leaving_B4, ↓reduceIte]
          split
          · exact Ok.mk (Or.inl (by trivial))
          · exact Ok.mk (Or.inl (by trivial))
      · rintro st rfl
        simp only [s_M_leaving_B4, ↓reduceIte]
        split
        · exact Ok.mk (Or.inl (by trivial))
        · exact Ok.mk (Or.inl (by trivial))
    · refine Ok.for (fun t st => st = nI t ∧ ∀ i, i < t → ¬ (n ≤ B i ∧ zv c9 < zv (dabs (T i j)))) m (by omega) ⟨rfl, fun i hi => absurd hi (Nat.not_lt_zero _)⟩ ?_ ?_
      · rintro i st hi ⟨rfl, g1⟩
        have h1 := hC.t hi (show j < n + m by omega)
        have h3 := (hC i hi).2
        have hB := (hT i hi).2.2
        have hn' := ((hT i hi).1 j (by omega)).nn
        have e1 := cv_le (op := .l) (nn_abs hn') nn_c9
        have go : ¬ (n ≤ B i ∧ zv c9 < zv (dabs (T i j))) → ∀ i', i' < i + 1 → ¬ (n ≤ B i' ∧ zv c9 < zv (dabs (T i' j))) := by
          intro hh i' hi'
          by_cases e : i' = i
          · subst e; exact hh
          · exact g1 i' (by omega)
        simp (disch := omega) only [↓ite_le_t, ↓ite_le_f, ↓ite_lt_t, ↓ite_lt_f, li5, li8, nI_leI, nI_ltI, nI_eqI, if_pos, if_neg, ↓reduceIte, inb_nI, gd_t, nI_clamp, Option.bind_some, nI_1, isb_0, isb_1, lit13, lit14, lit40, nI_mul, nI_add, s_M_leaving_B4, s_M_leaving_J55, h, h3, h1, e_mabs hn']
        by_cases c1 : B i < n
        · rw [if_pos c1]
          exact Ok.mk ⟨rfl, go fun q => by omega⟩
        · rw [if_neg c1]
          by_cases c2 : zv (dabs (T i j)) ≤ zv c9
          · rw [if_pos (e1.mpr c2)]
            exact Ok.mk ⟨rfl, go fun q => absurd q.2 (Int.not_lt.mpr c2)⟩
          · rw [if_neg (fun q => c2 (e1.mp q))]
            have ef : nI i = lftF m n T B j := ff_of (P := fun i => n ≤ B i ∧ zv c9 < zv (dabs (T i j))) (by omega) (fun j => decide_eq_true_iff) (Or.inl ⟨i, hi, rfl, ⟨by omega, Int.not_le.mp c2⟩, g1⟩)
            exact Ok.mk ⟨(by first | exact h | exact not_false), ef, by rw [← ef]; exact nI_pos (by omega)⟩
      · rintro st ⟨rfl, g1⟩
        simp (disch := omega) only [↓ite_le_t, ↓ite_le_f, ↓ite_lt_t, ↓ite_lt_f, s_M_leaving_B4]
        have ef : (-1 : Int32) = lftF m n T B j := ff_of (P := fun i => n ≤ B i ∧ zv c9 < zv (dabs (T i j))) (by omega) (fun j => decide_eq_true_iff) (Or.inr ⟨rfl, g1⟩)
        exact Ok.mk (Or.inr (by rw [← ef]; exact m1_lt0))
  · rintro (v | v) hv
    · simp only [Sum.elim_inl, s_M_leaving_J61]
      rw [e66]
      refine Ok.mk ?_
      unfold rowF
      rcases hv with h | h
      · rw [if_pos h]
      · rw [if_pos h]
        split <;> rfl
    · obtain ⟨a1, a2, a3⟩ := hv
      refine Ok.mk ?_
      unfold rowF
      rw [if_neg a1, if_neg a3]
      exact a2
theorem e_isUsed {m n k : Nat} (vl vw ve vt va vs vo v2 vnm vnn : Int32) (vnu : UInt64) (vb : Int32) (hm : m ≤ 5) (hn : n ≤ 8) (hk : k < 14) : (Us m n k → s_M_isUsed (nI m) (nI n) vl vw ve vt va vs vo v2 vnm vnn vnu vb (nI k) = some 1) ∧ (¬ Us m n k → s_M_isUsed (nI m) (nI n) vl vw ve vt va vs vo v2 vnm vnn vnu vb (nI k) = some 0) := by
  unfold s_M_isUsed s_M_isUsed_J19 Us
  refine ⟨fun h => ?_, fun h => ?_⟩
  · by_cases c1 : k < n + m
    · simp (disch := omega) only [↓ite_le_t, ↓ite_le_f, ↓ite_lt_t, ↓ite_lt_f, li5, li8, nI_leI, nI_ltI, nI_eqI, if_pos, if_neg, ↓reduceIte, inb_nI, gd_t, nI_clamp, Option.bind_some, nI_1, isb_0, isb_1, lit13, lit14, lit40, nI_mul, nI_add]
    · have e : k = 13 := by omega
      subst e
      simp (disch := omega) only [↓ite_le_t, ↓ite_le_f, ↓ite_lt_t, ↓ite_lt_f, li5, li8, nI_leI, nI_ltI, nI_eqI, if_pos, if_neg, ↓reduceIte, inb_nI, gd_t, nI_clamp, Option.bind_some, nI_1, isb_0, isb_1, lit13, lit14, lit40, nI_mul, nI_add]
  · have c1 : ¬ k < n + m := fun q => h (Or.inl q)
    have c2 : ¬ k = 13 := fun q => h (Or.inr q)
    simp (disch := omega) only [↓ite_le_t, ↓ite_le_f, ↓ite_lt_t, ↓ite_lt_f, li5, li8, nI_leI, nI_ltI, nI_eqI, if_pos, if_neg, ↓reduceIte, inb_nI, gd_t, nI_clamp, Option.bind_some, nI_1, isb_0, isb_1, lit13, lit14, lit40, nI_mul, nI_add]
/-- a step, on the wide table -/
def pTT (m n : Nat) (T : (Nat → Nat → UInt64)) (R : (Nat → UInt64)) (row col i k : Nat) : UInt64 := TT m n (pT T row col) (pR T R row col) i k
theorem pTT_row {m n row col k : Nat} {T : (Nat → Nat → UInt64)} {R : (Nat → UInt64)} : pTT m n T R row col row k = FP.ddiv (TT m n T R row k) (T row col) := by
  unfold pTT TT pT pR
  rw [if_pos rfl, if_pos rfl]
  split <;> rfl
theorem pTT_ne {m n row col i k : Nat} {T : (Nat → Nat → UInt64)} {R : (Nat → UInt64)} (h : ¬ i = row) : pTT m n T R row col i k = FP.dsub (TT m n T R i k) (FP.dmul (T i col) (FP.ddiv (TT m n T R row k) (T row col))) := by
  unfold pTT TT pT pR
  rw [if_neg h, if_neg h]
  split <;> rfl
theorem e_mpivot {m n row col : Nat} {T : (Nat → Nat → UInt64)} {R : (Nat → UInt64)} {B : Nat → Nat} {t : (Nat → UInt64)} {ba : Nat → Int32} (vl vw ve vt va vs vo v2 vnm vnn : Int32) (vnu : UInt64) (vb : Int32) (hm : m ≤ 5) (hn : n ≤ 8) (hT : TB m n T R B) (hC : MT m n T R B t ba) (hr : row < m) (hc : col < n) (hp : 2 ^ 1044 ≤ mz (T row col)) :
    Ok (s_M_pivot (nI m) (nI n) vl vw ve vt va vs vo v2 vnm vnn vnu vb t ba (nI row) (nI col)) (fun r => MT m n (pT T row col) (pR T R row col) (pB B row col) r.1 r.2) := by
  obtain ⟨b1, b2, b3, b4, b5, b6⟩ := piv_bc hT hr hc hp
  have q1 : ∀ k, isn (FP.ddiv (TT m n T R row k) (T row col)) = true ∨ ¬ Us m n k := fun k => by
    by_cases hu : Us m n k
    · left
      unfold TT
      split
      · next h => exact (b1 k h).isn
      · exact b2.isn
    · exact Or.inr hu
  have q2 : ∀ i, i < m → ∀ k, Us m n k → isn (FP.dmul (T i col) (FP.ddiv (TT m n T R row k) (T row col))) = true ∧ isn (pTT m n T R row col i k) = true := fun i hi k hu => by
    refine ⟨?_, ?_⟩
    · unfold TT
      split
      · next h => exact (b3 i hi k h).isn
      · exact (b4 i hi).isn
    · unfold pTT TT
      split
      · next h => exact (b5 i hi k h).isn
      · exact (b6 i hi).isn
  have e0 : t (14 * row + col) = T row col := hC.t hr (by omega)
  have us14 : ∀ {k}, Us m n k → k < 14 := fun {k} h => by
    rcases h with q | q <;> omega
  unfold s_M_pivot
  simp (disch := omega) only [↓ite_le_t, ↓ite_le_f, ↓ite_lt_t, ↓ite_lt_f, li5, li8, nI_leI, nI_ltI, nI_eqI, if_pos, if_neg, ↓reduceIte, inb_nI, gd_t, nI_clamp, Option.bind_some, nI_1, isb_0, isb_1, lit13, lit14, lit40, nI_mul, nI_add, e0]
  unfold s_M_pivot_L15
  refine Ok.bind (P := fun w => (∀ k, Us m n k → w (14 * row + k) = FP.ddiv (TT m n T R row k) (T row col)) ∧ ∀ i, ¬ i = row → ∀ k, k < 14 → w (14 * i + k) = t (14 * i + k)) ?_ ?_
  · refine Ok.for (fun q (st : (Nat → UInt64) × Int32) => st.2 = nI q ∧ (∀ k, k < q → Us m n k → st.1 (14 * row + k) = FP.ddiv (TT m n T R row k) (T row col)) ∧ (∀ k, q ≤ k → Us m n k → st.1 (14 * row + k) = TT m n T R row k) ∧ ∀ i, ¬ i = row → ∀ k, k < 14 → st.1 (14 * i + k) = t (14 * i + k)) 14 (by omega) ⟨rfl, fun i hi => absurd hi (Nat.not_lt_zero _), fun k _ hk => (hC row hr).1 k hk, fun _ _ _ _ => rfl⟩ ?_ ?_
    · rintro k ⟨w, z⟩ hk ⟨hz, u1, u2, u3⟩
      have hz : z = nI k := hz
      subst hz
      by_cases hu : Us m n k
      · have eu := (e_isUsed vl vw ve vt va vs vo v2 vnm vnn vnu vb hm hn hk).1 hu
        have e1 : w (14 * row + k) = TT m n T R row k := u2 k (Nat.le_refl _) hu
        have e2 : isn (FP.ddiv (TT m n T R row k) (T row col)) = true := (q1 k).resolve_right fun h => h hu
        simp (disch := omega) only [↓ite_le_t, ↓ite_le_f, ↓ite_lt_t, ↓ite_lt_f, li5, li8, nI_leI, nI_ltI, nI_eqI, if_pos, if_neg, ↓reduceIte, inb_nI, gd_t, nI_clamp, Option.bind_some, nI_1, isb_0, isb_1, lit13, lit14, lit40, nI_mul, nI_add, s_M_pivot_B15, s_M_pivot_J57, eu, i32_10, e1, e2]
        refine Ok.mk ⟨rfl, fun k' hk' hu' => ?_, fun k' h1 h2 => (upd_ne (by omega)).trans (u2 k' (by omega) h2), fun i hi k' hk' => (upd_ne (by omega)).trans (u3 i hi k' hk')⟩
        by_cases e : k' = k
        · subst e; exact upd_at _ _ _
        · exact (upd_ne (by omega)).trans (u1 k' (by omega) hu')
      · have eu := (e_isUsed vl vw ve vt va vs vo v2 vnm vnn vnu vb hm hn hk).2 hu
        simp (disch := omega) only [↓ite_le_t, ↓ite_le_f, ↓ite_lt_t, ↓ite_lt_f, li5, li8, nI_leI, nI_ltI, nI_eqI, if_pos, if_neg, ↓reduceIte, inb_nI, gd_t, nI_clamp, Option.bind_some, nI_1, isb_0, isb_1, lit13, lit14, lit40, nI_mul, nI_add, s_M_pivot_B15, s_M_pivot_J57, eu]
        refine Ok.mk ⟨rfl, fun k' hk' hu' => ?_, fun k' h1 h2 => u2 k' (by omega) h2, u3⟩
        by_cases e : k' = k
        · subst e; exact absurd hu' hu
        · exact u1 k' (by omega) hu'
    · rintro ⟨w, z⟩ ⟨hz, u1, -, u3⟩
      have hz : z = nI 14 := hz
      subst hz
      simp (disch := omega) only [s_M_pivot_B15, lit14, ↓ite_le_t]
      exact Ok.mk ⟨fun k hk => u1 k (us14 hk) hk, u3⟩
  · rintro w ⟨u1, u3⟩
    unfold s_M_pivot_L66
    refine Ok.bind (P := fun v => ∀ i, i < m → ∀ k, Us m n k → v (14 * i + k) = pTT m n T R row col i k) ?_ ?_
    · refine Ok.for (fun q (st : (Nat → UInt64) × Int32) => st.2 = nI q ∧ (∀ i, i < q → i < m → ∀ k, Us m n k → st.1 (14 * i + k) = pTT m n T R row col i k) ∧ (∀ i, q ≤ i → i < m → ¬ i = row → ∀ k, Us m n k → st.1 (14 * i + k) = TT m n T R i k) ∧ ∀ k, Us m n k → st.1 (14 * row + k) = FP.ddiv (TT m n T R row k) (T row col)) m (by omega) ⟨rfl, fun i hi => absurd hi (Nat.not_lt_zero _), fun i _ hi hne k hk => (u3 i hne k (us14 hk)).trans ((hC i hi).1 k hk), u1⟩ ?_ ?_
      · rintro q ⟨w', z⟩ hq ⟨hz, r1, r2, r3⟩
        have hz : z = nI q := hz
        subst hz
        simp (disch := omega) only [↓ite_le_t, ↓ite_le_f, ↓ite_lt_t, ↓ite_lt_f, li5, li8, nI_leI, nI_ltI, nI_eqI, if_pos, if_neg, ↓reduceIte, inb_nI, gd_t, nI_clamp, Option.bind_some, nI_1, isb_0, isb_1, lit13, lit14, lit40, nI_mul, nI_add, s_M_pivot_B66]
        unfold s_M_pivot_L92
        refine Ok.bind (P := fun v => (∀ k, Us m n k → v (14 * q + k) = pTT m n T R row col q k) ∧ ∀ i, ¬ i = q → ∀ k, k < 14 → v (14 * i + k) = w' (14 * i + k)) ?_ ?_
        · by_cases e : q = row
          · subst e
            refine Ok.for (fun p (st : (Nat → UInt64) × Int32) => st.2 = nI p ∧ st.1 = w') 1 (by omega) ⟨rfl, rfl⟩ ?_ ?_
            · rintro p ⟨w2, z⟩ hp ⟨hz, hw⟩
              have hz : z = nI p := hz
              have hw : w2 = w' := hw
              subst hz hw
              simp (disch := omega) only [s_M_pivot_B92, lit14, ↓ite_le_f, ↓reduceIte]
              exact Ok.mk ⟨fun k hk => (r3 k hk).trans pTT_row.symm, fun _ _ _ _ => rfl⟩
            · rintro ⟨w2, z⟩ ⟨hz, hw⟩
              have hz : z = nI 1 := hz
              have hw : w2 = w' := hw
              subst hz hw
              simp (disch := omega) only [s_M_pivot_B92, lit14, ↓ite_le_f, ↓reduceIte]
              exact Ok.mk ⟨fun k hk => (r3 k hk).trans pTT_row.symm, fun _ _ _ _ => rfl⟩
          · have hne : ¬ nI q = nI row := fun h => e ((nI_eq (by omega) (by omega)).mp h)
            have eqc : w' (14 * q + col) = T q col := (r2 q (Nat.le_refl _) hq e col (Or.inl (by omega))).trans (if_pos (by omega))
            refine Ok.for (fun p (st : (Nat → UInt64) × Int32) => st.2 = nI p ∧ (∀ k, k < p → Us m n k → st.1 (14 * q + k) = pTT m n T R row col q k) ∧ (∀ k, p ≤ k → Us m n k → st.1 (14 * q + k) = TT m n T R q k) ∧ ∀ i, ¬ i = q → ∀ k, k < 14 → st.1 (14 * i + k) = w' (14 * i + k)) 14 (by omega) ⟨rfl, fun i hi => absurd hi (Nat.not_lt_zero _), fun k _ hk => r2 q (Nat.le_refl _) hq e k hk, fun _ _ _ _ => rfl⟩ ?_ ?_
            · rintro k ⟨w2, z⟩ hk ⟨hz, s1, s2, s3⟩
              have hz : z = nI k := hz
              subst hz
              by_cases hu : Us m n k
              · have eu := (e_isUsed vl vw ve vt va vs vo v2 vnm vnn vnu vb hm hn hk).1 hu
                have e1 : w2 (14 * q + k) = TT m n T R q k := s2 k (Nat.le_refl _) hu
                have e2 : w2 (14 * row + k) = FP.ddiv (TT m n T R row k) (T row col) := (s3 row (fun h => e h.symm) k hk).trans (r3 k hu)
                obtain ⟨i1, i2⟩ := q2 q hq k hu
                have e3 : FP.dsub (TT m n T R q k) (FP.dmul (T q col) (FP.ddiv (TT m n T R row k) (T row col))) = pTT m n T R row col q k := (pTT_ne e).symm
                simp (disch := omega) only [↓ite_le_t, ↓ite_le_f, ↓ite_lt_t, ↓ite_lt_f, li5, li8, nI_leI, nI_ltI, nI_eqI, if_pos, if_neg, ↓reduceIte, inb_nI, gd_t, nI_clamp, Option.bind_some, nI_1, isb_0, isb_1, lit13, lit14, lit40, nI_mul, nI_add, s_M_pivot_B92, s_M_pivot_J156, hne, eqc, eu, i32_10, e1, e2, i1, e3, i2]
                refine Ok.mk ⟨rfl, fun k' hk' hu' => ?_, fun k' h1 h2 => (upd_ne (by omega)).trans (s2 k' (by omega) h2), fun i hi k' hk' => (upd_ne (by omega)).trans (s3 i hi k' hk')⟩
                by_cases e : k' = k
                · subst e; exact upd_at _ _ _
                · exact (upd_ne (by omega)).trans (s1 k' (by omega) hu')
              · have eu := (e_isUsed vl vw ve vt va vs vo v2 vnm vnn vnu vb hm hn hk).2 hu
                simp (disch := omega) only [↓ite_le_t, ↓ite_le_f, ↓ite_lt_t, ↓ite_lt_f, li5, li8, nI_leI, nI_ltI, nI_eqI, if_pos, if_neg, ↓reduceIte, inb_nI, gd_t, nI_clamp, Option.bind_some, nI_1, isb_0, isb_1, lit13, lit14, lit40, nI_mul, nI_add, s_M_pivot_B92, s_M_pivot_J156, hne, eu]
                refine Ok.mk ⟨rfl, fun k' hk' hu' => ?_, fun k' h1 h2 => s2 k' (by omega) h2, s3⟩
                by_cases e : k' = k
                · subst e; exact absurd hu' hu
                · exact s1 k' (by omega) hu'
            · rintro ⟨w2, z⟩ ⟨hz, s1, -, s3⟩
              have hz : z = nI 14 := hz
              subst hz
              simp (disch := omega) only [s_M_pivot_B92, lit14, ↓ite_le_t]
              exact Ok.mk ⟨fun k hk => s1 k (us14 hk) hk, s3⟩
        · rintro w2 ⟨s1, s3⟩
          simp only [s_M_pivot_J162]
          refine Ok.mk ⟨nI_1 q, fun i hi him k hk => ?_, fun i h1 h2 h3 k hk => (s3 i (by omega) k (us14 hk)).trans (r2 i (by omega) h2 h3 k hk), fun k hk => ?_⟩
          · by_cases e : i = q
            · subst e; exact s1 k hk
            · exact (s3 i e k (us14 hk)).trans (r1 i (by omega) him k hk)
          · by_cases e : q = row
            · subst e
              exact (s1 k hk).trans pTT_row
            · exact (s3 row (fun h => e h.symm) k (us14 hk)).trans (r3 k hk)
      · rintro ⟨w', z⟩ ⟨hz, r1, -⟩
        have hz : z = nI m := hz
        subst hz
        simp (disch := omega) only [↓ite_le_t, ↓ite_le_f, ↓ite_lt_t, ↓ite_lt_f, s_M_pivot_B66]
        exact Ok.mk fun i hi => r1 i hi hi
    · intro w2 hv
      simp (disch := omega) only [↓ite_le_t, ↓ite_le_f, ↓ite_lt_t, ↓ite_lt_f, li5, li8, nI_leI, nI_ltI, nI_eqI, if_pos, if_neg, ↓reduceIte, inb_nI, gd_t, nI_clamp, Option.bind_some, nI_1, isb_0, isb_1, lit13, lit14, lit40, nI_mul, nI_add]
      refine Ok.mk fun i hi => ⟨hv i hi, ?_⟩
      show upd ba row (nI col) i = nI (pB B row col i)
      unfold pB
      by_cases e : i = row
      · subst e
        rw [iupd_at, if_pos rfl]
      · rw [iupd_ne e, if_neg e]
        exact (hC i hi).2
theorem e_isWild {m n : Nat} {T : (Nat → Nat → UInt64)} {R : (Nat → UInt64)} {t : (Nat → UInt64)} (vl vw ve vt va vs vo v2 vnm vnn : Int32) (vnu : UInt64) (vb : Int32) (hm : m ≤ 5) (hn : n ≤ 8) (hC : ∀ i, i < m → ∀ k, Us m n k → t (14 * i + k) = TT m n T R i k) (hb : ∀ i, i < m → (∀ k, k < n + m → nnan (T i k)) ∧ nnan (R i)) : Ok (s_M_isWild (nI m) (nI n) vl vw ve vt va vs vo v2 vnm vnn vnu vb t) (fun r => (r = 1 ∧ wild m n T R) ∨ (r = 0 ∧ ¬ wild m n T R)) := by
  have nt : ∀ i, i < m → ∀ k, nnan (TT m n T R i k) := fun i hi k => by
    unfold TT
    split
    · next h => exact (hb i hi).1 k h
    · exact (hb i hi).2
  have us14 : ∀ {k}, Us m n k → k < 14 := fun {k} h => by
    rcases h with q | q <;> omega
  have w1 : ∀ i, i < m → ∀ k, Us m n k → zv c12 < zv (dabs (TT m n T R i k)) → wild m n T R := fun i hi k hk h => by
    unfold TT at h
    by_cases e : k < n + m
    · rw [if_pos e] at h
      exact ⟨i, hi, Or.inl ⟨k, e, h⟩⟩
    · rw [if_neg e] at h
      exact ⟨i, hi, Or.inr h⟩
  have w2 : (∀ i, i < m → ∀ k, Us m n k → ¬ zv c12 < zv (dabs (TT m n T R i k))) → ¬ wild m n T R := by
    rintro h ⟨i, hi, ⟨k, hk, q⟩ | q⟩
    · have := h i hi k (Or.inl hk)
      unfold TT at this
      rw [if_pos hk] at this
      exact this q
    · have := h i hi 13 (Or.inr rfl)
      unfold TT at this
      rw [if_neg (by omega)] at this
      exact this q
  unfold s_M_isWild s_M_isWild_L2
  refine Ok.bind (P := fun v => Sum.elim (fun _ => ∀ i, i < m → ∀ k, Us m n k → ¬ zv c12 < zv (dabs (TT m n T R i k))) (fun r => r = 1 ∧ wild m n T R) v) ?_ ?_
  · refine Ok.for (fun q st => st = nI q ∧ ∀ i, i < q → ∀ k, Us m n k → ¬ zv c12 < zv (dabs (TT m n T R i k))) m (by omega) ⟨rfl, fun i hi => absurd hi (Nat.not_lt_zero _)⟩ ?_ ?_
    · rintro i st hi ⟨rfl, g1⟩
      simp (disch := omega) only [↓ite_le_t, ↓ite_le_f, ↓ite_lt_t, ↓ite_lt_f, li5, li8, nI_leI, nI_ltI, nI_eqI, if_pos, if_neg, ↓reduceIte, inb_nI, gd_t, nI_clamp, Option.bind_some, nI_1, isb_0, isb_1, lit13, lit14, lit40, nI_mul, nI_add, s_M_isWild_B2]
      unfold s_M_isWild_L12
      refine Ok.bind (P := fun v => Sum.elim (fun _ => ∀ k, Us m n k → ¬ zv c12 < zv (dabs (TT m n T R i k))) (fun r => r = 1 ∧ wild m n T R) v) ?_ ?_
      · refine Ok.for (fun q st => st = nI q ∧ ∀ k, k < q → Us m n k → ¬ zv c12 < zv (dabs (TT m n T R i k))) 14 (by omega) ⟨rfl, fun i hi => absurd hi (Nat.not_lt_zero _)⟩ ?_ ?_
        · rintro k st hk ⟨rfl, g2⟩
          have go : (Us m n k → ¬ zv c12 < zv (dabs (TT m n T R i k))) → ∀ k', k' < k + 1 → Us m n k' → ¬ zv c12 < zv (dabs (TT m n T R i k')) := by
            intro hh k' hk' hu'
            by_cases e : k' = k
            · subst e; exact hh hu'
            · exact g2 k' (by omega) hu'
          by_cases hu : Us m n k
          · have eu := (e_isUsed vl vw ve vt va vs vo v2 vnm vnn vnu vb hm hn hk).1 hu
            have e0 := hC i hi k hu
            have nk := nt i hi k
            have e1 := cv_le (op := .l) (nn_abs nk) nn_c12
            simp (disch := omega) only [↓ite_le_t, ↓ite_le_f, ↓ite_lt_t, ↓ite_lt_f, li5, li8, nI_leI, nI_ltI, nI_eqI, if_pos, if_neg, ↓reduceIte, inb_nI, gd_t, nI_clamp, Option.bind_some, nI_1, isb_0, isb_1, lit13, lit14, lit40, nI_mul, nI_add, s_M_isWild_B12, s_M_isWild_J49, eu, i32_10, e0, e_mabs nk]
            by_cases c1 : zv (dabs (TT m n T R i k)) ≤ zv c12
            · rw [if_pos (e1.mpr c1)]
              exact Ok.mk ⟨rfl, go fun _ => Int.not_lt.mpr c1⟩
            · rw [if_neg (fun q => c1 (e1.mp q))]
              exact Ok.mk ⟨rfl, w1 i hi k hu (Int.not_le.mp c1)⟩
          · have eu := (e_isUsed vl vw ve vt va vs vo v2 vnm vnn vnu vb hm hn hk).2 hu
            simp (disch := omega) only [↓ite_le_t, ↓ite_le_f, ↓ite_lt_t, ↓ite_lt_f, li5, li8, nI_leI, nI_ltI, nI_eqI, if_pos, if_neg, ↓reduceIte, inb_nI, gd_t, nI_clamp, Option.bind_some, nI_1, isb_0, isb_1, lit13, lit14, lit40, nI_mul, nI_add, s_M_isWild_B12, s_M_isWild_J49, eu]
            exact Ok.mk ⟨rfl, go fun q => absurd q hu⟩
        · rintro st ⟨rfl, g2⟩
          simp (disch := omega) only [s_M_isWild_B12, lit14, ↓ite_le_t]
          exact Ok.mk fun k hk => g2 k (us14 hk) hk
      · rintro (v | v) hv
        · refine Ok.mk ⟨nI_1 i, fun i' hi' => ?_⟩
          by_cases e : i' = i
          · subst e; exact hv
          · exact g1 i' (by omega)
        · exact Ok.mk hv
    · rintro st ⟨rfl, g1⟩
      simp (disch := omega) only [↓ite_le_t, ↓ite_le_f, ↓ite_lt_t, ↓ite_lt_f, s_M_isWild_B2]
      exact Ok.mk g1
  · rintro (v | v) hv
    · exact Ok.mk (Or.inr ⟨rfl, w2 hv⟩)
    · exact Ok.mk (Or.inl hv)
theorem e_mclear {x s y : (Nat → UInt64)} {m n : Nat} (vl vw ve vt va vs vo v2 vnm vnn : Int32) (vnu : UInt64) (vb : Int32) : s_M_clear (nI m) (nI n) vl vw ve vt va vs vo v2 vnm vnn vnu vb x s y = some (wr 8 (fun _ => FP.dconst0) x, wr 8 (fun _ => FP.dconst0) s, wr 5 (fun _ => FP.dconst0) y) := by
  unfold s_M_clear s_M_clear_L2
  refine loop_b 8 (fun k => (wr k (fun _ => FP.dconst0) x, wr k (fun _ => FP.dconst0) s, nI k)) (wr 8 (fun _ => FP.dconst0) x, wr 8 (fun _ => FP.dconst0) s) (by rw [wr_0, wr_0]; rfl) (by omega) (fun k hk => ?_) ?_ ?_
  · simp (disch := omega) only [↓ite_le_t, ↓ite_le_f, ↓ite_lt_t, ↓ite_lt_f, li5, li8, nI_leI, nI_ltI, nI_eqI, if_pos, if_neg, ↓reduceIte, inb_nI, gd_t, nI_clamp, Option.bind_some, nI_1, isb_0, isb_1, lit13, lit14, lit40, nI_mul, nI_add, s_M_clear_B2, wr_s (F := fun _ => FP.dconst0)]
  · simp (disch := omega) only [↓ite_le_t, ↓ite_le_f, ↓ite_lt_t, ↓ite_lt_f, li5, li8, nI_leI, nI_ltI, nI_eqI, if_pos, if_neg, ↓reduceIte, inb_nI, gd_t, nI_clamp, Option.bind_some, nI_1, isb_0, isb_1, lit13, lit14, lit40, nI_mul, nI_add, s_M_clear_B2]
  · unfold s_M_clear_L30
    refine loop_b 5 (fun k => (wr k (fun _ => FP.dconst0) y, nI k)) (wr 5 (fun _ => FP.dconst0) y) (by rw [wr_0]; rfl) (by omega) (fun k hk => ?_) ?_ rfl
    · simp (disch := omega) only [↓ite_le_t, ↓ite_le_f, ↓ite_lt_t, ↓ite_lt_f, li5, li8, nI_leI, nI_ltI, nI_eqI, if_pos, if_neg, ↓reduceIte, inb_nI, gd_t, nI_clamp, Option.bind_some, nI_1, isb_0, isb_1, lit13, lit14, lit40, nI_mul, nI_add, s_M_clear_B30, wr_s (F := fun _ => FP.dconst0)]
    · simp (disch := omega) only [↓ite_le_t, ↓ite_le_f, ↓ite_lt_t, ↓ite_lt_f, li5, li8, nI_leI, nI_ltI, nI_eqI, if_pos, if_neg, ↓reduceIte, inb_nI, gd_t, nI_clamp, Option.bind_some, nI_1, isb_0, isb_1, lit13, lit14, lit40, nI_mul, nI_add, s_M_clear_B30]
