/-! the simplex method as a whole: the class -/
def dm1 : UInt64 := 13830554455654793216
def sgn1 (b : (Nat → UInt64)) (i : Nat) : UInt64 := if zv (b i) < 0 then dm1 else FP.dconst1
theorem sgn1_bc (b : (Nat → UInt64)) (i : Nat) : Bc 1 1074 (sgn1 b i) := by
  unfold sgn1
  split
  · exact ⟨fin_of (by decide +kernel), by decide +kernel⟩
  · exact b_1
def T0 (n : Nat) (A : (Nat → Nat → UInt64)) (b : (Nat → UInt64)) (i k : Nat) : UInt64 := if k < n then FP.dmul (A i k) (sgn1 b i) else if k = n + i then FP.dconst1 else FP.dconst0
def R0 (b : (Nat → UInt64)) (i : Nat) : UInt64 := FP.dmul (b i) (sgn1 b i)
def B0 (n i : Nat) : Nat := n + i
def cst1 (n k : Nat) : UInt64 := if k < n then FP.dconst0 else FP.dconst1
def cst2 (c : (Nat → UInt64)) (n k : Nat) : UInt64 := if k < n then c k else FP.dconst0
theorem tb0 {m n : Nat} {A : (Nat → Nat → UInt64)} {b c : (Nat → UInt64)} (h : SPb m n A b c) : TB m n (T0 n A b) (R0 b) (B0 n) := by
  obtain ⟨-, -, -, -, hA, hb, -⟩ := h
  refine fun i hi => ⟨fun k hk => ?_, (mul_bc (M := 1105) (hb i hi) (sgn1_bc b i) (by decide) (by decide)).k (by decide), by unfold B0; omega⟩
  unfold T0
  split
  · next h => exact (mul_bc (M := 1084) (hA i hi k h) (sgn1_bc b i) (by decide) (by decide)).k (by decide)
  · split
    · exact b_1.k (by decide)
    · exact bc_0 _ _
theorem cb1 (m n : Nat) : CB m n (cst1 n) := by
  intro k hk
  unfold cst1
  split
  · exact bc_0 _ _
  · exact b_1.k (by decide)
theorem cb2 {m n : Nat} {A : (Nat → Nat → UInt64)} {b c : (Nat → UInt64)} (h : SPb m n A b c) : CB m n (cst2 c n) := by
  intro k hk
  unfold cst2
  split
  · next q => exact h.2.2.2.2.2.2 k q
  · exact bc_0 _ _
def cob (m : Nat) (R cost : (Nat → UInt64)) (B : Nat → Nat) : UInt64 := sumR (fun i => FP.dmul (cost (B i)) (R i)) m FP.dconst0
theorem cob_bc {m n : Nat} {T : (Nat → Nat → UInt64)} {R cost : (Nat → UInt64)} {B : Nat → Nat} (hm : m ≤ 5) (hT : TB m n T R B) (hc : CB m n cost) : okA (fun i => FP.dmul (cost (B i)) (R i)) m FP.dconst0 ∧ Bc 1 1159 (cob m R cost B) :=
  okA_bc (K := 1155) (by omega) (by decide) (fun i hi => mul_bc (hc _ (hT i hi).2.2) (hT i hi).2.1 (by decide) (by decide)) (bc_0 _ _)
def prY (m n : Nat) (T : (Nat → Nat → UInt64)) (cost : (Nat → UInt64)) (B : Nat → Nat) (i : Nat) : UInt64 := sumR (fun k => FP.dmul (cost (B k)) (T k (n + i))) m FP.dconst0
theorem prY_bc {m n i : Nat} {T : (Nat → Nat → UInt64)} {R cost : (Nat → UInt64)} {B : Nat → Nat} (hm : m ≤ 5) (hT : TB m n T R B) (hc : CB m n cost) (hi : i < m) : okA (fun k => FP.dmul (cost (B k)) (T k (n + i))) m FP.dconst0 ∧ Bc 1 1159 (prY m n T cost B i) :=
  okA_bc (K := 1155) (by omega) (by decide) (fun k hk => mul_bc (hc _ (hT k hk).2.2) ((hT k hk).1 _ (by omega)) (by decide) (by decide)) (bc_0 _ _)
def yS (m n : Nat) (T : (Nat → Nat → UInt64)) (cost b : (Nat → UInt64)) (B : Nat → Nat) (i : Nat) : UInt64 := FP.dmul (prY m n T cost B i) (sgn1 b i)
theorem yS_bc {m n i : Nat} {T : (Nat → Nat → UInt64)} {R cost b : (Nat → UInt64)} {B : Nat → Nat} (hm : m ≤ 5) (hT : TB m n T R B) (hc : CB m n cost) (hi : i < m) : Bc 1 1159 (yS m n T cost b B i) := mul_bc (prY_bc hm hT hc hi).2 (sgn1_bc b i) (by decide) (by decide)
def solB (R : (Nat → UInt64)) (B : Nat → Nat) (n i : Nat) (x : (Nat → UInt64)) : (Nat → UInt64) := if B i < n then vf_upd x (B i) (R i) else x
def solX (R : (Nat → UInt64)) (B : Nat → Nat) (m n : Nat) (x : (Nat → UInt64)) : (Nat → UInt64) := fd (solB R B n) m x
theorem fd_agree {N : Nat} {f : Nat → (Nat → UInt64) → (Nat → UInt64)} {m : Nat} (hf : ∀ i, i < m → ∀ x x', (∀ j, j < N → x j = x' j) → ∀ j, j < N → f i x j = f i x' j) {x x' : (Nat → UInt64)} (h : ∀ j, j < N → x j = x' j) : ∀ j, j < N → fd f m x j = fd f m x' j := by
  induction m with
  | zero => exact h
  | succ m ih => exact hf m (by omega) _ _ (ih fun i hi => hf i (by omega))
theorem upd_agree {N k : Nat} {v : UInt64} {x x' : (Nat → UInt64)} (h : ∀ j, j < N → x j = x' j) : ∀ j, j < N → vf_upd x k v j = vf_upd x' k v j := by
  intro j hj
  unfold vf_upd
  split
  · rfl
  · exact h j hj
theorem ray_agree {T : (Nat → Nat → UInt64)} {B : Nat → Nat} {m n col : Nat} {x x' : (Nat → UInt64)} (h : ∀ j, j < 8 → x j = x' j) : ∀ j, j < 8 → rayX T B m n col x j = rayX T B m n col x' j := by
  refine fd_agree (fun i hi x x' h => ?_) (upd_agree h)
  unfold rayB
  split
  · exact upd_agree h
  · exact h
theorem sol_agree {R : (Nat → UInt64)} {B : Nat → Nat} {m n : Nat} {x x' : (Nat → UInt64)} (h : ∀ j, j < 8 → x j = x' j) : ∀ j, j < 8 → solX R B m n x j = solX R B m n x' j := by
  refine fd_agree (fun i hi x x' h => ?_) h
  unfold solB
  split
  · exact upd_agree h
  · exact h
/-- what the simplex method ends with -/
def z0 : (Nat → UInt64) := fun _ => FP.dconst0
def Sx (m n : Nat) (A : (Nat → Nat → UInt64)) (b c : (Nat → UInt64)) (how : Int32) (ef : Nat) (x s y : (Nat → UInt64)) : Prop :=
  ∃ k1 h1, PhTo m n (cst1 n) 0 (T0 n A b) (R0 b) (B0 n) 0 k1 h1 ∧
    ((¬ h1 = 6 ∧ how = h1 ∧ ef = eff 0 k1 h1 ∧ (¬ h1 = 2 → x = z0) ∧ (h1 = 2 → x = rayX (kT m n (cst1 n) 0 (T0 n A b) (R0 b) (B0 n) k1) (kB m n (cst1 n) 0 (T0 n A b) (R0 b) (B0 n) k1) m n (kCol m n (cst1 n) 0 (T0 n A b) (R0 b) (B0 n) k1).toNatClampNeg z0) ∧ s = z0 ∧ y = z0) ∨
     (h1 = 6 ∧ zv c7 < zv (cob m (kR m n (cst1 n) 0 (T0 n A b) (R0 b) (B0 n) k1) (cst1 n) (kB m n (cst1 n) 0 (T0 n A b) (R0 b) (B0 n) k1)) ∧ how = 1 ∧ ef = k1 ∧ x = z0 ∧ s = z0 ∧ y = wr m (yS m n (kT m n (cst1 n) 0 (T0 n A b) (R0 b) (B0 n) k1) (cst1 n) b (kB m n (cst1 n) 0 (T0 n A b) (R0 b) (B0 n) k1)) z0) ∨
     (h1 = 6 ∧ ¬ zv c7 < zv (cob m (kR m n (cst1 n) 0 (T0 n A b) (R0 b) (B0 n) k1) (cst1 n) (kB m n (cst1 n) 0 (T0 n A b) (R0 b) (B0 n) k1)) ∧
      ∃ T1 R1 B1, T1 = kT m n (cst1 n) 0 (T0 n A b) (R0 b) (B0 n) k1 ∧ R1 = kR m n (cst1 n) 0 (T0 n A b) (R0 b) (B0 n) k1 ∧ B1 = kB m n (cst1 n) 0 (T0 n A b) (R0 b) (B0 n) k1 ∧ ∃ k2 h2, PhTo m n (cst2 c n) 1 T1 R1 B1 k1 k2 h2 ∧
        ((¬ h2 = 6 ∧ how = h2 ∧ ef = eff k1 k2 h2 ∧ (¬ h2 = 2 → x = z0) ∧ (h2 = 2 → x = rayX (kT m n (cst2 c n) 1 T1 R1 B1 k2) (kB m n (cst2 c n) 1 T1 R1 B1 k2) m n (kCol m n (cst2 c n) 1 T1 R1 B1 k2).toNatClampNeg z0) ∧ s = z0 ∧ y = z0) ∨
         (h2 = 6 ∧ how = 0 ∧ ef = k1 + k2 ∧ x = solX (kR m n (cst2 c n) 1 T1 R1 B1 k2) (kB m n (cst2 c n) 1 T1 R1 B1 k2) m n z0 ∧ y = wr m (yS m n (kT m n (cst2 c n) 1 T1 R1 B1 k2) (cst2 c n) b (kB m n (cst2 c n) 1 T1 R1 B1 k2)) z0 ∧ s = wr n (fun j => subR (fun i => FP.dmul (A i j) (yS m n (kT m n (cst2 c n) 1 T1 R1 B1 k2) (cst2 c n) b (kB m n (cst2 c n) 1 T1 R1 B1 k2) i)) m (c j)) z0))))
theorem Sx.uniq {m n : Nat} {A : (Nat → Nat → UInt64)} {b c : (Nat → UInt64)} {how how' : Int32} {ef ef' : Nat} {x s y x' s' y' : (Nat → UInt64)} (h : Sx m n A b c how ef x s y) (h' : Sx m n A b c how' ef' x' s' y') : how = how' ∧ ef = ef' ∧ x = x' ∧ s = s' ∧ y = y' := by
  obtain ⟨k1, h1, p1, h⟩ := h
  obtain ⟨k1', h1', p1', h'⟩ := h'
  obtain ⟨rfl, rfl⟩ := p1.uniq p1'
  rcases h with ⟨a1, a2, a3, a4, a5, a6, a7⟩ | ⟨a1, a2, a3, a4, a5, a6, a7⟩ | ⟨a1, a2, T1, R1, B1, t1, t2, t3, k2, h2, p2, a3⟩
  · rcases h' with ⟨b1, b2, b3, b4, b5, b6, b7⟩ | ⟨b1, -⟩ | ⟨b1, -⟩
    · refine ⟨a2.trans b2.symm, a3.trans b3.symm, ?_, a6.trans b6.symm, a7.trans b7.symm⟩
      by_cases e : h1 = 2
      · exact (a5 e).trans (b5 e).symm
      · exact (a4 e).trans (b4 e).symm
    · exact absurd b1 a1
    · exact absurd b1 a1
  · rcases h' with ⟨b1, -⟩ | ⟨b1, b2, b3, b4, b5, b6, b7⟩ | ⟨b1, b2, -⟩
    · exact absurd a1 b1
    · exact ⟨a3.trans b3.symm, a4.trans b4.symm, a5.trans b5.symm, a6.trans b6.symm, a7.trans b7.symm⟩
    · exact absurd a2 b2
  · rcases h' with ⟨b1, -⟩ | ⟨b1, b2, -⟩ | ⟨b1, b2, T1', R1', B1', t1', t2', t3', k2', h2', p2', b3⟩
    · exact absurd a1 b1
    · exact absurd b2 a2
    · have e1 := t1'.trans t1.symm
      have e2 := t2'.trans t2.symm
      have e3 := t3'.trans t3.symm
      subst e1 e2 e3
      obtain ⟨rfl, rfl⟩ := p2.uniq p2'
      rcases a3 with ⟨c1, c2, c3, c4, c5, c6, c7⟩ | ⟨c1, c2, c3, c4, c5, c6⟩
      · rcases b3 with ⟨d1, d2, d3, d4, d5, d6, d7⟩ | ⟨d1, -⟩
        · refine ⟨c2.trans d2.symm, c3.trans d3.symm, ?_, c6.trans d6.symm, c7.trans d7.symm⟩
          by_cases e : h2 = 2
          · exact (c5 e).trans (d5 e).symm
          · exact (c4 e).trans (d4 e).symm
        · exact absurd d1 c1
      · rcases b3 with ⟨d1, -⟩ | ⟨d1, d2, d3, d4, d5, d6⟩
        · exact absurd c1 d1
        · exact ⟨c2.trans d2.symm, c3.trans d3.symm, c4.trans d4.symm, c6.trans d6.symm, c5.trans d5.symm⟩
theorem e_signOf {m n i : Nat} {b : (Nat → UInt64)} (w1 w2 w3 w4 r v : Int32) (hi : i < 5) (hb : nnan (b i)) : s_Sm_signOf w1 w2 w3 w4 r v b (nI i) = some (sgn1 b i) := by
  unfold s_Sm_signOf sgn1
  simp (disch := omega) only [↓ite_le_t, ↓ite_le_f, ↓ite_lt_t, ↓ite_lt_f, li5, li8, nI_leI, nI_ltI, nI_eqI, if_pos, if_neg, ↓reduceIte, inb_nI, gd_t, nI_clamp, Option.bind_some, nI_1, isb_0, isb_1, lit13, lit14, lit40, nI_mul, nI_add, cv_ge hb nn_0, zv_0]
  by_cases h : zv (b i) < 0
  · rw [if_neg (Int.not_le.mpr h), if_pos h]
    rfl
  · rw [if_pos (Int.not_lt.mp h), if_neg h]
theorem e_fillTable {m n : Nat} {A : (Nat → Nat → UInt64)} {b c : (Nat → UInt64)} {tb : (Nat → Nat → UInt64)} {ri : (Nat → UInt64)} {ba : Nat → Int32} (w1 w2 w3 w4 : Int32) (hP : SPb m n A b c) : Ok (s_Sm_fillTable w1 w2 w3 w4 (nI m) (nI n) A b tb ri ba) (fun r => r.1 = nI m ∧ r.2.1 = nI n ∧ r.2.2.1 = nI (n + m) ∧ CT m n (T0 n A b) (R0 b) (B0 n) r.2.2.2.1 r.2.2.2.2.1 r.2.2.2.2.2) := by
  obtain ⟨m1', m5, n1', n8, hA, hb, hc⟩ := hP
  unfold s_Sm_fillTable s_Sm_fillTable_L37
  simp (disch := omega) only [↓ite_le_t, ↓ite_le_f, ↓ite_lt_t, ↓ite_lt_f, li5, li8, nI_leI, nI_ltI, nI_eqI, if_pos, if_neg, ↓reduceIte, inb_nI, gd_t, nI_clamp, Option.bind_some, nI_1, isb_0, isb_1, lit13, lit14, lit40, nI_mul, nI_add]
  refine Ok.bind (P := fun v => CT m n (T0 n A b) (R0 b) (B0 n) v.1 v.2.1 v.2.2) ?_ (fun v hv => Ok.mk ⟨rfl, rfl, rfl, hv⟩)
  refine Ok.for (fun t (st : (Nat → Nat → UInt64) × (Nat → UInt64) × (Nat → Int32) × Int32) => st.2.2.2 = nI t ∧ ∀ i, i < t → (∀ k, k < n + m → st.1 i k = T0 n A b i k) ∧ st.2.1 i = R0 b i ∧ st.2.2.1 i = nI (B0 n i)) m (by omega) ⟨rfl, fun i hi => absurd hi (Nat.not_lt_zero _)⟩ ?_ ?_
  · rintro i ⟨tb, ri, ba, z⟩ hi ⟨hz, g1⟩
    have hz : z = nI i := hz
    subst hz
    simp (disch := omega) only [↓ite_le_t, ↓ite_le_f, ↓ite_lt_t, ↓ite_lt_f, li5, li8, nI_leI, nI_ltI, nI_eqI, if_pos, if_neg, ↓reduceIte, inb_nI, gd_t, nI_clamp, Option.bind_some, nI_1, isb_0, isb_1, lit13, lit14, lit40, nI_mul, nI_add, s_Sm_fillTable_B37, e_signOf (m := m) (n := n) _ _ _ _ _ _ (show i < 5 by omega) (hb i hi).nn]
    unfold s_Sm_fillTable_L54
    refine Ok.bind (P := fun v => (∀ k, k < n → v i k = T0 n A b i k) ∧ ∀ i', ¬ i' = i → v i' = tb i') ?_ ?_
    · refine Ok.for (fun t st => st.2 = nI t ∧ (∀ k, k < t → st.1 i k = T0 n A b i k) ∧ ∀ i', ¬ i' = i → st.1 i' = tb i') n (by omega) ⟨rfl, fun i hi => absurd hi (Nat.not_lt_zero _), fun _ _ => rfl⟩ ?_ ?_
      · rintro k ⟨w, z⟩ hk ⟨hz, u1, u2⟩
        have hz : z = nI k := hz
        subst hz
        have e1 : FP.dmul (A i k) (sgn1 b i) = T0 n A b i k := by unfold T0; rw [if_pos hk]
        have b1 := (mul_bc (M := 1084) (hA i hi k hk) (sgn1_bc b i) (by decide) (by decide)).isn
        rw [e1] at b1
        simp (disch := omega) only [↓ite_le_t, ↓ite_le_f, ↓ite_lt_t, ↓ite_lt_f, li5, li8, nI_leI, nI_ltI, nI_eqI, if_pos, if_neg, ↓reduceIte, inb_nI, gd_t, nI_clamp, Option.bind_some, nI_1, isb_0, isb_1, lit13, lit14, lit40, nI_mul, nI_add, s_Sm_fillTable_B54, e1, b1]
        refine Ok.mk ⟨rfl, fun k' hk' => (congrFun (gset_at _ _ _) k').trans ?_, fun i' hi' => (gset_ne hi').trans (u2 i' hi')⟩
        by_cases e : k' = k
        · subst e; exact upd_at _ _ _
        · exact (upd_ne e).trans (u1 k' (by omega))
      · rintro ⟨w, z⟩ ⟨hz, u1, u2⟩
        have hz : z = nI n := hz
        subst hz
        simp (disch := omega) only [↓ite_le_t, ↓ite_le_f, ↓ite_lt_t, ↓ite_lt_f, s_Sm_fillTable_B54]
        exact Ok.mk ⟨u1, u2⟩
    · rintro w ⟨u1, u2⟩
      unfold s_Sm_fillTable_L95
      refine Ok.bind (P := fun v => (∀ k, k < n + m → v i k = T0 n A b i k) ∧ ∀ i', ¬ i' = i → v i' = tb i') ?_ ?_
      · refine Ok.for (fun t st => st.2 = nI t ∧ (∀ k, k < n + t → st.1 i k = T0 n A b i k) ∧ ∀ i', ¬ i' = i → st.1 i' = tb i') m (by omega) ⟨rfl, fun k hk => u1 k (by omega), u2⟩ ?_ ?_
        · rintro k ⟨w, z⟩ hk ⟨hz, u1, u2⟩
          have hz : z = nI k := hz
          subst hz
          by_cases e : k = i
          · subst e
            simp (disch := omega) only [↓ite_le_t, ↓ite_le_f, ↓ite_lt_t, ↓ite_lt_f, li5, li8, nI_leI, nI_ltI, nI_eqI, if_pos, if_neg, ↓reduceIte, inb_nI, gd_t, nI_clamp, Option.bind_some, nI_1, isb_0, isb_1, lit13, lit14, lit40, nI_mul, nI_add, s_Sm_fillTable_B95]
            refine Ok.mk ⟨rfl, fun k' hk' => (congrFun (gset_at _ _ _) k').trans ?_, fun i' hi' => (gset_ne hi').trans (u2 i' hi')⟩
            by_cases e : k' = n + k
            · subst e
              refine (upd_at _ _ _).trans ?_
              unfold T0
              rw [if_neg (by omega), if_pos rfl]
            · exact (upd_ne e).trans (u1 k' (by omega))
          · have hne : ¬ nI k = nI i := fun h => e ((nI_eq (by omega) (by omega)).mp h)
            simp (disch := omega) only [↓ite_le_t, ↓ite_le_f, ↓ite_lt_t, ↓ite_lt_f, li5, li8, nI_leI, nI_ltI, nI_eqI, if_pos, if_neg, ↓reduceIte, inb_nI, gd_t, nI_clamp, Option.bind_some, nI_1, isb_0, isb_1, lit13, lit14, lit40, nI_mul, nI_add, s_Sm_fillTable_B95, hne]
            refine Ok.mk ⟨rfl, fun k' hk' => (congrFun (gset_at _ _ _) k').trans ?_, fun i' hi' => (gset_ne hi').trans (u2 i' hi')⟩
            by_cases e : k' = n + k
            · subst e
              refine (upd_at _ _ _).trans ?_
              unfold T0
              rw [if_neg (by omega), if_neg (by omega)]
            · exact (upd_ne e).trans (u1 k' (by omega))
        · rintro ⟨w, z⟩ ⟨hz, u1, u2⟩
          have hz : z = nI m := hz
          subst hz
          simp (disch := omega) only [↓ite_le_t, ↓ite_le_f, ↓ite_lt_t, ↓ite_lt_f, s_Sm_fillTable_B95]
          exact Ok.mk ⟨u1, u2⟩
      · rintro w ⟨u1, u2⟩
        have e1 : FP.dmul (b i) (sgn1 b i) = R0 b i := rfl
        have b1 := (mul_bc (M := 1105) (hb i hi) (sgn1_bc b i) (by decide) (by decide)).isn
        rw [e1] at b1
        simp (disch := omega) only [↓ite_le_t, ↓ite_le_f, ↓ite_lt_t, ↓ite_lt_f, li5, li8, nI_leI, nI_ltI, nI_eqI, if_pos, if_neg, ↓reduceIte, inb_nI, gd_t, nI_clamp, Option.bind_some, nI_1, isb_0, isb_1, lit13, lit14, lit40, nI_mul, nI_add, e1, b1]
        refine Ok.mk ⟨rfl, fun i' hi' => ?_⟩
        by_cases e : i' = i
        · subst e
          exact ⟨u1, upd_at _ _ _, iupd_at _ _ _⟩
        · obtain ⟨a1, a2, a3⟩ := g1 i' (by omega)
          exact ⟨fun k hk => (congrFun (u2 i' e) k).trans (a1 k hk), (upd_ne e).trans a2, (iupd_ne e).trans a3⟩
  · rintro ⟨tb, ri, ba, z⟩ ⟨hz, g1⟩
    have hz : z = nI m := hz
    subst hz
    simp (disch := omega) only [↓ite_le_t, ↓ite_le_f, ↓ite_lt_t, ↓ite_lt_f, s_Sm_fillTable_B37]
    exact Ok.mk g1
theorem e_setCosts1 {m n : Nat} {c co : (Nat → UInt64)} (sd r v : Int32) (hm : m ≤ 5) (hn : n ≤ 8) : Ok (s_Sm_setCosts (nI m) (nI n) (nI (n + m)) sd r v c co 0) (fun q => ∀ k, k < n + m → q k = cst1 n k) := by
  unfold s_Sm_setCosts s_Sm_setCosts_L2
  refine Ok.bind (P := fun q => ∀ k, k < n + m → q k = cst1 n k) ?_ (fun v hv => Ok.mk hv)
  refine Ok.for (fun t st => st.2 = nI t ∧ ∀ k, k < t → st.1 k = cst1 n k) (n + m) (by omega) ⟨rfl, fun i hi => absurd hi (Nat.not_lt_zero _)⟩ ?_ ?_
  · rintro k ⟨w, z⟩ hk ⟨hz, g1⟩
    have hz : z = nI k := hz
    subst hz
    have fin : ∀ v, v = cst1 n k → ∀ k', k' < k + 1 → vf_upd w k v k' = cst1 n k' := fun v hv k' hk' => by
      by_cases e : k' = k
      · subst e; exact (upd_at _ _ _).trans hv
      · exact (upd_ne e).trans (g1 k' (by omega))
    by_cases c1 : n ≤ k
    · simp (disch := omega) only [↓ite_le_t, ↓ite_le_f, ↓ite_lt_t, ↓ite_lt_f, li5, li8, nI_leI, nI_ltI, nI_eqI, if_pos, if_neg, ↓reduceIte, inb_nI, gd_t, nI_clamp, Option.bind_some, nI_1, isb_0, isb_1, lit13, lit14, lit40, nI_mul, nI_add, s_Sm_setCosts_B2, s_Sm_setCosts_J62, s_Sm_setCosts_J63]
      exact Ok.mk ⟨rfl, fin _ (by unfold cst1; rw [if_neg (by omega)])⟩
    · simp (disch := omega) only [↓ite_le_t, ↓ite_le_f, ↓ite_lt_t, ↓ite_lt_f, li5, li8, nI_leI, nI_ltI, nI_eqI, if_pos, if_neg, ↓reduceIte, inb_nI, gd_t, nI_clamp, Option.bind_some, nI_1, isb_0, isb_1, lit13, lit14, lit40, nI_mul, nI_add, s_Sm_setCosts_B2, s_Sm_setCosts_J62, s_Sm_setCosts_J63]
      exact Ok.mk ⟨rfl, fin _ (by unfold cst1; rw [if_pos (by omega)])⟩
  · rintro ⟨w, z⟩ ⟨hz, g1⟩
    have hz : z = nI (n + m) := hz
    subst hz
    simp (disch := omega) only [↓ite_le_t, ↓ite_le_f, ↓ite_lt_t, ↓ite_lt_f, s_Sm_setCosts_B2]
    exact Ok.mk g1
theorem e_setCosts2 {m n : Nat} {c co : (Nat → UInt64)} (sd r v : Int32) (hm : m ≤ 5) (hn : n ≤ 8) : Ok (s_Sm_setCosts (nI m) (nI n) (nI (n + m)) sd r v c co 1) (fun q => ∀ k, k < n + m → q k = cst2 c n k) := by
  unfold s_Sm_setCosts s_Sm_setCosts_L2
  refine Ok.bind (P := fun q => ∀ k, k < n + m → q k = cst2 c n k) ?_ (fun v hv => Ok.mk hv)
  refine Ok.for (fun t st => st.2 = nI t ∧ ∀ k, k < t → st.1 k = cst2 c n k) (n + m) (by omega) ⟨rfl, fun i hi => absurd hi (Nat.not_lt_zero _)⟩ ?_ ?_
  · rintro k ⟨w, z⟩ hk ⟨hz, g1⟩
    have hz : z = nI k := hz
    subst hz
    have fin : ∀ v, v = cst2 c n k → ∀ k', k' < k + 1 → vf_upd w k v k' = cst2 c n k' := fun v hv k' hk' => by
      by_cases e : k' = k
      · subst e; exact (upd_at _ _ _).trans hv
      · exact (upd_ne e).trans (g1 k' (by omega))
    by_cases c1 : n ≤ k
    · simp (disch := omega) only [↓ite_le_t, ↓ite_le_f, ↓ite_lt_t, ↓ite_lt_f, li5, li8, nI_leI, nI_ltI, nI_eqI, if_pos, if_neg, ↓reduceIte, inb_nI, gd_t, nI_clamp, Option.bind_some, nI_1, isb_0, isb_1, lit13, lit14, lit40, nI_mul, nI_add, s_Sm_setCosts_B2, s_Sm_setCosts_J40, s_Sm_setCosts_J63, i32_10]
      exact Ok.mk ⟨rfl, fin _ (by unfold cst2; rw [if_neg (by omega)])⟩
    · simp (disch := omega) only [↓ite_le_t, ↓ite_le_f, ↓ite_lt_t, ↓ite_lt_f, li5, li8, nI_leI, nI_ltI, nI_eqI, if_pos, if_neg, ↓reduceIte, inb_nI, gd_t, nI_clamp, Option.bind_some, nI_1, isb_0, isb_1, lit13, lit14, lit40, nI_mul, nI_add, s_Sm_setCosts_B2, s_Sm_setCosts_J40, s_Sm_setCosts_J63, i32_10]
      exact Ok.mk ⟨rfl, fin _ (by unfold cst2; rw [if_pos (by omega)])⟩
  · rintro ⟨w, z⟩ ⟨hz, g1⟩
    have hz : z = nI (n + m) := hz
    subst hz
    simp (disch := omega) only [↓ite_le_t, ↓ite_le_f, ↓ite_lt_t, ↓ite_lt_f, s_Sm_setCosts_B2]
    exact Ok.mk g1
theorem e_costOfBasis {m n : Nat} {T : (Nat → Nat → UInt64)} {R cost : (Nat → UInt64)} {B : Nat → Nat} {tb : (Nat → Nat → UInt64)} {ri co : (Nat → UInt64)} {ba : Nat → Int32} (vs cs sd : Int32) (hm : m ≤ 5) (hn : n ≤ 8) (hT : TB m n T R B) (hc : CB m n cost) (hC : CT m n T R B tb ri ba) (hco : ∀ k, k < n + m → co k = cost k) : s_Sm_costOfBasis (nI m) vs cs sd ri co ba = some (cob m R cost B) := by
  obtain ⟨o1, -⟩ := cob_bc hm hT hc
  unfold s_Sm_costOfBasis s_Sm_costOfBasis_L4
  refine loop_b m (fun k => (sumR (fun i => FP.dmul (cost (B i)) (R i)) k FP.dconst0, nI k)) (cob m R cost B) rfl (by omega) (fun i hi => ?_) ?_ rfl
  · obtain ⟨h1, h2, h3⟩ := hC i hi
    have hB := (hT i hi).2.2
    simp (disch := omega) only [↓ite_le_t, ↓ite_le_f, ↓ite_lt_t, ↓ite_lt_f, li5, li8, nI_leI, nI_ltI, nI_eqI, if_pos, if_neg, ↓reduceIte, inb_nI, gd_t, nI_clamp, Option.bind_some, nI_1, isb_0, isb_1, lit13, lit14, lit40, nI_mul, nI_add, s_Sm_costOfBasis_B4, h2, h3, hco _ hB, o1.1 i hi, ← sumR_s (fun i => FP.dmul (cost (B i)) (R i)), o1.2 i hi]
  · simp (disch := omega) only [↓ite_le_t, ↓ite_le_f, ↓ite_lt_t, ↓ite_lt_f, s_Sm_costOfBasis_B4]
    rfl
theorem e_tellPrices {m n : Nat} {T : (Nat → Nat → UInt64)} {R cost b : (Nat → UInt64)} {B : Nat → Nat} {tb : (Nat → Nat → UInt64)} {ri co y0 : (Nat → UInt64)} {ba : Nat → Int32} (cs sd r v : Int32) (hm : m ≤ 5) (hn : n ≤ 8) (hT : TB m n T R B) (hc : CB m n cost) (hC : CT m n T R B tb ri ba) (hco : ∀ k, k < n + m → co k = cost k) (hb : ∀ i, i < m → nnan (b i)) : s_Sm_tellPrices (nI m) (nI n) cs sd r v b y0 tb co ba = some (wr m (yS m n T cost b B) y0) := by
  unfold s_Sm_tellPrices s_Sm_tellPrices_L2
  refine loop_b m (fun k => (wr k (yS m n T cost b B) y0, nI k)) (wr m (yS m n T cost b B) y0) (by rw [wr_0]; rfl) (by omega) (fun i hi => ?_) ?_ rfl
  · obtain ⟨o1, -⟩ := prY_bc hm hT hc hi
    simp (disch := omega) only [↓ite_le_t, ↓ite_le_f, ↓ite_lt_t, ↓ite_lt_f, li5, li8, nI_leI, nI_ltI, nI_eqI, if_pos, if_neg, ↓reduceIte, inb_nI, gd_t, nI_clamp, Option.bind_some, nI_1, isb_0, isb_1, lit13, lit14, lit40, nI_mul, nI_add, s_Sm_tellPrices_B2]
    unfold s_Sm_tellPrices_L15
    refine loop_b m (fun k => (sumR (fun k => FP.dmul (cost (B k)) (T k (n + i))) k FP.dconst0, nI k)) (prY m n T cost B i) rfl (by omega) (fun k hk => ?_) ?_ ?_
    · obtain ⟨h1, h2, h3⟩ := hC k hk
      have hB := (hT k hk).2.2
      simp (disch := omega) only [↓ite_le_t, ↓ite_le_f, ↓ite_lt_t, ↓ite_lt_f, li5, li8, nI_leI, nI_ltI, nI_eqI, if_pos, if_neg, ↓reduceIte, inb_nI, gd_t, nI_clamp, Option.bind_some, nI_1, isb_0, isb_1, lit13, lit14, lit40, nI_mul, nI_add, s_Sm_tellPrices_B15, h3, hco _ hB, h1 (n + i) (by omega), o1.1 k hk, ← sumR_s (fun k => FP.dmul (cost (B k)) (T k (n + i))), o1.2 k hk]
    · simp (disch := omega) only [↓ite_le_t, ↓ite_le_f, ↓ite_lt_t, ↓ite_lt_f, s_Sm_tellPrices_B15]
      rfl
    · have e1 : FP.dmul (prY m n T cost B i) (sgn1 b i) = yS m n T cost b B i := rfl
      simp (disch := omega) only [↓ite_le_t, ↓ite_le_f, ↓ite_lt_t, ↓ite_lt_f, li5, li8, nI_leI, nI_ltI, nI_eqI, if_pos, if_neg, ↓reduceIte, inb_nI, gd_t, nI_clamp, Option.bind_some, nI_1, isb_0, isb_1, lit13, lit14, lit40, nI_mul, nI_add, e_signOf (m := m) (n := n) _ _ _ _ _ _ (show i < 5 by omega) (hb i hi), e1, (yS_bc hm hT hc hi).isn, wr_s (F := yS m n T cost b B)]
  · simp (disch := omega) only [↓ite_le_t, ↓ite_le_f, ↓ite_lt_t, ↓ite_lt_f, s_Sm_tellPrices_B2]
theorem e_tellSolution {m n : Nat} {A : (Nat → Nat → UInt64)} {b c : (Nat → UInt64)} {T : (Nat → Nat → UInt64)} {R cost : (Nat → UInt64)} {B : Nat → Nat} {tb : (Nat → Nat → UInt64)} {ri co x0 s0 y0 : (Nat → UInt64)} {ba : Nat → Int32} (cs sd : Int32) (hP : SPb m n A b c) (hT : TB m n T R B) (hc : CB m n cost) (hC : CT m n T R B tb ri ba) (hco : ∀ k, k < n + m → co k = cost k) :
    s_Sm_tellSolution (nI m) (nI n) cs sd (nI m) (nI n) A b c x0 s0 y0 tb ri co ba = some (solX R B m n x0, wr n (fun j => subR (fun i => FP.dmul (A i j) (yS m n T cost b B i)) m (c j)) s0, wr m (yS m n T cost b B) y0) := by
  obtain ⟨m1', m5, n1', n8, hA, hb, hcc⟩ := hP
  unfold s_Sm_tellSolution s_Sm_tellSolution_L2
  refine loop_b m (fun k => (fd (solB R B n) k x0, nI k)) (solX R B m n x0) rfl (by omega) (fun i hi => ?_) ?_ ?_
  · obtain ⟨h1, h2, h3⟩ := hC i hi
    have hB := (hT i hi).2.2
    show _ = some (Sum.inl (solB R B n i (fd (solB R B n) i x0), nI (i + 1)))
    unfold solB
    by_cases c1 : B i < n
    · simp (disch := omega) only [↓ite_le_t, ↓ite_le_f, ↓ite_lt_t, ↓ite_lt_f, li5, li8, nI_leI, nI_ltI, nI_eqI, if_pos, if_neg, ↓reduceIte, inb_nI, gd_t, nI_clamp, Option.bind_some, nI_1, isb_0, isb_1, lit13, lit14, lit40, nI_mul, nI_add, s_Sm_tellSolution_B2, s_Sm_tellSolution_J43, h2, h3]
    · simp (disch := omega) only [↓ite_le_t, ↓ite_le_f, ↓ite_lt_t, ↓ite_lt_f, li5, li8, nI_leI, nI_ltI, nI_eqI, if_pos, if_neg, ↓reduceIte, inb_nI, gd_t, nI_clamp, Option.bind_some, nI_1, isb_0, isb_1, lit13, lit14, lit40, nI_mul, nI_add, s_Sm_tellSolution_B2, s_Sm_tellSolution_J43, h3]
  · simp (disch := omega) only [↓ite_le_t, ↓ite_le_f, ↓ite_lt_t, ↓ite_lt_f, s_Sm_tellSolution_B2]
    rfl
  · rw [e_tellPrices _ _ _ _ m5 n8 hT hc hC hco (fun i hi => (hb i hi).nn)]
    simp only [Option.bind_some]
    unfold s_Sm_tellSolution_L55
    refine loop_b n (fun k => (wr k (fun j => subR (fun i => FP.dmul (A i j) (yS m n T cost b B i)) m (c j)) s0, nI k)) (wr n (fun j => subR (fun i => FP.dmul (A i j) (yS m n T cost b B i)) m (c j)) s0) (by rw [wr_0]; rfl) (by omega) (fun j hj => ?_) ?_ rfl
    · have o := (okS_bc (K := 1169) (n := m) (f := fun i => FP.dmul (A i j) (yS m n T cost b B i)) (z := c j) (by omega) (by decide) (fun i hi => mul_bc (hA i hi j hj) (yS_bc m5 hT hc hi) (by decide) (by decide)) ((hcc j hj).k (by decide))).1
      have c1 : ∀ i, i < m → FP.dmul (A i j) (wr m (yS m n T cost b B) y0 i) = FP.dmul (A i j) (yS m n T cost b B i) := fun i hi => by rw [wr_in hi]
      have e1 : s_Pb_lessColumn 5 (nI m) (nI n) A (wr m (yS m n T cost b B) y0) (c j) (nI j) = some (subR (fun i => FP.dmul (A i j) (yS m n T cost b B i)) m (c j)) := by
        rw [e_lessColumn _ m5 m5 (by decide) (by omega) (okS_congr c1 o), subR_congr c1]
      simp (disch := omega) only [↓ite_le_t, ↓ite_le_f, ↓ite_lt_t, ↓ite_lt_f, li5, li8, nI_leI, nI_ltI, nI_eqI, if_pos, if_neg, ↓reduceIte, inb_nI, gd_t, nI_clamp, Option.bind_some, nI_1, isb_0, isb_1, lit13, lit14, lit40, nI_mul, nI_add, s_Sm_tellSolution_B55, e1, wr_s (F := fun j => subR (fun i => FP.dmul (A i j) (yS m n T cost b B i)) m (c j))]
    · simp (disch := omega) only [↓ite_le_t, ↓ite_le_f, ↓ite_lt_t, ↓ite_lt_f, s_Sm_tellSolution_B55]
