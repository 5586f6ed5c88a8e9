/-! the reference's table -/
def TT (m n : Nat) (T : (Nat → Nat → UInt64)) (R : (Nat → UInt64)) (i k : Nat) : UInt64 := if k < n + m then T i k else R i
def Us (m n k : Nat) : Prop := k < n + m ∨ k = 13
def MT (m n : Nat) (T : (Nat → Nat → UInt64)) (R : (Nat → UInt64)) (B : Nat → Nat) (t : (Nat → UInt64)) (ba : Nat → Int32) : Prop := ∀ i, i < m → (∀ k, Us m n k → t (14 * i + k) = TT m n T R i k) ∧ ba i = nI (B i)
theorem MT.t {m n : Nat} {T : (Nat → Nat → UInt64)} {R : (Nat → UInt64)} {B : Nat → Nat} {t : (Nat → UInt64)} {ba : Nat → Int32} (h : MT m n T R B t ba) {i k : Nat} (hi : i < m) (hk : k < n + m) : t (14 * i + k) = T i k := by
  rw [(h i hi).1 k (Or.inl hk)]
  exact if_pos hk
theorem MT.r {m n : Nat} {T : (Nat → Nat → UInt64)} {R : (Nat → UInt64)} {B : Nat → Nat} {t : (Nat → UInt64)} {ba : Nat → Int32} (h : MT m n T R B t ba) {i : Nat} (hm : m ≤ 5) (hn : n ≤ 8) (hi : i < m) : t (14 * i + 13) = R i := by
  rw [(h i hi).1 13 (Or.inr rfl)]
  exact if_neg (by omega)
theorem one_mul' {a : UInt64} (h : nnan a) : FP.dmul a FP.dconst1 = a := FP.Core.dmul_one h
def sAt (A : (Nat → Nat → UInt64)) (b : (Nat → UInt64)) (i j : Nat) : UInt64 := FP.dmul (A i j) (sgn1 b i)
theorem nar0 : vp_nar .boolean 0 = 0 := by decide
theorem nar1 : vp_nar .boolean 1 = 1 := by decide
def trn (b : (Nat → UInt64)) (i : Nat) : Int32 := if zv (b i) < 0 then 1 else 0
theorem e_J186 {m n i : Nat} {sa sb t : (Nat → UInt64)} {ba tu : Nat → Int32} {w : UInt64} (vl vw ve vt va vs vo v2 vnm vnn : Int32) (vnu : UInt64) (vb : Int32) (hi : i < 5) : s_M_table_J186 (nI m) (nI n) vl vw ve vt va vs vo v2 vnm vnn vnu vb sa sb t ba tu (nI i) (nI (14 * i + 13)) w = some (Sum.inl (sa, vf_upd t (14 * i + 13) w, upd ba i (nI (n + i)), tu, nI (i + 1))) := by
  unfold s_M_table_J186
  rw [inb_nI (by omega) (by omega), inb_nI hi (by omega), nI_clamp (by omega), nI_clamp (by omega), nI_add, nI_1]
  rfl
theorem e_table {m n : Nat} {A : (Nat → Nat → UInt64)} {b c : (Nat → UInt64)} {sa sb t : (Nat → UInt64)} {ba tu : Nat → Int32} (vl vw ve vt va vs vo v2 vnm vnn : Int32) (vnu : UInt64) (vb : Int32) (hP : SPb m n A b c) (hA' : ∀ i, i < m → ∀ j, j < n → sa (8 * i + j) = A i j) (hb' : ∀ i, i < m → sb i = b i) :
    Ok (s_M_table (nI m) (nI n) vl vw ve vt va vs vo v2 vnm vnn vnu vb sa sb t ba tu) (fun r => (∀ i, i < m → ∀ j, j < n → r.1 (8 * i + j) = sAt A b i j) ∧ MT m n (T0 n A b) (R0 b) (B0 n) r.2.1 r.2.2.1 ∧ ∀ i, i < m → r.2.2.2 i = trn b i) := by
  obtain ⟨m1', m5, n1', n8, hA, hb, hc⟩ := hP
  unfold s_M_table s_M_table_L2
  refine Ok.bind (P := fun v => (∀ i, i < m → ∀ j, j < n → v.1 (8 * i + j) = sAt A b i j) ∧ MT m n (T0 n A b) (R0 b) (B0 n) v.2.1 v.2.2.1 ∧ ∀ i, i < m → v.2.2.2 i = trn b i) ?_ (fun v hv => Ok.mk hv)
  refine Ok.for (fun q (st : (Nat → UInt64) × (Nat → UInt64) × (Nat → Int32) × (Nat → Int32) × Int32) => st.2.2.2.2 = nI q ∧ (∀ i, i < q → ∀ j, j < n → st.1 (8 * i + j) = sAt A b i j) ∧ (∀ i, q ≤ i → i < m → ∀ j, j < n → st.1 (8 * i + j) = A i j) ∧ (∀ i, i < q → (∀ k, Us m n k → st.2.1 (14 * i + k) = TT m n (T0 n A b) (R0 b) i k) ∧ st.2.2.1 i = nI (B0 n i)) ∧ ∀ i, i < q → st.2.2.2.1 i = trn b i) m (by omega) ⟨rfl, fun i hi => absurd hi (Nat.not_lt_zero _), fun i _ hi => hA' i hi, fun i hi => absurd hi (Nat.not_lt_zero _), fun i hi => absurd hi (Nat.not_lt_zero _)⟩ ?_ ?_
  · rintro i ⟨sa1, t1, ba1, tu1, z⟩ hi ⟨hz, g1, g2, g3, g4⟩
    have hz : z = nI i := hz
    subst hz
    have e0 : s_M_table_B2 (nI m) (nI n) vl vw ve vt va vs vo v2 vnm vnn vnu vb sb sa1 t1 ba1 tu1 (nI i) = s_M_table_L34 (nI m) (nI n) vl vw ve vt va vs vo v2 vnm vnn vnu vb sa1 sb t1 ba1 (upd tu1 i (trn b i)) (nI i) 0 := by
      unfold trn
      simp (disch := omega) only [↓ite_le_t, ↓ite_le_f, ↓ite_lt_t, ↓ite_lt_f, li5, li8, nI_leI, nI_ltI, nI_eqI, if_pos, if_neg, ↓reduceIte, inb_nI, gd_t, nI_clamp, Option.bind_some, nI_1, isb_0, isb_1, lit13, lit14, lit40, nI_mul, nI_add, s_M_table_B2, s_M_table_J31, hb' i hi, cv_ge (hb i hi).nn nn_0, zv_0]
      by_cases h : zv (b i) < 0
      · rw [if_neg (Int.not_le.mpr h), if_pos h, nar1]
      · rw [if_pos (Int.not_lt.mp h), if_neg h, nar0]
    show Ok (s_M_table_B2 (nI m) (nI n) vl vw ve vt va vs vo v2 vnm vnn vnu vb sb sa1 t1 ba1 tu1 (nI i)) _
    rw [e0]
    have et : upd tu1 i (trn b i) i = trn b i := iupd_at _ _ _
    have en : ∀ i', ¬ i' = i → upd tu1 i (trn b i) i' = tu1 i' := fun i' h => iupd_ne h
    generalize upd tu1 i (trn b i) = tu2 at et en
    unfold s_M_table_L34
    refine Ok.bind (P := fun v => (∀ j, j < n → v.1 (8 * i + j) = sAt A b i j) ∧ (∀ i', ¬ i' = i → i' < m → ∀ j, j < n → v.1 (8 * i' + j) = sa1 (8 * i' + j)) ∧ (∀ k, k < n → v.2 (14 * i + k) = T0 n A b i k) ∧ ∀ i', ¬ i' = i → ∀ k, k < 14 → v.2 (14 * i' + k) = t1 (14 * i' + k)) ?_ ?_
    · refine Ok.for (fun q (st : (Nat → UInt64) × (Nat → UInt64) × Int32) => st.2.2 = nI q ∧ (∀ j, j < q → st.1 (8 * i + j) = sAt A b i j) ∧ (∀ j, q ≤ j → j < n → st.1 (8 * i + j) = A i j) ∧ (∀ i', ¬ i' = i → i' < m → ∀ j, j < n → st.1 (8 * i' + j) = sa1 (8 * i' + j)) ∧ (∀ k, k < q → st.2.1 (14 * i + k) = T0 n A b i k) ∧ ∀ i', ¬ i' = i → ∀ k, k < 14 → st.2.1 (14 * i' + k) = t1 (14 * i' + k)) n (by omega) ⟨rfl, fun j hj => absurd hj (Nat.not_lt_zero _), fun j _ hj => g2 i (Nat.le_refl _) hi j hj, fun _ _ _ _ _ => rfl, fun j hj => absurd hj (Nat.not_lt_zero _), fun _ _ _ _ => rfl⟩ ?_ ?_
      · rintro j ⟨sa2, t2, z⟩ hj ⟨hz, u1, u2, u3, u4, u5⟩
        have hz : z = nI j := hz
        subst hz
        have ea : sa2 (8 * i + j) = A i j := u2 j (Nat.le_refl _) hj
        have e1 : sAt A b i j = T0 n A b i j := by unfold T0; rw [if_pos hj]; rfl
        have hbj := (hA i hi j hj)
        have fin : ∀ (w : (Nat → UInt64)), (∀ j', ¬ j' = j → j' < n → w (8 * i + j') = sa2 (8 * i + j')) → (∀ i', ¬ i' = i → i' < m → ∀ j, j < n → w (8 * i' + j) = sa2 (8 * i' + j)) → w (8 * i + j) = sAt A b i j →
            Ok (some (Sum.inl (w, vf_upd t2 (14 * i + j) (w (8 * i + j)), nI (j + 1))) : Option (((Nat → UInt64) × (Nat → UInt64) × Int32) ⊕ ((Nat → UInt64) × (Nat → UInt64)))) (fun r => Sum.elim (fun (st : (Nat → UInt64) × (Nat → UInt64) × Int32) => st.2.2 = nI (j + 1) ∧ (∀ j', j' < j + 1 → st.1 (8 * i + j') = sAt A b i j') ∧ (∀ j', j + 1 ≤ j' → j' < n → st.1 (8 * i + j') = A i j') ∧ (∀ i', ¬ i' = i → i' < m → ∀ j, j < n → st.1 (8 * i' + j) = sa1 (8 * i' + j)) ∧ (∀ k, k < j + 1 → st.2.1 (14 * i + k) = T0 n A b i k) ∧ ∀ i', ¬ i' = i → ∀ k, k < 14 → st.2.1 (14 * i' + k) = t1 (14 * i' + k)) (fun v => (∀ j, j < n → v.1 (8 * i + j) = sAt A b i j) ∧ (∀ i', ¬ i' = i → i' < m → ∀ j, j < n → v.1 (8 * i' + j) = sa1 (8 * i' + j)) ∧ (∀ k, k < n → v.2 (14 * i + k) = T0 n A b i k) ∧ ∀ i', ¬ i' = i → ∀ k, k < 14 → v.2 (14 * i' + k) = t1 (14 * i' + k)) r) := by
          intro w k1 k2 k3
          refine Ok.mk ⟨rfl, fun j' hj' => ?_, fun j' h1 h2 => (k1 j' (by omega) h2).trans (u2 j' (by omega) h2), fun i' h1 h2 j' h3 => (k2 i' h1 h2 j' h3).trans (u3 i' h1 h2 j' h3), fun k hk => ?_, fun i' h1 k hk => (upd_ne (by omega)).trans (u5 i' h1 k hk)⟩
          · by_cases e : j' = j
            · subst e; exact k3
            · exact (k1 j' e (by omega)).trans (u1 j' (by omega))
          · by_cases e : k = j
            · subst e
              exact (upd_at _ _ _).trans (k3.trans e1)
            · exact (upd_ne (by omega)).trans (u4 k (by omega))
        by_cases h : zv (b i) < 0
        · have tr : trn b i = 1 := if_pos h
          have sg1 : sgn1 b i = dm1 := if_pos h
          have e2 : FP.dmul (A i j) 13830554455654793216 = sAt A b i j := by unfold sAt; rw [sg1]; rfl
          have b2 : isn (sAt A b i j) = true := (mul_bc (M := 1084) hbj (sgn1_bc b i) (by decide) (by decide)).isn
          simp (disch := omega) only [↓ite_le_t, ↓ite_le_f, ↓ite_lt_t, ↓ite_lt_f, li5, li8, nI_leI, nI_ltI, nI_eqI, if_pos, if_neg, ↓reduceIte, inb_nI, gd_t, nI_clamp, Option.bind_some, nI_1, isb_0, isb_1, lit13, lit14, lit40, nI_mul, nI_add, s_M_table_B34, s_M_table_J77, et, tr, i32_10, ea, e2, b2]
          exact fin _ (fun j' h1 h2 => upd_ne (by omega)) (fun i' h1 h2 j' h3 => upd_ne (by omega)) (upd_at _ _ _)
        · have tr : trn b i = 0 := if_neg h
          have sg1 : sgn1 b i = FP.dconst1 := if_neg h
          have e2 : A i j = sAt A b i j := by unfold sAt; rw [sg1]; exact (one_mul' hbj.nn).symm
          simp (disch := omega) only [↓ite_le_t, ↓ite_le_f, ↓ite_lt_t, ↓ite_lt_f, li5, li8, nI_leI, nI_ltI, nI_eqI, if_pos, if_neg, ↓reduceIte, inb_nI, gd_t, nI_clamp, Option.bind_some, nI_1, isb_0, isb_1, lit13, lit14, lit40, nI_mul, nI_add, s_M_table_B34, s_M_table_J77, et, tr]
          exact fin _ (fun j' h1 h2 => rfl) (fun i' h1 h2 j' h3 => rfl) (ea.trans e2)
      · rintro ⟨sa2, t2, z⟩ ⟨hz, u1, -, u3, u4, u5⟩
        have hz : z = nI n := hz
        subst hz
        simp (disch := omega) only [↓ite_le_t, ↓ite_le_f, ↓ite_lt_t, ↓ite_lt_f, s_M_table_B34]
        exact Ok.mk ⟨u1, u3, u4, u5⟩
    · rintro ⟨sa2, t2⟩ ⟨u1, u3, u4, u5⟩
      dsimp only at u1 u3 u4 u5 ⊢
      unfold s_M_table_L107
      refine Ok.bind (P := fun v => (∀ k, k < n + m → v (14 * i + k) = T0 n A b i k) ∧ ∀ i', ¬ i' = i → ∀ k, k < 14 → v (14 * i' + k) = t1 (14 * i' + k)) ?_ ?_
      · refine Ok.for (fun q (st : (Nat → UInt64) × Int32) => st.2 = nI q ∧ (∀ k, k < n + q → st.1 (14 * i + k) = T0 n A b i k) ∧ ∀ i', ¬ i' = i → ∀ k, k < 14 → st.1 (14 * i' + k) = t1 (14 * i' + k)) m (by omega) ⟨rfl, fun k hk => u4 k (by omega), u5⟩ ?_ ?_
        · rintro k ⟨t3, z⟩ hk ⟨hz, r1, r2⟩
          have hz : z = nI k := hz
          subst hz
          by_cases e : k = i
          · subst e
            simp (disch := omega) only [↓ite_le_t, ↓ite_le_f, ↓ite_lt_t, ↓ite_lt_f, li5, li8, nI_leI, nI_ltI, nI_eqI, if_pos, if_neg, ↓reduceIte, inb_nI, gd_t, nI_clamp, Option.bind_some, nI_1, isb_0, isb_1, lit13, lit14, lit40, nI_mul, nI_add, s_M_table_B107, s_M_table_J140]
            refine Ok.mk ⟨rfl, fun k' hk' => ?_, fun i' h1 k' h2 => (upd_ne (by omega)).trans (r2 i' h1 k' h2)⟩
            by_cases e : k' = n + k
            · subst e
              rw [← Nat.add_assoc]
              refine (upd_at _ _ _).trans ?_
              unfold T0
              rw [if_neg (by omega), if_pos rfl]
            · exact (upd_ne (by omega)).trans (r1 k' (by omega))
          · have hne : ¬ nI k = nI i := fun h => e ((nI_eq (by omega) (by omega)).mp h)
            simp (disch := omega) only [↓ite_le_t, ↓ite_le_f, ↓ite_lt_t, ↓ite_lt_f, li5, li8, nI_leI, nI_ltI, nI_eqI, if_pos, if_neg, ↓reduceIte, inb_nI, gd_t, nI_clamp, Option.bind_some, nI_1, isb_0, isb_1, lit13, lit14, lit40, nI_mul, nI_add, s_M_table_B107, s_M_table_J140, hne]
            refine Ok.mk ⟨rfl, fun k' hk' => ?_, fun i' h1 k' h2 => (upd_ne (by omega)).trans (r2 i' h1 k' h2)⟩
            by_cases e : k' = n + k
            · subst e
              rw [← Nat.add_assoc]
              refine (upd_at _ _ _).trans ?_
              unfold T0
              rw [if_neg (by omega), if_neg (by omega)]
            · exact (upd_ne (by omega)).trans (r1 k' (by omega))
        · rintro ⟨t3, z⟩ ⟨hz, r1, r2⟩
          have hz : z = nI m := hz
          subst hz
          simp (disch := omega) only [↓ite_le_t, ↓ite_le_f, ↓ite_lt_t, ↓ite_lt_f, s_M_table_B107]
          exact Ok.mk ⟨r1, r2⟩
      · rintro t3 ⟨r1, r2⟩
        have e1 : ∀ (o : Option (((Nat → UInt64) × (Nat → UInt64) × (Nat → Int32) × (Nat → Int32) × Int32) ⊕ ((Nat → UInt64) × (Nat → UInt64) × (Nat → Int32) × (Nat → Int32)))), o = some (Sum.inl (sa2, vf_upd t3 (14 * i + 13) (R0 b i), upd ba1 i (nI (n + i)), tu2, nI (i + 1))) → Ok o (fun r => Sum.elim (fun (st : (Nat → UInt64) × (Nat → UInt64) × (Nat → Int32) × (Nat → Int32) × Int32) => st.2.2.2.2 = nI (i + 1) ∧ (∀ i', i' < i + 1 → ∀ j, j < n → st.1 (8 * i' + j) = sAt A b i' j) ∧ (∀ i', i + 1 ≤ i' → i' < m → ∀ j, j < n → st.1 (8 * i' + j) = A i' j) ∧ (∀ i', i' < i + 1 → (∀ k, Us m n k → st.2.1 (14 * i' + k) = TT m n (T0 n A b) (R0 b) i' k) ∧ st.2.2.1 i' = nI (B0 n i')) ∧ ∀ i', i' < i + 1 → st.2.2.2.1 i' = trn b i') (fun v => (∀ i, i < m → ∀ j, j < n → v.1 (8 * i + j) = sAt A b i j) ∧ MT m n (T0 n A b) (R0 b) (B0 n) v.2.1 v.2.2.1 ∧ ∀ i, i < m → v.2.2.2 i = trn b i) r) := by
          rintro o rfl
          refine Ok.mk ⟨rfl, fun i' hi' j hj => ?_, fun i' h1 h2 j hj => (u3 i' (by omega) h2 j hj).trans (g2 i' (by omega) h2 j hj), fun i' hi' => ?_, fun i' hi' => ?_⟩
          · by_cases e : i' = i
            · subst e; exact u1 j hj
            · exact (u3 i' e (by omega) j hj).trans (g1 i' (by omega) j hj)
          · by_cases e : i' = i
            · subst e
              refine ⟨fun k hk => ?_, iupd_at _ _ _⟩
              unfold TT
              by_cases e : k < n + m
              · rw [if_pos e]
                exact (upd_ne (by omega)).trans (r1 k e)
              · rw [if_neg e]
                rcases hk with q | rfl
                · exact absurd q e
                · exact upd_at _ _ _
            · refine ⟨fun k hk => ?_, (iupd_ne e).trans (g3 i' (by omega)).2⟩
              have hk14 : k < 14 := by
                rcases hk with q | q <;> omega
              exact (upd_ne (by omega)).trans ((r2 i' e k hk14).trans ((g3 i' (by omega)).1 k hk))
          · by_cases e : i' = i
            · subst e; exact et
            · exact (en i' e).trans (g4 i' (by omega))
        have b5 : i < 5 := by omega
        by_cases h : zv (b i) < 0
        · have tr : trn b i = 1 := if_pos h
          have sg1 : sgn1 b i = dm1 := if_pos h
          have e2 : FP.dmul (b i) 13830554455654793216 = R0 b i := by unfold R0; rw [sg1]; rfl
          have b2 : isn (R0 b i) = true := (mul_bc (M := 1105) (hb i hi) (sgn1_bc b i) (by decide) (by decide)).isn
          refine e1 _ ?_
          simp (disch := omega) only [↓ite_le_t, ↓ite_le_f, ↓ite_lt_t, ↓ite_lt_f, li5, li8, nI_leI, nI_ltI, nI_eqI, if_pos, if_neg, ↓reduceIte, inb_nI, gd_t, nI_clamp, Option.bind_some, nI_1, isb_0, isb_1, lit13, lit14, lit40, nI_mul, nI_add, et, tr, i32_10, hb' i hi, e2, b2, e_J186]
        · have tr : trn b i = 0 := if_neg h
          have sg1 : sgn1 b i = FP.dconst1 := if_neg h
          have e2 : b i = R0 b i := by unfold R0; rw [sg1]; exact (one_mul' (hb i hi).nn).symm
          have e3 : sb i = R0 b i := (hb' i hi).trans e2
          refine e1 _ ?_
          simp (disch := omega) only [↓ite_le_t, ↓ite_le_f, ↓ite_lt_t, ↓ite_lt_f, li5, li8, nI_leI, nI_ltI, nI_eqI, if_pos, if_neg, ↓reduceIte, inb_nI, gd_t, nI_clamp, Option.bind_some, nI_1, isb_0, isb_1, lit13, lit14, lit40, nI_mul, nI_add, et, tr, e3, e_J186]
  · rintro ⟨sa1, t1, ba1, tu1, z⟩ ⟨hz, g1, -, g3, g4⟩
    have hz : z = nI m := hz
    subst hz
    simp (disch := omega) only [↓ite_le_t, ↓ite_le_f, ↓ite_lt_t, ↓ite_lt_f, s_M_table_B2]
    exact Ok.mk ⟨g1, g3, g4⟩
