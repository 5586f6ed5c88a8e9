/-! the reference's simplex call -/
theorem spb_congr {m n : Nat} {A A2 : (Nat → Nat → UInt64)} {b c b2 c2 : (Nat → UInt64)} (h : SPb m n A b c) (ha : ∀ i, i < m → ∀ j, j < n → A2 i j = A i j) (hb : ∀ i, i < m → b2 i = b i) (hc : ∀ j, j < n → c2 j = c j) : SPb m n A2 b2 c2 := by
  obtain ⟨h1, h2, h3, h4, h5, h6, h7⟩ := h
  exact ⟨h1, h2, h3, h4, fun i hi j hj => by rw [ha i hi j hj]; exact h5 i hi j hj, fun i hi => by rw [hb i hi]; exact h6 i hi, fun j hj => by rw [hc j hj]; exact h7 j hj⟩
theorem e_msimplex {m n : Nat} {A : (Nat → Nat → UInt64)} {b c : (Nat → UInt64)} {ma mb mc rs cs sa sb sc mx ms my t co : (Nat → UInt64)} {ba tu : Nat → Int32} (vl vw ve vt va on vo v2 vnm vnn : Int32) (vnu : UInt64) (vb : Int32) (hP : Prob m n A b c) (hA : ∀ i, i < m → ∀ j, j < n → ma (8 * i + j) = A i j) (hb : ∀ i, i < m → mb i = b i) (hc : ∀ j, j < n → mc j = c j) {A2 : (Nat → Nat → UInt64)} {b2 c2 : (Nat → UInt64)} (h2a : ∀ i, i < m → ∀ j, j < n → A2 i j = sA on A m n i j) (h2b : ∀ i, i < m → b2 i = sB on A b n i) (h2c : ∀ j, j < n → c2 j = sC on A c m n j) :
    Ok (s_M_simplex (nI m) (nI n) vl vw ve vt va on vo v2 vnm vnn vnu vb ma mb mc rs cs sa sb sc mx ms my t co ba tu) (fun q => ∃ ef x s y, Sx m n A2 b2 c2 q.1 ef x s y ∧ q.2.1 = nI ef ∧ q.2.2.1 = 0 ∧ q.2.2.2.1 = 1 ∧ (∀ j, j < n → q.2.2.2.2.2.2.2.2.2.2.1 j = FP.dmul (tV on A m n j) (x j)) ∧ (∀ j, j < n → q.2.2.2.2.2.2.2.2.2.2.2.1 j = FP.ddiv (s j) (tV on A m n j)) ∧ ∀ i, i < m → q.2.2.2.2.2.2.2.2.2.2.2.2.1 i = FP.dmul (tR on A n i) (y i)) := by
  have hS := spb_congr (spb_of (on := on) hP) h2a h2b h2c
  have hP' := hP
  obtain ⟨m1', m5, n1', n8, hA', hb', hc'⟩ := hP'
  unfold s_M_simplex
  refine Ok.bind (e_rescale _ _ _ _ _ _ _ _ _ _ _ hA hb hc hP) ?_
  rintro ⟨rs', cs', sa', sb', sc'⟩ ⟨w1, w2, w3, w4, w5⟩
  dsimp only at w1 w2 w3 w4 w5 ⊢
  have rb : ∀ i, i < m → Bc 1 1095 (tR on A n i) := fun i hi => tR_bc (hA' i hi)
  have vb' : ∀ j, j < n → Bc 1 1105 (tV on A m n j) ∧ 2 ^ 1064 ≤ mz (tV on A m n j) := fun j hj => tV_bc hA' hj
  replace w3 : ∀ i, i < m → ∀ j, j < n → sa' (8 * i + j) = A2 i j := fun i hi j hj => (w3 i hi j hj).trans (h2a i hi j hj).symm
  replace w4 : ∀ i, i < m → sb' i = b2 i := fun i hi => (w4 i hi).trans (h2b i hi).symm
  replace w5 : ∀ j, j < n → sc' j = c2 j := fun j hj => (w5 j hj).trans (h2c j hj).symm
  refine Ok.bind (e_table vl vw ve 0 va on vo v2 vnm vnn vnu vb hS w3 w4) ?_
  rintro ⟨sa2, t2, ba2, tu2⟩ ⟨u1, u2, u3⟩
  dsimp only at u1 u2 u3 ⊢
  rw [e_mclear]
  simp only [Option.bind_some]
  refine Ok.bind (e_sbt vl vw 0 va on vo v2 vnm vnn vnu vb hS u1 w5 (fun j hj => wr_in hj) (fun j hj => wr_in hj) (fun i hi => wr_in hi) u2) ?_
  rintro ⟨how, ef', sec', x1, s1, y1, t3, co3, ba3⟩ ⟨ef, x, s, y, yu, sx, e1, gx, gs, gy, hyu⟩
  dsimp only at sx e1 gx gs gy hyu ⊢
  obtain ⟨⟨bxs, by'⟩, -, hhow⟩ := sx.bc hS
  have fin : ∀ (X S Y : (Nat → UInt64)), (∀ j, j < n → X j = x j) → (∀ j, j < n → S j = s j) → (∀ i, i < m → Y i = (if how = 3 then y i else yu i)) →
      Ok (s_M_simplex_J36 (nI m) (nI n) vl vw ef' 0 va on vo sec' vnm vnn vnu vb ma mb mc rs' cs' sa2 sb' sc' X S Y t3 co3 ba3 tu2 how) (fun q => ∃ ef x s y, Sx m n A2 b2 c2 q.1 ef x s y ∧ q.2.1 = nI ef ∧ q.2.2.1 = 0 ∧ q.2.2.2.1 = 1 ∧ (∀ j, j < n → q.2.2.2.2.2.2.2.2.2.2.1 j = FP.dmul (tV on A m n j) (x j)) ∧ (∀ j, j < n → q.2.2.2.2.2.2.2.2.2.2.2.1 j = FP.ddiv (s j) (tV on A m n j)) ∧ ∀ i, i < m → q.2.2.2.2.2.2.2.2.2.2.2.2.1 i = FP.dmul (tR on A n i) (y i)) := by
    intro X S Y hX hS' hY
    unfold s_M_simplex_J36 s_M_simplex_L38
    refine Ok.bind (P := fun v => ∀ i, i < m → v i = y i) ?_ ?_
    · refine Ok.for (fun q (st : (Nat → UInt64) × Int32) => st.2 = nI q ∧ (∀ i, i < q → st.1 i = y i) ∧ ∀ i, q ≤ i → i < m → st.1 i = (if how = 3 then y i else yu i)) m (by omega) ⟨rfl, fun i hi => absurd hi (Nat.not_lt_zero _), fun i _ hi => hY i hi⟩ ?_ ?_
      · rintro i ⟨Z, z⟩ hi ⟨hz, g1, g2⟩
        have hz : z = nI i := hz
        subst hz
        have e0 : Z i = (if how = 3 then y i else yu i) := g2 i (Nat.le_refl _) hi
        have keep : Z i = y i → Ok (some (Sum.inl (Z, nI (i + 1))) : Option (((Nat → UInt64) × Int32) ⊕ (Nat → UInt64))) (fun r => Sum.elim (fun (st : (Nat → UInt64) × Int32) => st.2 = nI (i + 1) ∧ (∀ i', i' < i + 1 → st.1 i' = y i') ∧ ∀ i', i + 1 ≤ i' → i' < m → st.1 i' = (if how = 3 then y i' else yu i')) (fun v => ∀ i, i < m → v i = y i) r) := by
          intro h
          refine Ok.mk ⟨rfl, fun i' hi' => ?_, fun i' h1 h2 => g2 i' (by omega) h2⟩
          by_cases e : i' = i
          · subst e; exact h
          · exact g1 i' (by omega)
        have et : tu2 i = trn b2 i := u3 i hi
        by_cases h : zv (b2 i) < 0
        · have tr : trn b2 i = 1 := if_pos h
          rcases hyu with ⟨h01, q⟩ | ⟨h23, q⟩
          · have h2 : ¬ (2 : Int32) ≤ how := by rcases h01 with rfl | rfl <;> decide
            have h3 : ¬ how = 3 := by rcases h01 with rfl | rfl <;> decide
            rw [if_neg h3] at e0
            obtain ⟨q1, q2⟩ := q i hi
            have sg1 : sgn1 b2 i = dm1 := if_pos h
            have e2 : FP.dmul (yu i) 13830554455654793216 = y i := by rw [q1, sg1]; rfl
            simp (disch := omega) only [↓ite_le_t, ↓ite_le_f, ↓ite_lt_t, ↓ite_lt_f, li5, li8, nI_leI, nI_ltI, nI_eqI, if_pos, if_neg, ↓reduceIte, inb_nI, gd_t, nI_clamp, Option.bind_some, nI_1, isb_0, isb_1, lit13, lit14, lit40, nI_mul, nI_add, s_M_simplex_B38, s_M_simplex_J76, et, tr, i32_10, h2, e0, e2, (by' i).isn]
            refine Ok.mk ⟨rfl, fun i' hi' => ?_, fun i' h1 h2 => (upd_ne (by omega)).trans ((g2 i' (by omega) h2).trans (by rw [if_neg h3]))⟩
            by_cases e : i' = i
            · subst e; exact upd_at _ _ _
            · exact (upd_ne e).trans (g1 i' (by omega))
          · have h2 : (2 : Int32) ≤ how := by rcases h23 with rfl | rfl <;> decide
            simp (disch := omega) only [↓ite_le_t, ↓ite_le_f, ↓ite_lt_t, ↓ite_lt_f, li5, li8, nI_leI, nI_ltI, nI_eqI, if_pos, if_neg, ↓reduceIte, inb_nI, gd_t, nI_clamp, Option.bind_some, nI_1, isb_0, isb_1, lit13, lit14, lit40, nI_mul, nI_add, s_M_simplex_B38, s_M_simplex_J76, et, tr, i32_10, h2]
            refine keep ?_
            rw [e0]
            split
            · rfl
            · exact q i hi
        · have tr : trn b2 i = 0 := if_neg h
          simp (disch := omega) only [↓ite_le_t, ↓ite_le_f, ↓ite_lt_t, ↓ite_lt_f, li5, li8, nI_leI, nI_ltI, nI_eqI, if_pos, if_neg, ↓reduceIte, inb_nI, gd_t, nI_clamp, Option.bind_some, nI_1, isb_0, isb_1, lit13, lit14, lit40, nI_mul, nI_add, s_M_simplex_B38, s_M_simplex_J76, et, tr]
          refine keep ?_
          rw [e0]
          split
          · rfl
          · rcases hyu with ⟨h01, q⟩ | ⟨h23, q⟩
            · obtain ⟨q1, q2⟩ := q i hi
              have sg1 : sgn1 b2 i = FP.dconst1 := if_neg h
              rw [q1, sg1]
              exact (one_mul' q2.nn).symm
            · exact q i hi
      · rintro ⟨Z, z⟩ ⟨hz, g1, -⟩
        have hz : z = nI m := hz
        subst hz
        simp (disch := omega) only [↓ite_le_t, ↓ite_le_f, ↓ite_lt_t, ↓ite_lt_f, s_M_simplex_B38]
        exact Ok.mk g1
    · intro Z hZ
      refine Ok.bind (e_back vl vw ef' 0 va on vo sec' vnm vnn vnu vb m5 n8 w1 w2 hX hS' hZ (fun j hj => (mul_bc (M := 1145) (vb' j hj).1 (bxs j).1 (by decide) (by decide)).isn) (fun j hj => (div_bc (M := 1183) (bxs j).2 (vb' j hj).1.fin (vb' j hj).2 (by decide) (by decide)).isn) (fun i hi => (mul_bc (M := 1180) (rb i hi) (by' i) (by decide) (by decide)).isn)) ?_
      rintro ⟨so, X1, S1, Y1⟩ ⟨l0, l1, l2, l3⟩
      exact Ok.mk ⟨ef, x, s, y, sx, e1, rfl, l0, l1, l2, l3⟩
  by_cases h3 : how = 3
  · rw [if_pos h3, e_mclear]
    simp only [Option.bind_some]
    have z3 : x = z0 ∧ s = z0 ∧ y = z0 := by
      subst h3
      obtain ⟨k1, h1, p1, h⟩ := sx
      rcases h with ⟨a1, a2, a3, a4, a5, a6, a7⟩ | ⟨a1, a2, a3, -⟩ | ⟨a1, a2, T1, R1, B1, t1, t2, t3, k2, h2, p2, a3⟩
      · subst a2
        exact ⟨a4 (by decide), a6, a7⟩
      · exact absurd a3 (by decide)
      · rcases a3 with ⟨c1, c2, c3, c4, c5, c6, c7⟩ | ⟨c1, c2, -⟩
        · subst c2
          exact ⟨c4 (by decide), c6, c7⟩
        · exact absurd c2 (by decide)
    obtain ⟨rfl, rfl, rfl⟩ := z3
    refine fin _ _ _ (fun j hj => wr_in (by omega)) (fun j hj => wr_in (by omega)) (fun i hi => ?_)
    rw [if_pos h3]
    exact wr_in (by omega)
  · rw [if_neg h3]
    refine fin _ _ _ (fun j hj => gx j (by omega)) (fun j hj => gs j (by omega)) (fun i hi => ?_)
    rw [if_neg h3]
    exact gy i hi
