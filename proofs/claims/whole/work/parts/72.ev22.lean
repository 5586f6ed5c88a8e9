/-! the class's simplex method -/
theorem eff6 (s0 k : Nat) : eff s0 k 6 = s0 + k := by unfold eff; rw [if_neg (fun q => absurd q.1 i32_623.2.2.2.2.1)]
theorem e_ssolve {m n : Nat} {A : (Nat → Nat → UInt64)} {b c x0 s0 y0 : (Nat → UInt64)} {tb : (Nat → Nat → UInt64)} {ri co : (Nat → UInt64)} {ba : Nat → Int32} (w1 w2 w3 w4 : Int32) (hP : SPb m n A b c) :
    Ok (s_Sm_solve w1 w2 w3 w4 (nI m) (nI n) A b c x0 s0 y0 tb ri co ba) (fun r => ∃ ef x s y, Sx m n A b c r.1 ef x s y ∧ r.2.2.2.2.1 = nI ef ∧ (∀ j, j < 8 → r.2.2.2.2.2.1 j = x j) ∧ (∀ j, j < 8 → r.2.2.2.2.2.2.1 j = s j) ∧ ∀ i, i < 5 → r.2.2.2.2.2.2.2.1 i = y i) := by
  have hP' := hP
  obtain ⟨m1', m5, n1', n8, hA, hb, hc⟩ := hP'
  have zx : ∀ j, j < 8 → wr 8 (fun _ => FP.dconst0) x0 j = z0 j := fun j hj => wr_in hj
  have zs : ∀ j, j < 8 → wr 8 (fun _ => FP.dconst0) s0 j = z0 j := fun j hj => wr_in hj
  have zy : ∀ i, i < 5 → wr 5 (fun _ => FP.dconst0) y0 i = z0 i := fun i hi => wr_in hi
  have zwr : ∀ (k : Nat) (F : (Nat → UInt64)) (i : Nat), i < 5 → wr k F (wr 5 (fun _ => FP.dconst0) y0) i = wr k F z0 i := fun k F i hi => by
    by_cases q : i < k
    · rw [wr_in q, wr_in q]
    · rw [wr_out q, wr_out q]
      exact zy i hi
  have zws : ∀ (k : Nat) (F : (Nat → UInt64)) (i : Nat), i < 8 → wr k F (wr 8 (fun _ => FP.dconst0) s0) i = wr k F z0 i := fun k F i hi => by
    by_cases q : i < k
    · rw [wr_in q, wr_in q]
    · rw [wr_out q, wr_out q]
      exact zs i hi
  unfold s_Sm_solve
  rw [e_ptfill]
  simp only [Option.bind_some]
  refine Ok.bind (e_fillTable w1 w2 w3 0 hP) ?_
  rintro ⟨q1, q2, q3, tb1, ri1, ba1⟩ ⟨h1, h2, h3, hC⟩
  have h1 : q1 = nI m := h1
  have h2 : q2 = nI n := h2
  have h3 : q3 = nI (n + m) := h3
  subst h1 h2 h3
  refine Ok.bind (e_setCosts1 0 (nI m) (nI n) m5 n8) ?_
  intro co1 hco1
  refine Ok.bind (e_runPhase (sec := 0) (s0 := 0) m5 n8 (by omega) (tb0 hP) (cb1 m n) hC hco1) ?_
  rintro ⟨how, sd, x1, tb2, ri2, ba2⟩ ⟨k1, h, p1, e1, e2, e3, e4, e5⟩
  have e1 : how = h := e1
  have e2 : sd = nI (eff 0 k1 h) := e2
  subst e1 e2
  have hk1 : k1 ≤ 200 := by have := p1.2.1; omega
  by_cases c6 : how = 6
  · subst c6
    simp only [↓reduceIte]
    have ct := e5 rfl
    have ex : x1 = _ := e3 i32_623.2.2.2.1
    subst ex
    have tm := ph_tame m5 n8 (tb0 hP) k1 p1.1
    have ec := e_costOfBasis (nI n) (nI (n + m)) (nI (eff 0 k1 6)) m5 n8 tm (cb1 m n) ct hco1
    have cb := (cob_bc m5 tm (cb1 m n)).2
    have e7 := cv_le (op := .l) cb.nn nn_c7
    dsimp only at ec
    rw [ec]
    simp only [Option.bind_some]
    by_cases c7' : zv c7 < zv (cob m (kR m n (cst1 n) 0 (T0 n A b) (R0 b) (B0 n) k1) (cst1 n) (kB m n (cst1 n) 0 (T0 n A b) (R0 b) (B0 n) k1))
    · rw [if_neg (fun q => absurd (e7.mp q) (Int.not_le.mpr c7'))]
      have et := e_tellPrices (b := b) (y0 := wr 5 (fun _ => FP.dconst0) y0) (nI (n + m)) (nI (eff 0 k1 6)) (nI m) (nI n) m5 n8 tm (cb1 m n) ct hco1 (fun i hi => (hb i hi).nn)
      dsimp only at et
      rw [et]
      refine Ok.mk ⟨k1, z0, z0, _, ⟨k1, 6, p1, Or.inr (Or.inl ⟨rfl, c7', rfl, rfl, rfl, rfl, rfl⟩)⟩, ?_, zx, zs, zwr _ _⟩
      show nI (eff 0 k1 6) = nI k1
      rw [eff6, Nat.zero_add]
    · rw [if_pos (e7.mpr (Int.not_lt.mp c7'))]
      have ef0 : eff 0 k1 6 = k1 := by rw [eff6, Nat.zero_add]
      refine Ok.bind (e_setCosts2 (nI (eff 0 k1 6)) (nI m) (nI n) m5 n8) ?_
      intro co2 hco2
      refine Ok.bind (e_runPhase (sec := 1) (s0 := eff 0 k1 6) m5 n8 (by omega) tm (cb2 hP) ct hco2) ?_
      rintro ⟨how, sd, x2, tb3, ri3, ba3⟩ ⟨k2, h, p2, f1, f2, f3, f4, f5⟩
      have f1 : how = h := f1
      have f2 : sd = nI (eff (eff 0 k1 6) k2 h) := f2
      subst f1 f2
      rw [ef0] at p2
      by_cases c8 : how = 6
      · subst c8
        simp only [↓reduceIte]
        have ct2 := f5 rfl
        have ex : x2 = _ := f3 i32_623.2.2.2.1
        subst ex
        have tm2 := ph_tame m5 n8 tm k2 p2.1
        have es := e_tellSolution (x0 := wr 8 (fun _ => FP.dconst0) x0) (s0 := wr 8 (fun _ => FP.dconst0) s0) (y0 := wr 5 (fun _ => FP.dconst0) y0) (nI (n + m)) (nI (eff (eff 0 k1 6) k2 6)) hP tm2 (cb2 hP) ct2 hco2
        dsimp only at es
        rw [es]
        refine Ok.mk ⟨k1 + k2, _, _, _, ⟨k1, 6, p1, Or.inr (Or.inr ⟨rfl, c7', _, _, _, rfl, rfl, rfl, k2, 6, p2, Or.inr ⟨rfl, rfl, rfl, rfl, rfl, rfl⟩⟩)⟩, ?_, sol_agree zx, zws _ _, zwr _ _⟩
        show nI (eff (eff 0 k1 6) k2 6) = nI (k1 + k2)
        rw [ef0, eff6]
      · simp only [c8, ↓reduceIte]
        by_cases c9' : how = 2
        · have ex : x2 = _ := f4 c9'
          subst ex
          refine Ok.mk ⟨eff k1 k2 how, _, z0, z0, ⟨k1, 6, p1, Or.inr (Or.inr ⟨rfl, c7', _, _, _, rfl, rfl, rfl, k2, how, p2, Or.inl ⟨c8, rfl, rfl, fun q => absurd c9' q, fun _ => rfl, rfl, rfl⟩⟩)⟩, ?_, ray_agree zx, zs, zy⟩
          show nI (eff (eff 0 k1 6) k2 how) = _
          rw [ef0]
        · have ex : x2 = _ := f3 c9'
          subst ex
          refine Ok.mk ⟨eff k1 k2 how, z0, z0, z0, ⟨k1, 6, p1, Or.inr (Or.inr ⟨rfl, c7', _, _, _, rfl, rfl, rfl, k2, how, p2, Or.inl ⟨c8, rfl, rfl, fun _ => rfl, fun q => absurd q c9', rfl, rfl⟩⟩)⟩, ?_, zx, zs, zy⟩
          show nI (eff (eff 0 k1 6) k2 how) = _
          rw [ef0]
  · simp only [c6, ↓reduceIte]
    by_cases c9' : how = 2
    · have ex : x1 = _ := e4 c9'
      subst ex
      exact Ok.mk ⟨eff 0 k1 how, _, z0, z0, ⟨k1, how, p1, Or.inl ⟨c6, rfl, rfl, fun q => absurd c9' q, fun _ => rfl, rfl, rfl⟩⟩, rfl, ray_agree zx, zs, zy⟩
    · have ex : x1 = _ := e3 c9'
      subst ex
      exact Ok.mk ⟨eff 0 k1 how, z0, z0, z0, ⟨k1, how, p1, Or.inl ⟨c6, rfl, rfl, fun _ => rfl, fun q => absurd q c9', rfl, rfl⟩⟩, rfl, zx, zs, zy⟩
/-- bounds of what the simplex method tells -/
theorem Sx.bc {m n : Nat} {A : (Nat → Nat → UInt64)} {b c : (Nat → UInt64)} {how : Int32} {ef : Nat} {x s y : (Nat → UInt64)} (hP : SPb m n A b c) (h : Sx m n A b c how ef x s y) : ((∀ j, Bc 1 1114 (x j) ∧ Bc 1 1173 (s j)) ∧ ∀ i, Bc 1 1159 (y i)) ∧ ef ≤ 200 ∧ (how = 0 ∨ how = 1 ∨ how = 2 ∨ how = 3) := by
  have hP' := hP
  obtain ⟨m1', m5, n1', n8, hA, hb, hc⟩ := hP'
  have zb : ∀ K (j : Nat), Bc 1 K (z0 j) := fun K j => bc_0 _ _
  have wrb : ∀ {K k : Nat} {F : (Nat → UInt64)}, (∀ j, j < k → Bc 1 K (F j)) → ∀ j, Bc 1 K (wr k F z0 j) := fun {K k F} hF j => by
    unfold wr
    split
    · next q => exact hF j q
    · exact zb _ _
  have rayb : ∀ {T : (Nat → Nat → UInt64)} {R : (Nat → UInt64)} {B : Nat → Nat} {col : Nat}, TB m n T R B → col < n → ∀ j, Bc 1 1114 (rayX T B m n col z0 j) := by
    intro T R B col hT hcol
    have go : ∀ k, k ≤ m → ∀ j, Bc 1 1114 (fd (rayB T B n col) k (vf_upd z0 col FP.dconst1) j) := by
      intro k
      induction k with
      | zero =>
        intro _ j
        show Bc 1 1114 (vf_upd z0 col FP.dconst1 j)
        unfold vf_upd
        split
        · exact b_1.k (by decide)
        · exact zb _ _
      | succ k ih =>
        intro hk j
        show Bc 1 1114 (rayB T B n col k _ j)
        unfold rayB
        split
        · unfold vf_upd
          split
          · exact ((hT k (by omega)).1 col (by omega)).neg
          · exact ih (by omega) j
        · exact ih (by omega) j
    exact go m (Nat.le_refl _)
  have solb : ∀ {T : (Nat → Nat → UInt64)} {R : (Nat → UInt64)} {B : Nat → Nat}, TB m n T R B → ∀ j, Bc 1 1114 (solX R B m n z0 j) := by
    intro T R B hT
    have go : ∀ k, k ≤ m → ∀ j, Bc 1 1114 (fd (solB R B n) k z0 j) := by
      intro k
      induction k with
      | zero => intro _ j; exact zb _ _
      | succ k ih =>
        intro hk j
        show Bc 1 1114 (solB R B n k _ j)
        unfold solB
        split
        · unfold vf_upd
          split
          · exact (hT k (by omega)).2.1
          · exact ih (by omega) j
        · exact ih (by omega) j
    exact go m (Nat.le_refl _)
  have effb : ∀ {cost : (Nat → UInt64)} {sec : Int32} {T : (Nat → Nat → UInt64)} {R : (Nat → UInt64)} {B : Nat → Nat} {s0 k : Nat} {h : Int32}, PhTo m n cost sec T R B s0 k h → eff s0 k h ≤ 200 := by
    intro cost sec T R B s0 k h p
    have := p.2.1
    unfold eff
    split
    · next q => have := q.2; omega
    · exact this
  have howb : ∀ {cost : (Nat → UInt64)} {sec : Int32} {T : (Nat → Nat → UInt64)} {R : (Nat → UInt64)} {B : Nat → Nat} {s0 k : Nat} {h : Int32}, PhTo m n cost sec T R B s0 k h → ¬ h = 6 → h = 2 ∨ h = 3 := by
    intro cost sec T R B s0 k h p h6
    rcases p.2.2 with ⟨q, -⟩ | ⟨q, -⟩ | ⟨q, -⟩
    · exact absurd q h6
    · exact Or.inl q
    · exact Or.inr q
  have colb : ∀ {cost : (Nat → UInt64)} {sec : Int32} {T : (Nat → Nat → UInt64)} {R : (Nat → UInt64)} {B : Nat → Nat} {s0 k : Nat}, PhTo m n cost sec T R B s0 k 2 → (kCol m n cost sec T R B k).toNatClampNeg < n := by
    intro cost sec T R B s0 k p
    rcases p.2.2 with ⟨q, -⟩ | ⟨-, q, -⟩ | ⟨q, -⟩
    · exact absurd q i32_623.2.1
    · obtain ⟨j, hj, ej⟩ := nn_of_nonneg (colF_ok n8) q
      have ej : kCol m n cost sec T R B k = nI j := ej
      rw [ej, nI_clamp (by omega)]
      exact hj
    · exact absurd q i32_623.2.2.2.2.2
  obtain ⟨k1, h1, p1, h⟩ := h
  have tm := ph_tame m5 n8 (tb0 hP) k1 p1.1
  rcases h with ⟨a1, a2, a3, a4, a5, a6, a7⟩ | ⟨a1, a2, a3, a4, a5, a6, a7⟩ | ⟨a1, a2, T1, R1, B1, rfl, rfl, rfl, k2, h2, p2, a3⟩
  · subst a2 a3 a6 a7
    refine ⟨⟨fun j => ⟨?_, zb _ _⟩, zb _⟩, effb p1, Or.inr (Or.inr (howb p1 a1))⟩
    by_cases e : how = 2
    · rw [a5 e]
      subst e
      exact rayb tm (colb p1) j
    · rw [a4 e]
      exact zb _ _
  · subst a1 a3 a4 a5 a6 a7
    have := p1.2.1
    exact ⟨⟨fun j => ⟨zb _ _, zb _ _⟩, wrb fun i hi => yS_bc m5 tm (cb1 m n) hi⟩, by omega, Or.inr (Or.inl rfl)⟩
  · have tm2 := ph_tame m5 n8 tm k2 p2.1
    rcases a3 with ⟨c1, c2, c3, c4, c5, c6, c7⟩ | ⟨c1, c2, c3, c4, c5, c6⟩
    · subst c2 c3 c6 c7
      refine ⟨⟨fun j => ⟨?_, zb _ _⟩, zb _⟩, effb p2, Or.inr (Or.inr (howb p2 c1))⟩
      by_cases e : how = 2
      · rw [c5 e]
        subst e
        exact rayb tm2 (colb p2) j
      · rw [c4 e]
        exact zb _ _
    · subst c1 c2 c3 c4 c5 c6
      have := p2.2.1
      refine ⟨⟨fun j => ⟨solb tm2 j, wrb (fun j hj => ?_) j⟩, wrb fun i hi => yS_bc m5 tm2 (cb2 hP) hi⟩, by omega, Or.inl rfl⟩
      exact (okS_bc (K := 1169) (by omega) (by decide) (fun i hi => mul_bc (hA i hi j hj) (yS_bc m5 tm2 (cb2 hP) hi) (by decide) (by decide)) ((hc j hj).k (by decide))).2
