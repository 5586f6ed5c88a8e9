/-! simplex and interior: class and reference together -/
def SxPost (M N : Nat) (u1 u2 u3 : Int32) (px ps py : (Nat → UInt64)) (w1 w2 w3 w4 : Int32) (mx ms my : (Nat → UInt64)) : Prop := w1 = u1 ∧ u2 = 1 ∧ w4 = 1 ∧ w2 = u3 ∧ w3 = 0 ∧ IX M N px ps py mx ms my
theorem j_simplex {M N : Nat} {a : (Nat → Nat → UInt64)} {b c ma mb mc r0 v0 px ps py : (Nat → UInt64)} {a2 : (Nat → Nat → UInt64)} {b2 c2 sx ss sy : (Nat → UInt64)} {tb : (Nat → Nat → UInt64)} {ri co : (Nat → UInt64)} {ba : Nat → Int32} {rs cs sa sb sc' mx ms my t mco : (Nat → UInt64)} {mba tu : Nat → Int32} (sc pt ef fa w1 w2 w3 w4 R2 V2 : Int32) (vl vw ve vt va vo v2 vnm vnn : Int32) (vnu : UInt64) (vb : Int32) (hI : IP M N a b c ma mb mc) :
    Ok (s_C_simplex sc pt ef fa (nI M) (nI N) a b c r0 v0 px ps py w1 w2 w3 w4 R2 V2 a2 b2 c2 sx ss sy tb ri co ba) (fun u => Ok (s_M_simplex (nI M) (nI N) vl vw ve vt va sc vo v2 vnm vnn vnu vb ma mb mc rs cs sa sb sc' mx ms my t mco mba tu) (fun w => SxPost M N u.1 u.2.1 u.2.2.1 u.2.2.2.2.2.1 u.2.2.2.2.2.2.1 u.2.2.2.2.2.2.2.1 w.1 w.2.1 w.2.2.1 w.2.2.2.1 w.2.2.2.2.2.2.2.2.2.2.1 w.2.2.2.2.2.2.2.2.2.2.2.1 w.2.2.2.2.2.2.2.2.2.2.2.2.1)) := by
  have hP := hI.1
  obtain ⟨h1', h2', h3', h4', hA, -⟩ := id hP
  unfold s_C_simplex
  refine Ok.bind (e_measured hP) ?_
  intro q hq
  obtain ⟨A2, B2, C2, ea, h2a, h2b, h2c⟩ := e_applied (R2 := R2) (V2 := V2) (a2 := a2) (b2 := b2) (c2 := c2) hP hq
  rw [ea]
  simp only [Option.bind_some]
  have hS := spb_congr (spb_of (on := sc) hP) h2a h2b h2c
  refine Ok.bind (e_ssolve w1 w2 w3 w4 hS) ?_
  intro u5 ⟨e5, x, s, y, hs, h5, gx, gs, gy⟩
  obtain ⟨⟨bxs, bys⟩, -, -⟩ := hs.bc hS
  simp only [isb_1, gd_t]
  refine Ok.bind (e_unscaled hA h2' h4' hq (fun j hj => by rw [gx j hj, gs j hj]; exact ⟨(bxs j).1.k (by decide), (bxs j).2.k (by decide)⟩) (fun i hi => by rw [gy i hi]; exact (bys i).k (by decide))) ?_
  intro r ⟨⟨r1, r2, r3⟩, r4, r5⟩
  refine Ok.mk ?_
  refine (e_msimplex (mx := mx) (ms := ms) (my := my) vl vw ve vt va sc vo v2 vnm vnn vnu vb hP (fun i hi j hj => (hI.2.1 i (by omega) j (by omega)).1) hI.2.2.1 hI.2.2.2 h2a h2b h2c).imp ?_
  intro w ⟨e', x', s', y', hs', k1, k2, k3, kx, ks, ky⟩
  obtain ⟨u1, u2, u3, u4, u5'⟩ := hs.uniq hs'
  subst u2 u3 u4 u5'
  have px' : ∀ j, j < N → r.1 j = FP.dmul (tV sc a M N j) (x j) := fun j hj => by rw [r1 j hj, gx j (by omega)]
  have ps' : ∀ j, j < N → r.2.1 j = FP.ddiv (s j) (tV sc a M N j) := fun j hj => by rw [r2 j hj, gs j (by omega)]
  refine ⟨u1.symm, rfl, k3, k1.trans h5.symm, k2, ⟨r4, r5, ?_⟩, fun j hj => ⟨?_, ?_⟩, fun i hi => ?_⟩
  · have ok := okA_bc (K := 1254) (n := N) (f := fun j => FP.dmul (r.1 j) (r.2.1 j)) (z := FP.dconst0) h4' (by decide) (fun j hj => by
      rw [px' j hj, ps' j hj]
      exact mul_bc (M := 1254) (mul_bc (M := 1145) (tV_bc hA hj).1 (bxs j).1 (by decide) (by decide)) (div_bc (M := 1183) (bxs j).2 (tV_bc hA hj).1.fin (tV_bc hA hj).2 (by decide) (by decide)) (by decide) (by decide)) (bc_0 _ _)
    exact ⟨ok.1, ok.2.nn⟩
  · exact (kx j hj).trans (px' j hj).symm
  · exact (ks j hj).trans (ps' j hj).symm
  · refine (ky i hi).trans ?_
    dsimp only
    rw [r3 i hi, gy i (by omega)]
/-- what lies beyond the variables stays -/
theorem it_out {m n : Nat} {A : (Nat → Nat → UInt64)} {b c x s y : (Nat → UInt64)} : ∀ k, (∀ j, ¬ j < n → ix m n A b c x s y k j = x j ∧ is m n A b c x s y k j = s j) ∧ ∀ i, ¬ i < m → iy m n A b c x s y k i = y i := by
  intro k
  induction k with
  | zero => exact ⟨fun j _ => ⟨rfl, rfl⟩, fun i _ => rfl⟩
  | succ k ih =>
    refine ⟨fun j hj => ⟨?_, ?_⟩, fun i hi => ?_⟩
    · exact (wr_out hj).trans (ih.1 j hj).1
    · exact (wr_out hj).trans (ih.1 j hj).2
    · exact (wr_out hi).trans (ih.2 i hi)
def InPost (M N : Nat) (k pt' ef' : Int32) (px ps py : (Nat → UInt64)) (o : Nat → Int64) (w1 w2 w3 w4 : Int32) (mx ms my : (Nat → UInt64)) : Prop := w3 = k ∧ (k = 0 → lg_cmp (o 0) w1.toInt64 = 0) ∧ w2 = ef' ∧ w4 = pt' ∧ (pt' = 0 ∨ pt' = 1) ∧ (pt' = 1 → IX M N px ps py mx ms my)
theorem j_interior {M N : Nat} {a : (Nat → Nat → UInt64)} {b c ma mb mc r0 v0 px ps py : (Nat → UInt64)} {g0 : UInt64} {a2 : (Nat → Nat → UInt64)} {b2 c2 ipx ips ipy : (Nat → UInt64)} {e0 l0 : (Nat → Nat → UInt64)} {d0 m0 p0 dd0 h0 f0 rr0 X0 S0 Y0 : (Nat → UInt64)} {o : Nat → Int64} {rs cs sa sb sc' mx ms my p d h f mm lo di r big dt dx : (Nat → UInt64)} (sc pt ef fa tb0 R2 V2 : Int32) (vl vw vt va v2 vnm vnn : Int32) (vnu : UInt64) (vb x1 : Int32) (hpt : pt = 0 ∨ pt = 1) (hI : IP M N a b c ma mb mc) (hX : pt = 1 → IX M N px ps py mx ms my) :
    Ok (s_L_interior 1 sc pt ef fa (nI M) (nI N) a b c r0 v0 px ps py g0 tb0 R2 V2 a2 b2 c2 ipx ips ipy e0 l0 d0 m0 p0 dd0 h0 f0 rr0 X0 S0 Y0 o x1) (fun u => Ok (s_M_interior (nI M) (nI N) vl vw ef vt va sc pt v2 vnm vnn vnu vb ma mb mc rs cs sa sb sc' mx ms my p d h f mm lo di r big dt dx x1) (fun w => InPost M N u.1 u.2.1 u.2.2.1 u.2.2.2.2.2.1 u.2.2.2.2.2.2.1 u.2.2.2.2.2.2.2.1 u.2.2.2.2.2.2.2.2.2.2.2.2.2.2.2.2.2.2.2.2.2.2.2.2.2.2.2.2.2.2 w.1 w.2.1 w.2.2.1 w.2.2.2.1 w.2.2.2.2.2.2.2.2.2.1 w.2.2.2.2.2.2.2.2.2.2.1 w.2.2.2.2.2.2.2.2.2.2.2.1)) := by
  have hP := hI.1
  obtain ⟨h1', h2', h3', h4', hA, -⟩ := id hP
  have mbad : (x1 < 1 ∨ 100 < x1) → Ok (s_M_interior (nI M) (nI N) vl vw ef vt va sc pt v2 vnm vnn vnu vb ma mb mc rs cs sa sb sc' mx ms my p d h f mm lo di r big dt dx x1) (fun w => InPost M N 1 pt ef px ps py o w.1 w.2.1 w.2.2.1 w.2.2.2.1 w.2.2.2.2.2.2.2.2.2.1 w.2.2.2.2.2.2.2.2.2.2.1 w.2.2.2.2.2.2.2.2.2.2.2.1) := by
    intro hb
    unfold s_M_interior
    rw [e_in, if_pos hb]
    simp only [Option.bind_some, ↓reduceIte]
    unfold s_M_interior_J16
    rw [if_neg (by decide)]
    exact Ok.mk ⟨rfl, fun q => absurd q i32_10, rfl, rfl, hpt, hX⟩
  unfold s_L_interior s_C_interior
  by_cases q1' : x1 < 1
  · simp only [q1', ↓reduceIte, Option.bind_some, Sum.elim_inl]
    exact Ok.mk (mbad (Or.inl q1'))
  · by_cases q2' : x1 ≤ 100
    · obtain ⟨T, hT, rfl⟩ := nI_of2 (x := x1) (M := 100) (n := 100) rfl (ge1_nn q1') q2'
      have hT1 : 1 ≤ T := by
        have : ¬ nI T < nI 1 := q1'
        rw [nI_ltI (by omega) (by omega)] at this
        omega
      simp only [q1', q2', ↓reduceIte]
      obtain ⟨q, eq, hq⟩ := e_measured (r0 := r0) (v0 := v0) (on := sc) hP
      obtain ⟨A2, B2, C2, ea, h2a, h2b, h2c⟩ := e_applied (R2 := R2) (V2 := V2) (a2 := a2) (b2 := b2) (c2 := c2) hP hq
      have hS := spb_congr (spb_of (on := sc) hP) h2a h2b h2c
      have hInv := inv_itr hS
      have bx : Bc 1 1074 FP.dconst1 := b_1
      have z1 : 0 ≤ zv FP.dconst1 := by decide +kernel
      have hst : Itr M N (wr 8 (fun _ => FP.dconst1) ipx) (wr 8 (fun _ => FP.dconst1) ips) (wr 5 (fun _ => FP.dconst0) ipy) := by
        refine ⟨fun j hj => ?_, fun i hi => ?_⟩
        · rw [wr_in (show j < 8 by omega), wr_in (show j < 8 by omega)]
          exact ⟨bx.k (by decide), z1, bx.k (by decide), z1⟩
        · rw [wr_in (show i < 5 by omega)]
          exact bc_0 _ _
      obtain ⟨u, eu, k, how, run, f1, f2, f3, f4, f5⟩ := e_isolve g0 tb0 e0 l0 d0 m0 p0 dd0 h0 f0 rr0 X0 S0 Y0 h2' h4' hT hInv hst
      obtain ⟨w, ew, k', how', run', g1, g2⟩ := e_minterior (rs := rs) (cs := cs) (sa := sa) (sb := sb) (sc := sc') (mx := mx) (ms := ms) (my := my) (p := p) (d := d) (h := h) (f := f) (mm := mm) (lo := lo) (di := di) (r := r) (big := big) (dt := dt) (dx := dx) vl vw ef vt va sc pt v2 vnm vnn vnu vb hP (fun i hi j hj => (hI.2.1 i (by omega) j (by omega)).1) hI.2.2.1 hI.2.2.2 hT1 hT h2a h2b h2c hInv (back_itr h4' hA) hst (fun j hj => wr_in (show j < 8 by omega)) (fun j hj => wr_in (show j < 8 by omega)) (fun i hi => wr_in (show i < 5 by omega))
      obtain ⟨hk, hh⟩ := run.uniq run'
      subst hk hh
      simp only [eq, ea, Option.bind_some, eu]
      rw [ew]
      by_cases c5 : how = 5
      · subst c5
        have e5 : u.1 = 5 := f1
        rw [if_pos e5]
        unfold s_C_interior_J85
        rw [if_pos e5]
        simp +decide only [isb_0, gd_t, Option.bind_some, Sum.elim_inl, ↓reduceIte]
        rcases g2 with ⟨q5, -⟩ | ⟨-, q1, q2, q3⟩
        · exact absurd rfl q5
        · exact Ok.mk (Ok.mk ⟨q2, fun q => absurd q i32_123.2.1, g1.trans f2.symm, q3, Or.inl rfl, fun q => absurd q (show ¬ (0 : Int32) = 1 by decide)⟩)
      · have e5 : ¬ u.1 = 5 := by rw [f1]; exact c5
        rw [if_neg e5]
        unfold s_C_interior_J85
        rw [if_neg e5]
        have inv := it_inv hInv hst k run.1
        obtain ⟨out1, out2⟩ := it_out (m := M) (n := N) (A := A2) (b := B2) (c := C2) (x := wr 8 (fun _ => FP.dconst1) ipx) (s := wr 8 (fun _ => FP.dconst1) ips) (y := wr 5 (fun _ => FP.dconst0) ipy) k
        have hb8 : ∀ j, j < 8 → Bc 1 1927 (u.2.2.2.1 j) ∧ Bc 1 1856 (u.2.2.2.2.1 j) := fun j hj => by
          rw [f3, f4]
          by_cases cj : j < N
          · exact ⟨(inv.1 j cj).1, (inv.1 j cj).2.2.1⟩
          · rw [(out1 j cj).1, (out1 j cj).2, wr_in hj, wr_in hj]
            exact ⟨bx.k (by decide), bx.k (by decide)⟩
        have hb5 : ∀ i, i < 5 → Bc 1 1842 (u.2.2.2.2.2.1 i) := fun i hi => by
          rw [f5]
          by_cases ci : i < M
          · exact inv.2 i ci
          · rw [out2 i ci, wr_in hi]
            exact bc_0 _ _
        obtain ⟨v, ev, ⟨v1, v2', v3⟩, v4, v5⟩ := e_unscaled (x2 := px) (s2 := ps) (y2 := py) hA h2' h4' hq hb8 hb5
        simp only [isb_1, gd_t, ev, Option.bind_some, Sum.elim_inr, inb01, cl0]
        rcases g2 with ⟨-, q1, q2, q3, qx, qs, qy⟩ | ⟨q5, -⟩
        · obtain ⟨-, sv⟩ := sc_bc hA hq
          have vb1 : ∀ j, j < N → 0 ≤ zv (tV sc a M N j) ∧ FP.Core.DFin (tV sc a M N j) ∧ 0 < mz (tV sc a M N j) ∧ sg (tV sc a M N j) = false := fun j hj => by
            have e := hq.2 j (by omega)
            rw [if_pos hj] at e
            obtain ⟨s1, s2, s3⟩ := sv j (by omega)
            rw [e] at s1 s2 s3
            refine ⟨?_, s1.fin, Nat.lt_of_lt_of_le (Nat.two_pow_pos _) s2, s3⟩
            rw [zv_f s3]
            exact Int.natCast_nonneg _
          have nn1 : ∀ j, j < N → nnan (FP.dmul (v.1 j) (v.2.1 j)) ∧ 0 ≤ zv (FP.dmul (v.1 j) (v.2.1 j)) := fun j hj => by
            obtain ⟨t1, t2, t3, t4⟩ := vb1 j hj
            have a1 : 0 ≤ zv (v.1 j) := by
              rw [v1 j hj, f3]
              exact (mul_nn t2 (inv.1 j hj).1.fin (Or.inl ⟨t1, (inv.1 j hj).2.1⟩)).2
            have a2 : 0 ≤ zv (v.2.1 j) := by
              rw [v2' j hj, f4]
              exact (div_nn (inv.1 j hj).2.2.1.fin t2 t3 t4 (inv.1 j hj).2.2.2).2
            exact mul_nn (v4 j hj).1.fin (v4 j hj).2.fin (Or.inl ⟨a1, a2⟩)
          refine Ok.mk (Ok.mk ⟨q2, fun _ => ?_, g1.trans f2.symm, q3, Or.inr rfl, fun _ => ⟨⟨v4, v5, okA_nn nn1, (sums_nn nn1 N (Nat.le_refl _)).1⟩, fun j hj => ⟨?_, ?_⟩, fun i hi => ?_⟩⟩)
          · dsimp only
            rw [updL_at, f1, q1]
            exact lg_self _
          · rw [qx j hj]
            dsimp only
            rw [v1 j hj, f3]
          · rw [qs j hj]
            dsimp only
            rw [v2' j hj, f4]
          · rw [qy i hi]
            dsimp only
            rw [v3 i hi, f5]
        · exact absurd q5 c5
    · simp only [q1', q2', ↓reduceIte, Option.bind_some, Sum.elim_inl]
      exact Ok.mk (mbad (Or.inr (nle_lt q2')))
