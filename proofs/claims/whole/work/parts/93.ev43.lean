/-! reading: the class's parse, step by step -/
theorem cp_size1 {L : Nat} {ch : Nat → Int32} {ra rf rd : Int32} {rv : UInt64} {rn rfa fr fv : Int32} {fa : (Nat → Nat → UInt64)} {fb fc : (Nat → UInt64)} {u : Int32 × Int32 × Int32 × Int32 × UInt64 × Int32 × Int32} (e : s_Tr_parseWhole (nI L) ra rf rd rv rn rfa ch 5 = some u) (h : u.1 = 0) : Ok (s_Tr_parseSize (nI L) ra rf rd rv rn rfa ch fr fv fa fb fc) (fun r => r.1 = 0 ∧ r.2.2.2.2.2.2.1 = u.2.2.2.2.2.2) := by
  unfold s_Tr_parseSize
  rw [e]
  simp only [Option.bind_some, h, ↓reduceIte]
  exact Ok.mk ⟨rfl, rfl⟩
theorem cp_size2 {L : Nat} {ch : Nat → Int32} {ra rf rd : Int32} {rv : UInt64} {rn rfa fr fv : Int32} {fa : (Nat → Nat → UInt64)} {fb fc : (Nat → UInt64)} {u w : Int32 × Int32 × Int32 × Int32 × UInt64 × Int32 × Int32} (e : s_Tr_parseWhole (nI L) ra rf rd rv rn rfa ch 5 = some u) (h : u.1 = 1) (e2 : s_Tr_parseWhole (nI L) u.2.1 u.2.2.1 u.2.2.2.1 u.2.2.2.2.1 u.2.2.2.2.2.1 u.2.2.2.2.2.2 ch 8 = some w) (h2 : w.1 = 0) : Ok (s_Tr_parseSize (nI L) ra rf rd rv rn rfa ch fr fv fa fb fc) (fun r => r.1 = 0 ∧ r.2.2.2.2.2.2.1 = w.2.2.2.2.2.2) := by
  unfold s_Tr_parseSize
  rw [e]
  simp only [Option.bind_some, h, if_neg i32_10]
  rw [e2]
  simp only [Option.bind_some, h2, ↓reduceIte]
  exact Ok.mk ⟨rfl, rfl⟩
theorem cp_size3 {L M N : Nat} {ch : Nat → Int32} {ra rf rd : Int32} {rv : UInt64} {rn rfa fr fv : Int32} {fa : (Nat → Nat → UInt64)} {fb fc : (Nat → UInt64)} {u w : Int32 × Int32 × Int32 × Int32 × UInt64 × Int32 × Int32} (e : s_Tr_parseWhole (nI L) ra rf rd rv rn rfa ch 5 = some u) (h : u.1 = 1) (e2 : s_Tr_parseWhole (nI L) u.2.1 u.2.2.1 u.2.2.2.1 u.2.2.2.2.1 u.2.2.2.2.2.1 u.2.2.2.2.2.2 ch 8 = some w) (h2 : w.1 = 1) (hu : u.2.2.2.2.1 = FP.i2d (nI M)) (hw : w.2.2.2.2.1 = FP.i2d (nI N)) : Ok (s_Tr_parseSize (nI L) ra rf rd rv rn rfa ch fr fv fa fb fc) (fun r => r.1 = 1 ∧ r.2.1 = w.2.1 ∧ r.2.2.2.2.2.1 = w.2.2.2.2.2.1 ∧ r.2.2.2.2.2.2.1 = w.2.2.2.2.2.2 ∧ r.2.2.2.2.2.2.2.1 = nI M ∧ r.2.2.2.2.2.2.2.2.1 = nI N ∧ r.2.2.2.2.2.2.2.2.2.1 = wr 5 (fun i => wr 8 (fun _ => FP.dconst0) (fa i)) fa) := by
  unfold s_Tr_parseSize
  rw [e]
  simp only [Option.bind_some, h, if_neg i32_10]
  rw [e2]
  simp only [Option.bind_some, h2, if_neg i32_10, e_clear, hu, hw, d2i_n]
  exact Ok.mk ⟨rfl, rfl, rfl, rfl, rfl, rfl, rfl⟩
theorem cp_1 {L : Nat} {ch : Nat → Int32} {ra rf rd : Int32} {rv : UInt64} {rn rfa fr fv : Int32} {fa : (Nat → Nat → UInt64)} {fb fc : (Nat → UInt64)} {q : Int32} (h : Ok (s_Tr_parseSize (nI L) 0 rf rd rv 0 (-2) ch fr fv fa fb fc) (fun r => r.1 = 0 ∧ r.2.2.2.2.2.2.1 = q)) : Ok (s_Tr_parse (nI L) ra rf rd rv rn rfa ch fr fv fa fb fc) (fun r => r.1 = 0 ∧ r.2.2.2.2.2.2.1 = q) := by
  unfold s_Tr_parse
  refine Ok.bind h ?_
  rintro u ⟨h1, h2⟩
  rw [if_pos h1]
  exact Ok.mk ⟨rfl, h2⟩
theorem cp_2 {L p M N : Nat} {ch : Nat → Int32} {ra rf rd : Int32} {rv : UInt64} {rn rfa fr fv rn1 : Int32} {fa fa1 : (Nat → Nat → UInt64)} {fb fc : (Nat → UInt64)} {Q : _ → Prop} (h : Ok (s_Tr_parseSize (nI L) 0 rf rd rv 0 (-2) ch fr fv fa fb fc) (fun r => r.1 = 1 ∧ r.2.1 = nI p ∧ r.2.2.2.2.2.1 = rn1 ∧ r.2.2.2.2.2.2.1 = -2 ∧ r.2.2.2.2.2.2.2.1 = nI M ∧ r.2.2.2.2.2.2.2.2.1 = nI N ∧ r.2.2.2.2.2.2.2.2.2.1 = fa1))
    (k : ∀ rf rd rv fb fc, Ok ((s_Tr_parseList 8 (nI L) (nI p) rf rd rv rn1 (-2) ch fc (nI N)).bind fun u5 => if u5.1 = 0 then (s_Tr_parse_J76 (nI L) u5.2.1 u5.2.2.1 u5.2.2.2.1 u5.2.2.2.2.1 u5.2.2.2.2.2.1 u5.2.2.2.2.2.2.1 ch (nI M) (nI N) fa1 fb u5.2.2.2.2.2.2.2) else ((s_Tr_parseList 5 (nI L) u5.2.1 u5.2.2.1 u5.2.2.2.1 u5.2.2.2.2.1 u5.2.2.2.2.2.1 u5.2.2.2.2.2.2.1 ch fb (nI M)).bind fun u8 => if u8.1 = 0 then (s_Tr_parse_J76 (nI L) u8.2.1 u8.2.2.1 u8.2.2.2.1 u8.2.2.2.2.1 u8.2.2.2.2.2.1 u8.2.2.2.2.2.2.1 ch (nI M) (nI N) fa1 u8.2.2.2.2.2.2.2 u5.2.2.2.2.2.2.2) else ((s_Tr_parseEntries (nI L) u8.2.1 u8.2.2.1 u8.2.2.2.1 u8.2.2.2.2.1 u8.2.2.2.2.2.1 u8.2.2.2.2.2.2.1 ch (nI M) (nI N) fa1).bind fun u11 => if u11.1 = 0 then (s_Tr_parse_J76 (nI L) u11.2.1 u11.2.2.1 u11.2.2.2.1 u11.2.2.2.2.1 u11.2.2.2.2.2.1 u11.2.2.2.2.2.2.1 ch (nI M) (nI N) u11.2.2.2.2.2.2.2 u8.2.2.2.2.2.2.2 u5.2.2.2.2.2.2.2) else (gd (isb 1) <| some (1, u11.2.1, u11.2.2.1, u11.2.2.2.1, u11.2.2.2.2.1, u11.2.2.2.2.2.1, u11.2.2.2.2.2.2.1, nI M, nI N, u11.2.2.2.2.2.2.2, u8.2.2.2.2.2.2.2, u5.2.2.2.2.2.2.2))))) Q) :
    Ok (s_Tr_parse (nI L) ra rf rd rv rn rfa ch fr fv fa fb fc) Q := by
  unfold s_Tr_parse
  refine Ok.bind h ?_
  rintro u ⟨h1, h2, h3, h4, h5, h6, h7⟩
  rw [h2, h3, h4, h5, h6, h7, if_neg (by rw [h1]; exact i32_10)]
  exact k _ _ _ _ _
theorem ar_clear {M N : Nat} {fa : (Nat → Nat → UInt64)} {na : (Nat → UInt64)} (h : ∀ k, k < 40 → na k = FP.dconst0) : AR M N (wr 5 (fun i => wr 8 (fun _ => FP.dconst0) (fa i)) fa) na := by
  intro i hi j hj
  have e1 : wr 5 (fun i => wr 8 (fun _ => FP.dconst0) (fa i)) fa i j = FP.dconst0 := by rw [wr_in hi, wr_in hj]
  rw [e1, h _ (by omega)]
  exact ⟨rfl, okn_0, fun _ => rfl⟩
theorem j_parse {L : Nat} {ch tx : Nat → Int32} (hL : L ≤ 300) (htx : ∀ p, p < L → tx p = ch p) :
    (∃ q, q ≤ L ∧ (∀ (ra rf rd : Int32) (rv : UInt64) (rn rfa fr fv : Int32) (fa : (Nat → Nat → UInt64)) (fb fc : (Nat → UInt64)), Ok (s_Tr_parse (nI L) ra rf rd rv rn rfa ch fr fv fa fb fc) (fun r => r.1 = 0 ∧ r.2.2.2.2.2.2.1 = nI q)) ∧
     (∀ (m n : Nat) (vw ve vt vs vo v2 vnm vnn : Int32) (vnu : UInt64) (na nb nc : (Nat → UInt64)), Ok (s_M_readAll (nI m) (nI n) (nI L) vw ve vt 0 vs vo v2 vnm vnn vnu 0 tx na nb nc) (fun r => r.2.1 = nI q ∧ r.2.2.2.2.2.2.1 = 1))) ∨
    (∃ (M N : Nat) (c : Int32) (vb vc : (Nat → UInt64)), 1 ≤ M ∧ M ≤ 5 ∧ 1 ≤ N ∧ N ≤ 8 ∧ (∀ i, i < M → okn (vb i)) ∧ (∀ j, j < N → okn (vc j)) ∧ ∀ (fa : (Nat → Nat → UInt64)) (na : (Nat → UInt64)), (∀ k, k < 40 → na k = FP.dconst0) → ∃ fa' na', AR M N fa' na' ∧
     (∀ (ra rf rd : Int32) (rv : UInt64) (rn rfa fr fv : Int32) (fb fc : (Nat → UInt64)), Ok (s_Tr_parse (nI L) ra rf rd rv rn rfa ch fr fv fa fb fc) (fun r => r.1 = 1 ∧ r.2.2.2.2.2.1 = c ∧ r.2.2.2.2.2.2.1 = -2 ∧ r.2.2.2.2.2.2.2.1 = nI M ∧ r.2.2.2.2.2.2.2.2.1 = nI N ∧ r.2.2.2.2.2.2.2.2.2.1 = fa' ∧ (∀ i, i < M → r.2.2.2.2.2.2.2.2.2.2.1 i = vb i) ∧ (∀ j, j < N → r.2.2.2.2.2.2.2.2.2.2.2 j = vc j))) ∧
     (∀ (m n : Nat) (vw ve vt vs vo v2 vnm vnn : Int32) (vnu : UInt64) (nb nc : (Nat → UInt64)), Ok (s_M_readAll (nI m) (nI n) (nI L) vw ve vt 0 vs vo v2 vnm vnn vnu 0 tx na nb nc) (fun r => r.1 = c ∧ r.2.1 = vw ∧ r.2.2.2.1 = nI M ∧ r.2.2.2.2.1 = nI N ∧ r.2.2.2.2.2.2.1 = 0 ∧ r.2.2.2.2.2.2.2.1 = na' ∧ (∀ i, i < M → r.2.2.2.2.2.2.2.2.1 i = vb i) ∧ (∀ j, j < N → r.2.2.2.2.2.2.2.2.2 j = vc j)))) := by
  rcases j_whole (p := 0) (K := 5) hL (Nat.zero_le _) htx (by omega) with ⟨q, hq, c, r⟩ | ⟨q1, M, hq1, hq1L, hM1, hM5, c1, r1⟩
  · left
    refine ⟨q, hq, fun ra rf rd rv rn rfa fr fv fa fb fc => ?_, fun m n vw ve vt vs vo v2 vnm vnn vnu na nb nc => ?_⟩
    · obtain ⟨u, e, h1, h2⟩ := c rf rd rv 0 (-2)
      rw [← h2]
      exact cp_1 (cp_size1 e h1)
    · unfold s_M_readAll
      obtain ⟨u, e, h1, h2⟩ := r m n vw ve vt vs vo v2 vnm vnn vnu
      rw [i2d_5, show s_M_next (nI m) (nI n) (nI L) vw ve vt 0 vs vo v2 vnm vnn vnu 0 tx 1 FP.dconst1 (FP.i2d (nI 5)) = some u from e]
      simp only [Option.bind_some, h1, h2]
      rw [next_bad]
      simp only [Option.bind_some]
      exact rl_40b _ _ _ _ _ _ _ _ _ _ _ _ _ _
  · rcases j_whole (K := 8) hL hq1L htx (by omega) with ⟨q, hq, c, r⟩ | ⟨q2, N, hq2, hq2L, hN1, hN8, c2, r2⟩
    · left
      refine ⟨q, hq, fun ra rf rd rv rn rfa fr fv fa fb fc => ?_, fun m n vw ve vt vs vo v2 vnm vnn vnu na nb nc => ?_⟩
      · obtain ⟨u, e, h1, h2, h3, h4, h5⟩ := c1 rf rd rv 0 (-2)
        obtain ⟨w, e', k1, k2⟩ := c u.2.2.1 u.2.2.2.1 u.2.2.2.2.1 u.2.2.2.2.2.1 u.2.2.2.2.2.2
        rw [← h2] at e'
        rw [← k2]
        exact cp_1 (cp_size2 e h1 e' k1)
      · unfold s_M_readAll
        rw [i2d_5, show s_M_next (nI m) (nI n) (nI L) vw ve vt 0 vs vo v2 vnm vnn vnu 0 tx 1 FP.dconst1 (FP.i2d (nI 5)) = _ from r1 m n vw ve vt vs vo v2 vnm vnn vnu]
        simp only [Option.bind_some]
        obtain ⟨u, e, h1, h2⟩ := r m n vw ve vt vs vo v2 (FP.d2i (FP.i2d (nI M))) vnn (FP.i2d (nI M))
        rw [i2d_8, e]
        simp only [Option.bind_some, h1, h2]
        exact rl_40b _ _ _ _ _ _ _ _ _ _ _ _ _ _
    · have C2 : ∀ (rf rd : Int32) (rv : UInt64) (fr fv : Int32) (fa : (Nat → Nat → UInt64)) (fb fc : (Nat → UInt64)), Ok (s_Tr_parseSize (nI L) 0 rf rd rv 0 (-2) ch fr fv fa fb fc) (fun r => r.1 = 1 ∧ r.2.1 = nI q2 ∧ r.2.2.2.2.2.1 = 2 ∧ r.2.2.2.2.2.2.1 = -2 ∧ r.2.2.2.2.2.2.2.1 = nI M ∧ r.2.2.2.2.2.2.2.2.1 = nI N ∧ r.2.2.2.2.2.2.2.2.2.1 = wr 5 (fun i => wr 8 (fun _ => FP.dconst0) (fa i)) fa) := by
        intro rf rd rv fr fv fa fb fc
        obtain ⟨u, e, h1, h2, h3, h4, h5⟩ := c1 rf rd rv 0 (-2)
        obtain ⟨w, e', k1, k2, k3, k4, k5⟩ := c2 u.2.2.1 u.2.2.2.1 u.2.2.2.2.1 u.2.2.2.2.2.1 u.2.2.2.2.2.2
        rw [← h2] at e'
        refine (cp_size3 e h1 e' k1 h3 k3).imp ?_
        rintro r ⟨a1, a2, a3, a4, a5, a6, a7⟩
        exact ⟨a1, by rw [a2, k2], by rw [a3, k4, h4]; rfl, by rw [a4, k5, h5], a5, a6, a7⟩
      have R2 : ∀ (m n : Nat) (vw ve vt vs vo v2 vnm vnn : Int32) (vnu : UInt64) (na nb nc : (Nat → UInt64)), s_M_readAll (nI m) (nI n) (nI L) vw ve vt 0 vs vo v2 vnm vnn vnu 0 tx na nb nc = s_M_readAll_L40 (nI m) (nI n) (nI L) vw ve vt (nI q2) vs vo v2 (nI M) (nI N) (FP.i2d (nI N)) 0 tx na nb nc 2 0 := by
        intro m n vw ve vt vs vo v2 vnm vnn vnu na nb nc
        unfold s_M_readAll
        rw [i2d_5, show s_M_next (nI m) (nI n) (nI L) vw ve vt 0 vs vo v2 vnm vnn vnu 0 tx 1 FP.dconst1 (FP.i2d (nI 5)) = _ from r1 m n vw ve vt vs vo v2 vnm vnn vnu]
        simp only [Option.bind_some]
        rw [i2d_8, r2 m n vw ve vt vs vo v2 (FP.d2i (FP.i2d (nI M))) vnn (FP.i2d (nI M))]
        simp only [Option.bind_some, d2i_n]
      rcases k_list (N := N) (A := 8) hL htx hN8 (Nat.le_refl _) q2 hq2L with ⟨q, hq, c, r⟩ | ⟨q3, vc, hq3L, hvc, c3, r3⟩
      · left
        refine ⟨q, hq, fun ra rf rd rv rn rfa fr fv fa fb fc => cp_2 (C2 rf rd rv fr fv fa fb fc) fun rf rd rv fb fc => ?_, fun m n vw ve vt vs vo v2 vnm vnn vnu na nb nc => ?_⟩
        · refine Ok.bind (c rf rd rv 2 (-2) fc) ?_
          rintro u ⟨u1, u2⟩
          rw [if_pos u1]
          exact Ok.mk ⟨rfl, u2⟩
        · rw [R2]
          unfold s_M_readAll_L40
          refine Ok.bind (r m n vw ve vt vs vo v2 (nI M) (nI N) (FP.i2d (nI N)) nc 2) ?_
          rintro u ⟨u1, u2⟩
          rw [u1, u2]
          exact rl_87b _ _ _ _ _ _ _ _ _ _ _ _ _ _
      · rcases k_list (N := M) (A := 5) hL htx hM5 (by omega) q3 hq3L with ⟨q, hq, c, r⟩ | ⟨q4, vb, hq4L, hvb, c4, r4⟩
        · left
          refine ⟨q, hq, fun ra rf rd rv rn rfa fr fv fa fb fc => cp_2 (C2 rf rd rv fr fv fa fb fc) fun rf rd rv fb fc => ?_, fun m n vw ve vt vs vo v2 vnm vnn vnu na nb nc => ?_⟩
          · refine Ok.bind (c3 rf rd rv 2 (-2) fc) ?_
            rintro u ⟨u1, u2, u3, u4, u5⟩
            rw [if_neg (by rw [u1]; exact i32_10), u2]
            refine Ok.bind (c _ _ _ _ _ fb) ?_
            rintro w ⟨w1, w2⟩
            rw [if_pos w1]
            exact Ok.mk ⟨rfl, w2⟩
          · rw [R2]
            unfold s_M_readAll_L40
            refine Ok.bind (r3 m n vw ve vt vs vo v2 (nI M) (nI N) (FP.i2d (nI N)) nc 2) ?_
            rintro u ⟨u1, u2, u3, u4, u5⟩
            rw [u1, u2, u3]
            unfold s_M_readAll_J85 s_M_readAll_L87
            refine Ok.bind (r m n vw ve vt vs vo v2 (nI M) (nI N) _ nb _) ?_
            rintro w ⟨w1, w2⟩
            rw [w1, w2]
            exact rl_132b _ _ _ _ _ _ _ _ _ _ _ _ _ _
        · have C4 : ∀ (rf rd : Int32) (rv : UInt64) (fa1 : (Nat → Nat → UInt64)) (fb fc : (Nat → UInt64)) (Q : _ → Prop), (∀ (rf rd : Int32) (rv : UInt64) (fb fc : (Nat → UInt64)), (∀ i, i < M → fb i = vb i) → (∀ j, j < N → fc j = vc j) → Ok ((s_Tr_parseEntries (nI L) (nI q4) rf rd rv (2 + nI N + nI M) (-2) ch (nI M) (nI N) fa1).bind fun u11 => if u11.1 = 0 then (s_Tr_parse_J76 (nI L) u11.2.1 u11.2.2.1 u11.2.2.2.1 u11.2.2.2.2.1 u11.2.2.2.2.2.1 u11.2.2.2.2.2.2.1 ch (nI M) (nI N) u11.2.2.2.2.2.2.2 fb fc) else (gd (isb 1) <| some (1, u11.2.1, u11.2.2.1, u11.2.2.2.1, u11.2.2.2.2.1, u11.2.2.2.2.2.1, u11.2.2.2.2.2.2.1, nI M, nI N, u11.2.2.2.2.2.2.2, fb, fc))) Q) →
              Ok ((s_Tr_parseList 8 (nI L) (nI q2) rf rd rv 2 (-2) ch fc (nI N)).bind fun u5 => if u5.1 = 0 then (s_Tr_parse_J76 (nI L) u5.2.1 u5.2.2.1 u5.2.2.2.1 u5.2.2.2.2.1 u5.2.2.2.2.2.1 u5.2.2.2.2.2.2.1 ch (nI M) (nI N) fa1 fb u5.2.2.2.2.2.2.2) else ((s_Tr_parseList 5 (nI L) u5.2.1 u5.2.2.1 u5.2.2.2.1 u5.2.2.2.2.1 u5.2.2.2.2.2.1 u5.2.2.2.2.2.2.1 ch fb (nI M)).bind fun u8 => if u8.1 = 0 then (s_Tr_parse_J76 (nI L) u8.2.1 u8.2.2.1 u8.2.2.2.1 u8.2.2.2.2.1 u8.2.2.2.2.2.1 u8.2.2.2.2.2.2.1 ch (nI M) (nI N) fa1 u8.2.2.2.2.2.2.2 u5.2.2.2.2.2.2.2) else ((s_Tr_parseEntries (nI L) u8.2.1 u8.2.2.1 u8.2.2.2.1 u8.2.2.2.2.1 u8.2.2.2.2.2.1 u8.2.2.2.2.2.2.1 ch (nI M) (nI N) fa1).bind fun u11 => if u11.1 = 0 then (s_Tr_parse_J76 (nI L) u11.2.1 u11.2.2.1 u11.2.2.2.1 u11.2.2.2.2.1 u11.2.2.2.2.2.1 u11.2.2.2.2.2.2.1 ch (nI M) (nI N) u11.2.2.2.2.2.2.2 u8.2.2.2.2.2.2.2 u5.2.2.2.2.2.2.2) else (gd (isb 1) <| some (1, u11.2.1, u11.2.2.1, u11.2.2.2.1, u11.2.2.2.2.1, u11.2.2.2.2.2.1, u11.2.2.2.2.2.2.1, nI M, nI N, u11.2.2.2.2.2.2.2, u8.2.2.2.2.2.2.2, u5.2.2.2.2.2.2.2))))) Q := by
            intro rf rd rv fa1 fb fc Q k
            refine Ok.bind (c3 rf rd rv 2 (-2) fc) ?_
            rintro u ⟨u1, u2, u3, u4, u5⟩
            rw [if_neg (by rw [u1]; exact i32_10), u2]
            refine Ok.bind (c4 _ _ _ _ _ fb) ?_
            rintro w ⟨w1, w2, w3, w4, w5⟩
            rw [if_neg (by rw [w1]; exact i32_10), w2, w3, w4, u3, u4]
            exact k _ _ _ _ _ w5 u5
          have R4 : ∀ (m n : Nat) (vw ve vt vs vo v2 : Int32) (na nb nc : (Nat → UInt64)) (Q : _ → Prop), (∀ (vnu : UInt64) (nb nc : (Nat → UInt64)), (∀ i, i < M → nb i = vb i) → (∀ j, j < N → nc j = vc j) → Ok (s_M_readAll_J132 (nI m) (nI n) (nI L) vw ve vt (nI q4) vs vo v2 (nI M) (nI N) vnu 0 tx na nb nc (2 + nI N + nI M)) Q) → Ok (s_M_readAll_L40 (nI m) (nI n) (nI L) vw ve vt (nI q2) vs vo v2 (nI M) (nI N) (FP.i2d (nI N)) 0 tx na nb nc 2 0) Q := by
            intro m n vw ve vt vs vo v2 na nb nc Q k
            unfold s_M_readAll_L40
            refine Ok.bind (r3 m n vw ve vt vs vo v2 (nI M) (nI N) (FP.i2d (nI N)) nc 2) ?_
            rintro u ⟨u1, u2, u3, u4, u5⟩
            rw [u1, u2, u3]
            unfold s_M_readAll_J85 s_M_readAll_L87
            refine Ok.bind (r4 m n vw ve vt vs vo v2 (nI M) (nI N) _ nb _) ?_
            rintro w ⟨w1, w2, w3, w4, w5⟩
            rw [w1, w2, w3, w5, u5]
            exact k _ _ _ w4 u4
          rcases k_entries (M := M) (N := N) hL htx hM5 hN8 q4 hq4L with ⟨q, hq, c, r⟩ | ⟨cc, hh⟩
          · left
            refine ⟨q, hq, fun ra rf rd rv rn rfa fr fv fa fb fc => cp_2 (C2 rf rd rv fr fv fa fb fc) fun rf rd rv fb fc => C4 rf rd rv _ fb fc _ fun rf rd rv fb fc _ _ => ?_, fun m n vw ve vt vs vo v2 vnm vnn vnu na nb nc => ?_⟩
            · refine Ok.bind (c _ _ _ _ _ _) ?_
              rintro u ⟨u1, u2⟩
              rw [if_pos u1]
              exact Ok.mk ⟨rfl, u2⟩
            · rw [R2]
              exact R4 m n vw ve vt vs vo v2 na nb nc _ fun vnu nb nc _ _ => r m n vw ve vt vs vo v2 vnu na nb nc _
          · right
            refine ⟨M, N, 2 + nI N + nI M + cc, vb, vc, hM1, hM5, hN1, hN8, hvb, hvc, fun fa na hna => ?_⟩
            obtain ⟨fa', na', ha', c, r⟩ := hh _ _ (ar_clear (fa := fa) hna)
            refine ⟨fa', na', ha', fun ra rf rd rv rn rfa fr fv fb fc => cp_2 (C2 rf rd rv fr fv fa fb fc) fun rf rd rv fb fc => C4 rf rd rv _ fb fc _ fun rf rd rv fb fc hb hc => ?_, fun m n vw ve vt vs vo v2 vnm vnn vnu nb nc => ?_⟩
            · refine Ok.bind (c _ _ _ _ _) ?_
              rintro u ⟨u1, u2, u3, u4⟩
              rw [if_neg (by rw [u1]; exact i32_10)]
              exact Ok.mk ⟨rfl, u2, u3, rfl, rfl, u4, hb, hc⟩
            · rw [R2]
              refine R4 m n vw ve vt vs vo v2 na nb nc _ fun vnu nb nc hb hc => (r m n vw ve vt vs vo v2 vnu nb nc _).imp ?_
              rintro w ⟨w1, w2, w3, w4, w5, w6, w7, w8⟩
              exact ⟨w1, w2, w3, w4, w5, w6, by rw [w7]; exact hb, by rw [w8]; exact hc⟩
