/-! reading: entries -/
def AR (M N : Nat) (a : (Nat → Nat → UInt64)) (na : (Nat → UInt64)) : Prop := ∀ i, i < 5 → ∀ j, j < 8 → na (8 * i + j) = a i j ∧ okn (a i j) ∧ (¬ (i < M ∧ j < N) → a i j = FP.dconst0)
theorem AR.upd {M N : Nat} {a : (Nat → Nat → UInt64)} {na : (Nat → UInt64)} {i j : Nat} {v : UInt64} (h : AR M N a na) (hv : okn v) (hi : i < M) (hjN : j < N) (hN : N ≤ 8) : AR M N (gset a i (vf_upd (a i) j v)) (vf_upd na (8 * i + j) v) := by
  intro i' hi' j' hj'
  by_cases e : i' = i
  · subst e
    rw [gset_at]
    by_cases e2 : j' = j
    · subst e2
      rw [upd_at, upd_at]
      exact ⟨rfl, hv, fun q => absurd ⟨hi, hjN⟩ q⟩
    · rw [upd_ne e2, upd_ne (by omega)]
      exact h i' hi' j' hj'
  · rw [gset_ne e, upd_ne (by omega)]
    exact h i' hi' j' hj'
theorem d2i_n (V : Nat) : FP.d2i (FP.i2d (nI V)) = nI V := FP.Core.d2i_i2d (nI V)
theorem rE_stop {m n L p : Nat} {tx : Nat → Int32} {ve vt vs vo v2 vnm vnn vw : Int32} {vnu : UInt64} {na nb nc : (Nat → UInt64)} {x1 : Int32} (h : L ≤ p) (hp : p ≤ 300) : s_M_readAll_B143 (nI m) (nI n) (nI L) ve vt vs vo v2 vnm vnn tx nb nc vw (nI p) vnu 0 na x1 = some (.inr (vw, nI p, vnu, 0, na, x1)) := by
  unfold s_M_readAll_B143
  rw [if_pos rfl, if_pos (nI_le h (by omega))]
theorem rE_bad {m n L : Nat} {tx : Nat → Int32} {ve vt vs vo v2 vnm vnn vw va vb : Int32} {vnu : UInt64} {na nb nc : (Nat → UInt64)} {x1 : Int32} (h : vb = 1) : s_M_readAll_B143 (nI m) (nI n) (nI L) ve vt vs vo v2 vnm vnn tx nb nc vw va vnu vb na x1 = some (.inr (vw, va, vnu, vb, na, x1)) := by
  unfold s_M_readAll_B143
  rw [h, if_neg i32_10]
theorem rE_f {m n L p : Nat} {tx : Nat → Int32} {ve vt vs vo v2 vnm vnn vw : Int32} {vnu : UInt64} {na nb nc : (Nat → UInt64)} {x1 : Int32} {u6 u8 u10 : Int32 × Int32 × UInt64 × Int32} (h : p < L) (hL : L ≤ 300) (e1 : s_M_next (nI m) (nI n) (nI L) vw ve vt (nI p) vs vo v2 vnm vnn vnu 0 tx 1 FP.dconst1 (FP.i2d vnm) = some u6)
    (e2 : s_M_next (nI m) (nI n) (nI L) u6.1 ve vt u6.2.1 vs vo v2 vnm vnn u6.2.2.1 u6.2.2.2 tx 1 FP.dconst1 (FP.i2d vnn) = some u8) (e3 : s_M_next (nI m) (nI n) (nI L) u8.1 ve vt u8.2.1 vs vo v2 vnm vnn u8.2.2.1 u8.2.2.2 tx 0 13875379345695965184 4652007308841189376 = some u10) (hb : u10.2.2.2 = 1) :
    s_M_readAll_B143 (nI m) (nI n) (nI L) ve vt vs vo v2 vnm vnn tx nb nc vw (nI p) vnu 0 na x1 = some (.inl (u10.1, u10.2.1, u10.2.2.1, 1, na, x1 + 3)) := by
  unfold s_M_readAll_B143
  rw [if_pos rfl, if_neg (nI_ge (by omega) (by omega)), e1]
  simp only [Option.bind_some]
  rw [e2]
  simp only [Option.bind_some]
  rw [e3]
  simp only [Option.bind_some, hb, if_neg i32_10]
  unfold s_M_readAll_J232 s_M_readAll_J246
  rw [if_neg i32_10]
theorem rE_go {m n L p q1 q2 q3 V1 V2 : Nat} {ch tx : Nat → Int32} {ve vt vs vo v2 vnm vnn vw : Int32} {vnu v : UInt64} {na nb nc : (Nat → UInt64)} {x1 : Int32} (htx : ∀ p, p < L → tx p = ch p) (h : p < L) (hL : L ≤ 300) (hq : q3 ≤ L) (h1 : 1 ≤ V1) (h15 : V1 ≤ 5) (h2 : 1 ≤ V2) (h28 : V2 ≤ 8) (e1 : s_M_next (nI m) (nI n) (nI L) vw ve vt (nI p) vs vo v2 vnm vnn vnu 0 tx 1 FP.dconst1 (FP.i2d vnm) = some (vw, nI q1, FP.i2d (nI V1), 0))
    (e2 : s_M_next (nI m) (nI n) (nI L) vw ve vt (nI q1) vs vo v2 vnm vnn (FP.i2d (nI V1)) 0 tx 1 FP.dconst1 (FP.i2d vnn) = some (vw, nI q2, FP.i2d (nI V2), 0)) (e3 : s_M_next (nI m) (nI n) (nI L) vw ve vt (nI q2) vs vo v2 vnm vnn (FP.i2d (nI V2)) 0 tx 0 13875379345695965184 4652007308841189376 = some (vw, nI q3, v, 0)) :
    s_M_readAll_B143 (nI m) (nI n) (nI L) ve vt vs vo v2 vnm vnn tx nb nc vw (nI p) vnu 0 na x1 = some (.inl (vw, nI (rN L ch q3), v, 0, vf_upd na (8 * (V1 - 1) + (V2 - 1)) v, x1 + 3)) := by
  unfold s_M_readAll_B143
  rw [if_pos rfl, if_neg (nI_ge (by omega) (by omega)), e1]
  simp only [Option.bind_some]
  rw [e2]
  simp only [Option.bind_some]
  rw [e3]
  simp only [Option.bind_some]
  obtain ⟨a, rfl⟩ : ∃ a, V1 = a + 1 := ⟨V1 - 1, by omega⟩
  obtain ⟨b, rfl⟩ : ∃ b, V2 = b + 1 := ⟨V2 - 1, by omega⟩
  have ix : 8 * (FP.d2i (FP.i2d (nI (a + 1))) - 1) + FP.d2i (FP.i2d (nI (b + 1))) - 1 = nI (8 * a + b) := by
    rw [d2i_n, d2i_n, nI_pred, show (8 : Int32) = nI 8 from rfl, nI_mul, nI_add, show 8 * a + (b + 1) = 8 * a + b + 1 by omega, nI_pred]
  rw [ix, if_pos trivial, inb_nI (by omega) (by omega), nI_clamp (by omega), gd_t]
  unfold s_M_readAll_J232 s_M_readAll_J246
  rw [if_pos rfl, e_skip _ _ _ _ _ _ _ _ _ _ hL hq htx]
  rfl
theorem cE_end {L M N e : Nat} {ch : Nat → Int32} {at' rf rd : Int32} {rv : UInt64} {rn rfa : Int32} {fa : (Nat → Nat → UInt64)} {r : Int32 × Int32} (he : e < 300) (er : s_Tr_reachNumber (nI L) at' rf rd rv rn rfa ch = some r) (h : r.1 = 0) : s_Tr_parseEntries_B2 (nI L) ch (nI M) (nI N) at' rf rd rv rn rfa fa (nI e) = some (.inr (.inl (r.2, rf, rd, rv, rn, rfa, fa))) := by
  unfold s_Tr_parseEntries_B2
  rw [if_neg (show ¬ (300 : Int32) ≤ nI e from nI_ge he (by decide)), er]
  simp only [Option.bind_some, h, ↓reduceIte]
theorem cE_f1 {L M N e : Nat} {ch : Nat → Int32} {at' rf rd : Int32} {rv : UInt64} {rn rfa : Int32} {fa : (Nat → Nat → UInt64)} {r : Int32 × Int32} {u5 : Int32 × Int32 × Int32 × Int32 × UInt64 × Int32 × Int32} (he : e < 300) (er : s_Tr_reachNumber (nI L) at' rf rd rv rn rfa ch = some r) (h : r.1 = 1) (e5 : s_Tr_parseWhole (nI L) r.2 rf rd rv rn rfa ch (nI M) = some u5) (h5 : u5.1 = 0) : s_Tr_parseEntries_B2 (nI L) ch (nI M) (nI N) at' rf rd rv rn rfa fa (nI e) = some (.inr (.inr (0, u5.2.1, u5.2.2.1, u5.2.2.2.1, u5.2.2.2.2.1, u5.2.2.2.2.2.1, u5.2.2.2.2.2.2, fa))) := by
  unfold s_Tr_parseEntries_B2
  rw [if_neg (show ¬ (300 : Int32) ≤ nI e from nI_ge he (by decide)), er]
  simp only [Option.bind_some, h, if_neg i32_10]
  rw [e5]
  simp only [Option.bind_some, h5, ↓reduceIte, isb_0, gd_t]
theorem cE_f2 {L M N e : Nat} {ch : Nat → Int32} {at' rf rd : Int32} {rv : UInt64} {rn rfa : Int32} {fa : (Nat → Nat → UInt64)} {r : Int32 × Int32} {u5 u8 : Int32 × Int32 × Int32 × Int32 × UInt64 × Int32 × Int32} (he : e < 300) (er : s_Tr_reachNumber (nI L) at' rf rd rv rn rfa ch = some r) (h : r.1 = 1) (e5 : s_Tr_parseWhole (nI L) r.2 rf rd rv rn rfa ch (nI M) = some u5) (h5 : u5.1 = 1) (e8 : s_Tr_parseWhole (nI L) u5.2.1 u5.2.2.1 u5.2.2.2.1 u5.2.2.2.2.1 u5.2.2.2.2.2.1 u5.2.2.2.2.2.2 ch (nI N) = some u8) (h8 : u8.1 = 0) : s_Tr_parseEntries_B2 (nI L) ch (nI M) (nI N) at' rf rd rv rn rfa fa (nI e) = some (.inr (.inr (0, u8.2.1, u8.2.2.1, u8.2.2.2.1, u8.2.2.2.2.1, u8.2.2.2.2.2.1, u8.2.2.2.2.2.2, fa))) := by
  unfold s_Tr_parseEntries_B2
  rw [if_neg (show ¬ (300 : Int32) ≤ nI e from nI_ge he (by decide)), er]
  simp only [Option.bind_some, h, if_neg i32_10]
  rw [e5]
  simp only [Option.bind_some, h5, if_neg i32_10]
  rw [e8]
  simp only [Option.bind_some, h8, ↓reduceIte, isb_0, gd_t]
theorem cE_f3 {L M N e : Nat} {ch : Nat → Int32} {at' rf rd : Int32} {rv : UInt64} {rn rfa : Int32} {fa : (Nat → Nat → UInt64)} {r : Int32 × Int32} {u5 u8 u11 : Int32 × Int32 × Int32 × Int32 × UInt64 × Int32 × Int32} (he : e < 300) (er : s_Tr_reachNumber (nI L) at' rf rd rv rn rfa ch = some r) (h : r.1 = 1) (e5 : s_Tr_parseWhole (nI L) r.2 rf rd rv rn rfa ch (nI M) = some u5) (h5 : u5.1 = 1) (e8 : s_Tr_parseWhole (nI L) u5.2.1 u5.2.2.1 u5.2.2.2.1 u5.2.2.2.2.1 u5.2.2.2.2.2.1 u5.2.2.2.2.2.2 ch (nI N) = some u8) (h8 : u8.1 = 1) (e11 : s_Tr_parseValue (nI L) u8.2.1 u8.2.2.1 u8.2.2.2.1 u8.2.2.2.2.1 u8.2.2.2.2.2.1 u8.2.2.2.2.2.2 ch = some u11) (h11 : u11.1 = 0) : s_Tr_parseEntries_B2 (nI L) ch (nI M) (nI N) at' rf rd rv rn rfa fa (nI e) = some (.inr (.inr (0, u11.2.1, u11.2.2.1, u11.2.2.2.1, u11.2.2.2.2.1, u11.2.2.2.2.2.1, u11.2.2.2.2.2.2, fa))) := by
  unfold s_Tr_parseEntries_B2
  rw [if_neg (show ¬ (300 : Int32) ≤ nI e from nI_ge he (by decide)), er]
  simp only [Option.bind_some, h, if_neg i32_10]
  rw [e5]
  simp only [Option.bind_some, h5, if_neg i32_10]
  rw [e8]
  simp only [Option.bind_some, h8, if_neg i32_10]
  rw [e11]
  simp only [Option.bind_some, h11, ↓reduceIte, isb_0, gd_t]
theorem cE_go {L M N e V1 V2 : Nat} {ch : Nat → Int32} {at' rf rd : Int32} {rv : UInt64} {rn rfa : Int32} {fa : (Nat → Nat → UInt64)} {r : Int32 × Int32} {u5 u8 u11 : Int32 × Int32 × Int32 × Int32 × UInt64 × Int32 × Int32} (he : e < 300) (er : s_Tr_reachNumber (nI L) at' rf rd rv rn rfa ch = some r) (h : r.1 = 1) (e5 : s_Tr_parseWhole (nI L) r.2 rf rd rv rn rfa ch (nI M) = some u5) (h5 : u5.1 = 1) (e8 : s_Tr_parseWhole (nI L) u5.2.1 u5.2.2.1 u5.2.2.2.1 u5.2.2.2.2.1 u5.2.2.2.2.2.1 u5.2.2.2.2.2.2 ch (nI N) = some u8) (h8 : u8.1 = 1) (e11 : s_Tr_parseValue (nI L) u8.2.1 u8.2.2.1 u8.2.2.2.1 u8.2.2.2.2.1 u8.2.2.2.2.2.1 u8.2.2.2.2.2.2 ch = some u11) (h11 : u11.1 = 1) (hv1 : u5.2.2.2.2.1 = FP.i2d (nI V1)) (hv2 : u8.2.2.2.2.1 = FP.i2d (nI V2)) (h1 : 1 ≤ V1) (h15 : V1 ≤ 5) (h2 : 1 ≤ V2) (h28 : V2 ≤ 8) : s_Tr_parseEntries_B2 (nI L) ch (nI M) (nI N) at' rf rd rv rn rfa fa (nI e) = some (.inl (u11.2.1, u11.2.2.1, u11.2.2.2.1, u11.2.2.2.2.1, u11.2.2.2.2.2.1, u11.2.2.2.2.2.2, gset fa (V1 - 1) (vf_upd (fa (V1 - 1)) (V2 - 1) u11.2.2.2.2.1), nI (e + 1))) := by
  unfold s_Tr_parseEntries_B2
  rw [if_neg (show ¬ (300 : Int32) ≤ nI e from nI_ge he (by decide)), er]
  simp only [Option.bind_some, h, if_neg i32_10]
  rw [e5]
  simp only [Option.bind_some, h5, if_neg i32_10]
  rw [e8]
  simp only [Option.bind_some, h8, if_neg i32_10]
  rw [e11]
  simp only [Option.bind_some, h11, if_neg i32_10]
  obtain ⟨a, rfl⟩ : ∃ a, V1 = a + 1 := ⟨V1 - 1, by omega⟩
  obtain ⟨b, rfl⟩ : ∃ b, V2 = b + 1 := ⟨V2 - 1, by omega⟩
  rw [hv1, hv2, d2i_n, d2i_n, nI_pred, nI_pred, inb_nI (by omega) (by omega), inb_nI (by omega) (by omega), gd_t, gd_t, nI_clamp (by omega), nI_clamp (by omega), nI_1]
  rfl
def eC (L M N : Nat) (ch : Nat → Int32) : (Int32 × Int32 × Int32 × UInt64 × Int32 × Int32 × (Nat → Nat → UInt64) × Int32) → Option ((Int32 × Int32 × Int32 × UInt64 × Int32 × Int32 × (Nat → Nat → UInt64) × Int32) ⊕ ((Int32 × Int32 × Int32 × UInt64 × Int32 × Int32 × (Nat → Nat → UInt64)) ⊕ (Int32 × Int32 × Int32 × Int32 × UInt64 × Int32 × Int32 × (Nat → Nat → UInt64)))) := fun st => s_Tr_parseEntries_B2 (nI L) ch (nI M) (nI N) st.1 st.2.1 st.2.2.1 st.2.2.2.1 st.2.2.2.2.1 st.2.2.2.2.2.1 st.2.2.2.2.2.2.1 st.2.2.2.2.2.2.2
def eR (m n L M N : Nat) (tx : Nat → Int32) (ve vt vs vo v2 : Int32) (nb nc : (Nat → UInt64)) : (Int32 × Int32 × UInt64 × Int32 × (Nat → UInt64) × Int32) → Option ((Int32 × Int32 × UInt64 × Int32 × (Nat → UInt64) × Int32) ⊕ (Int32 × Int32 × UInt64 × Int32 × (Nat → UInt64) × Int32)) := fun st => s_M_readAll_B143 (nI m) (nI n) (nI L) ve vt vs vo v2 (nI M) (nI N) tx nb nc st.1 st.2.1 st.2.2.1 st.2.2.2.1 st.2.2.2.2.1 st.2.2.2.2.2
theorem i32_acc3 (x c : Int32) : x + 1 + 1 + 1 + c = x + (3 + c) ∧ x + 3 + c = x + (3 + c) := by
  refine ⟨?_, Int32.add_assoc _ _ _⟩
  rw [Int32.add_assoc x 1 1, Int32.add_assoc x _ 1, Int32.add_assoc x]
  rfl
theorem j_entries {L M N : Nat} {ch tx : Nat → Int32} (hL : L ≤ 300) (htx : ∀ p, p < L → tx p = ch p) (hM : M ≤ 5) (hN : N ≤ 8) : ∀ D p e, L - p ≤ D → 3 * e ≤ p → p ≤ L →
    (∃ q, q ≤ L ∧ (∀ (rf rd : Int32) (rv : UInt64) (rn rfa : Int32) (fa : (Nat → Nat → UInt64)) (F : Nat), D < F → Ok (loopO (eC L M N ch) F (nI p, rf, rd, rv, rn, rfa, fa, nI e)) (fun r => ∃ w, r = .inr w ∧ w.1 = 0 ∧ w.2.2.2.2.2.2.1 = nI q)) ∧
     (∀ (m n : Nat) (vw ve vt vs vo v2 : Int32) (vnu : UInt64) (na nb nc : (Nat → UInt64)) (x1 : Int32) (F : Nat), D + 1 < F → Ok (loopO (eR m n L M N tx ve vt vs vo v2 nb nc) F (vw, nI (rN L ch p), vnu, 0, na, x1)) (fun r => r.1 = nI q ∧ r.2.2.2.1 = 1))) ∨
    (∃ c : Int32, ∀ (fa : (Nat → Nat → UInt64)) (na : (Nat → UInt64)), AR M N fa na → ∃ fa' na', AR M N fa' na' ∧ (∀ (rf rd : Int32) (rv : UInt64) (rn rfa : Int32) (F : Nat), D < F → Ok (loopO (eC L M N ch) F (nI p, rf, rd, rv, rn, rfa, fa, nI e)) (fun r => ∃ w, r = .inl w ∧ w.2.2.2.2.1 = rn + c ∧ w.2.2.2.2.2.1 = rfa ∧ w.2.2.2.2.2.2 = fa')) ∧
     (∀ (m n : Nat) (vw ve vt vs vo v2 : Int32) (vnu : UInt64) (nb nc : (Nat → UInt64)) (x1 : Int32) (F : Nat), D + 1 < F → Ok (loopO (eR m n L M N tx ve vt vs vo v2 nb nc) F (vw, nI (rN L ch p), vnu, 0, na, x1)) (fun r => r.1 = vw ∧ r.2.2.2.1 = 0 ∧ r.2.2.2.2.1 = na' ∧ r.2.2.2.2.2 = x1 + c))) := by
  intro D
  induction D with
  | zero =>
    intro p e hD he hp
    have hg := rN_ge (ch := ch) hp
    right
    refine ⟨0, fun fa na ha => ⟨fa, na, ha, fun rf rd rv rn rfa F hF => ?_, fun m n vw ve vt vs vo v2 vnu nb nc x1 F hF => ?_⟩⟩
    · obtain ⟨r, er, h1, h2⟩ := e_reachNumber (ch := ch) rf rd rv rn rfa hL hp
      refine Ok.loop1 (by omega) (Ok.of (cE_end (by omega) er (h2.elim (fun h => absurd h.2 (by omega)) (fun h => h.1))) ?_)
      exact ⟨_, rfl, (Int32.add_zero _).symm, rfl, rfl⟩
    · refine Ok.loop1 (by omega) (Ok.of (rE_stop (by omega) (by omega)) ?_)
      exact ⟨rfl, rfl, rfl, (Int32.add_zero _).symm⟩
  | succ D ih =>
    intro p e hD he hp
    have hg := rN_ge (ch := ch) hp
    by_cases hf : rN L ch p = L
    · right
      refine ⟨0, fun fa na ha => ⟨fa, na, ha, fun rf rd rv rn rfa F hF => ?_, fun m n vw ve vt vs vo v2 vnu nb nc x1 F hF => ?_⟩⟩
      · obtain ⟨r, er, h1, h2⟩ := e_reachNumber (ch := ch) rf rd rv rn rfa hL hp
        refine Ok.loop1 (by omega) (Ok.of (cE_end (by omega) er (h2.elim (fun h => absurd h.2 (by omega)) (fun h => h.1))) ?_)
        exact ⟨_, rfl, (Int32.add_zero _).symm, rfl, rfl⟩
      · refine Ok.loop1 (by omega) (Ok.of (rE_stop (by omega) (by omega)) ?_)
        exact ⟨rfl, rfl, rfl, (Int32.add_zero _).symm⟩
    · have hfl : rN L ch p < L := by omega
      have RN : ∀ (rf rd : Int32) (rv : UInt64) (rn rfa : Int32), ∃ r, s_Tr_reachNumber (nI L) (nI p) rf rd rv rn rfa ch = some r ∧ r.2 = nI (rN L ch p) ∧ r.1 = 1 := by
        intro rf rd rv rn rfa
        obtain ⟨r, er, h1, h2⟩ := e_reachNumber (ch := ch) rf rd rv rn rfa hL hp
        exact ⟨r, er, h1, h2.elim (fun h => h.1) (fun h => absurd h.2 hf)⟩
      rcases j_whole (K := M) hL hg.2 htx (by omega) with ⟨q, hq, c, r⟩ | ⟨q1, V1, hq1, hq1L, hV1, hV1M, c1, r1⟩
      · left
        refine ⟨q, hq, fun rf rd rv rn rfa fa F hF => ?_, fun m n vw ve vt vs vo v2 vnu na nb nc x1 F hF => ?_⟩
        · obtain ⟨x, ex, x2, x1⟩ := RN rf rd rv rn rfa
          obtain ⟨u5, e5, h5, h5f⟩ := c rf rd rv rn rfa
          rw [← x2] at e5
          exact Ok.loop1 (by omega) (Ok.of (cE_f1 (by omega) ex x1 e5 h5) ⟨_, rfl, rfl, h5f⟩)
        · obtain ⟨u6, e6, h6, h6b⟩ := r m n vw ve vt vs vo v2 (nI M) (nI N) vnu
          refine Ok.loop1 (by omega) (Ok.of (rE_f (u6 := u6) (u8 := (u6.1, u6.2.1, u6.2.2.1, 1)) (u10 := (u6.1, u6.2.1, u6.2.2.1, 1)) hfl hL e6 (by rw [h6b]; exact next_bad _ _ _ _ _ _ _ _ _ _ _ _) (next_bad _ _ _ _ _ _ _ _ _ _ _ _) rfl) ?_)
          exact Ok.loop1 (by omega) (Ok.of (rE_bad rfl) ⟨h6, rfl⟩)
      · have hg1 := rN_ge (ch := ch) hq1L
        have hgp := rN_ge (ch := ch) hg.2
        rcases j_whole (K := N) hL hq1L htx hN with ⟨q, hq, c, r⟩ | ⟨q2, V2, hq2, hq2L, hV2, hV2N, c2, r2⟩
        · left
          refine ⟨q, hq, fun rf rd rv rn rfa fa F hF => ?_, fun m n vw ve vt vs vo v2 vnu na nb nc x1 F hF => ?_⟩
          · obtain ⟨x, ex, x2, x1⟩ := RN rf rd rv rn rfa
            obtain ⟨u5, e5, h5, h5a, h5v, h5n, h5f⟩ := c1 rf rd rv rn rfa
            rw [← x2] at e5
            obtain ⟨u8, e8, h8, h8f⟩ := c u5.2.2.1 u5.2.2.2.1 u5.2.2.2.2.1 u5.2.2.2.2.2.1 u5.2.2.2.2.2.2
            rw [← h5a] at e8
            exact Ok.loop1 (by omega) (Ok.of (cE_f2 (by omega) ex x1 e5 h5 e8 h8) ⟨_, rfl, rfl, h8f⟩)
          · have e6 := r1 m n vw ve vt vs vo v2 (nI M) (nI N) vnu
            obtain ⟨u8, e8, h8, h8b⟩ := r m n vw ve vt vs vo v2 (nI M) (nI N) (FP.i2d (nI V1))
            refine Ok.loop1 (by omega) (Ok.of (rE_f (u8 := u8) (u10 := (u8.1, u8.2.1, u8.2.2.1, 1)) hfl hL e6 e8 (by rw [h8b]; exact next_bad _ _ _ _ _ _ _ _ _ _ _ _) rfl) ?_)
            exact Ok.loop1 (by omega) (Ok.of (rE_bad rfl) ⟨h8, rfl⟩)
        · have hg2 := rN_ge (ch := ch) hq2L
          rcases j_value hL hq2L htx with ⟨q, hq, c, r⟩ | ⟨q3, v, hq3, hq3L, hv, c3, r3⟩
          · left
            refine ⟨q, hq, fun rf rd rv rn rfa fa F hF => ?_, fun m n vw ve vt vs vo v2 vnu na nb nc x1 F hF => ?_⟩
            · obtain ⟨x, ex, x2, x1⟩ := RN rf rd rv rn rfa
              obtain ⟨u5, e5, h5, h5a, h5v, h5n, h5f⟩ := c1 rf rd rv rn rfa
              rw [← x2] at e5
              obtain ⟨u8, e8, h8, h8a, h8v, h8n, h8f⟩ := c2 u5.2.2.1 u5.2.2.2.1 u5.2.2.2.2.1 u5.2.2.2.2.2.1 u5.2.2.2.2.2.2
              rw [← h5a] at e8
              obtain ⟨u11, e11, h11, h11f⟩ := c u8.2.2.1 u8.2.2.2.1 u8.2.2.2.2.1 u8.2.2.2.2.2.1 u8.2.2.2.2.2.2
              rw [← h8a] at e11
              exact Ok.loop1 (by omega) (Ok.of (cE_f3 (by omega) ex x1 e5 h5 e8 h8 e11 h11) ⟨_, rfl, rfl, h11f⟩)
            · have e6 := r1 m n vw ve vt vs vo v2 (nI M) (nI N) vnu
              have e8 := r2 m n vw ve vt vs vo v2 (nI M) (nI N) (FP.i2d (nI V1))
              obtain ⟨u10, e10, h10, h10b⟩ := r m n vw ve vt vs vo v2 (nI M) (nI N) (FP.i2d (nI V2))
              refine Ok.loop1 (by omega) (Ok.of (rE_f (u10 := u10) hfl hL e6 e8 e10 h10b) ?_)
              exact Ok.loop1 (by omega) (Ok.of (rE_bad rfl) ⟨h10, rfl⟩)
          · have C : ∀ (rf rd : Int32) (rv : UInt64) (rn rfa : Int32) (fa : (Nat → Nat → UInt64)) (F : Nat) (Q : _ → Prop), D + 1 < F → (∀ rf rd rv, Ok (loopO (eC L M N ch) (F - 1) (nI q3, rf, rd, rv, rn + 1 + 1 + 1, rfa, gset fa (V1 - 1) (vf_upd (fa (V1 - 1)) (V2 - 1) v), nI (e + 1))) Q) → Ok (loopO (eC L M N ch) F (nI p, rf, rd, rv, rn, rfa, fa, nI e)) Q := by
              intro rf rd rv rn rfa fa F Q hF k
              obtain ⟨x, ex, x2, x1⟩ := RN rf rd rv rn rfa
              obtain ⟨u5, e5, h5, h5a, h5v, h5n, h5f⟩ := c1 rf rd rv rn rfa
              rw [← x2] at e5
              obtain ⟨u8, e8, h8, h8a, h8v, h8n, h8f⟩ := c2 u5.2.2.1 u5.2.2.2.1 u5.2.2.2.2.1 u5.2.2.2.2.2.1 u5.2.2.2.2.2.2
              rw [← h5a] at e8
              obtain ⟨u11, e11, h11, h11a, h11v, h11n, h11f⟩ := c3 u8.2.2.1 u8.2.2.2.1 u8.2.2.2.2.1 u8.2.2.2.2.2.1 u8.2.2.2.2.2.2
              rw [← h8a] at e11
              refine Ok.loop1 (by omega) (Ok.of (cE_go (by omega) ex x1 e5 h5 e8 h8 e11 h11 h5v h8v hV1 (by omega) hV2 (by omega)) ?_)
              rw [h11a, h11v, h11n, h11f, h8n, h8f, h5n, h5f]
              exact k _ _ _
            have R : ∀ (m n : Nat) (vw ve vt vs vo v2 : Int32) (vnu : UInt64) (na nb nc : (Nat → UInt64)) (x1 : Int32) (F : Nat) (Q : _ → Prop), D + 1 + 1 < F → (∀ vnu, Ok (loopO (eR m n L M N tx ve vt vs vo v2 nb nc) (F - 1) (vw, nI (rN L ch q3), vnu, 0, vf_upd na (8 * (V1 - 1) + (V2 - 1)) v, x1 + 3)) Q) → Ok (loopO (eR m n L M N tx ve vt vs vo v2 nb nc) F (vw, nI (rN L ch p), vnu, 0, na, x1)) Q := by
              intro m n vw ve vt vs vo v2 vnu na nb nc x1 F Q hF k
              refine Ok.loop1 (by omega) (Ok.of (rE_go htx hfl hL hq3L hV1 (by omega) hV2 (by omega) (r1 m n vw ve vt vs vo v2 (nI M) (nI N) vnu) (r2 m n vw ve vt vs vo v2 (nI M) (nI N) (FP.i2d (nI V1))) (r3 m n vw ve vt vs vo v2 (nI M) (nI N) (FP.i2d (nI V2)))) ?_)
              exact k _
            rcases ih q3 (e + 1) (by omega) (by omega) hq3L with ⟨q, hq, c, r⟩ | ⟨cc, hh⟩
            · left
              exact ⟨q, hq, fun rf rd rv rn rfa fa F hF => C rf rd rv rn rfa fa F _ (by omega) (fun rf rd rv => c rf rd rv _ rfa _ (F - 1) (by omega)), fun m n vw ve vt vs vo v2 vnu na nb nc x1 F hF => R m n vw ve vt vs vo v2 vnu na nb nc x1 F _ (by omega) (fun vnu => r m n vw ve vt vs vo v2 vnu _ nb nc _ (F - 1) (by omega))⟩
            · right
              refine ⟨3 + cc, fun fa na ha => ?_⟩
              obtain ⟨fa', na', ha', c, r⟩ := hh _ _ (ha.upd (i := V1 - 1) (j := V2 - 1) hv (by omega) (by omega) hN)
              refine ⟨fa', na', ha', fun rf rd rv rn rfa F hF => C rf rd rv rn rfa fa F _ (by omega) (fun rf rd rv => (c rf rd rv _ rfa (F - 1) (by omega)).imp ?_), fun m n vw ve vt vs vo v2 vnu nb nc x1 F hF => R m n vw ve vt vs vo v2 vnu na nb nc x1 F _ (by omega) (fun vnu => (r m n vw ve vt vs vo v2 vnu nb nc _ (F - 1) (by omega)).imp ?_)⟩
              · rintro _ ⟨w, rfl, w1, w2, w3⟩
                exact ⟨w, rfl, by rw [w1]; exact (i32_acc3 rn cc).1, w2, w3⟩
              · rintro w ⟨w1, w2, w3, w4⟩
                exact ⟨w1, w2, w3, by rw [w4]; exact (i32_acc3 x1 cc).2⟩
