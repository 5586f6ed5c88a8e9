/-! reading: lists -/
theorem Ok.loop1 {σ ε : Type} {body : σ → Option (σ ⊕ ε)} {F : Nat} {st : σ} {Q : ε → Prop} (hF : 0 < F) (h : Ok (body st) (fun r => Sum.elim (fun st' => Ok (loopO body (F - 1) st') Q) Q r)) : Ok (loopO body F st) Q := by
  obtain ⟨k, rfl⟩ : ∃ k, F = k + 1 := ⟨F - 1, by omega⟩
  show Ok ((body st).bind _) Q
  refine Ok.bind h ?_
  rintro (v | v) hv
  · exact hv
  · exact Ok.mk hv
theorem next_bad {m n va : Int32} {L : Nat} {tx : Nat → Int32} (vw ve vt vs vo v2 vnm vnn : Int32) (vnu : UInt64) (w : Int32) (lo hi : UInt64) : s_M_next m n (nI L) vw ve vt va vs vo v2 vnm vnn vnu 1 tx w lo hi = some (vw, va, vnu, 1) := by
  unfold s_M_next
  rw [if_neg i32_10]
def rB (A : Nat) (nx : Int32 → Int32 → UInt64 → Int32 → Option (Int32 × Int32 × UInt64 × Int32)) (bd : Int32) (vw va : Int32) (vnu : UInt64) (vb : Int32) (arr : (Nat → UInt64)) (x1 x2 : Int32) : Option ((Int32 × Int32 × UInt64 × Int32 × (Nat → UInt64) × Int32 × Int32) ⊕ (Int32 × Int32 × UInt64 × Int32 × (Nat → UInt64) × Int32)) :=
  if bd ≤ x2 then (some (.inr (vw, va, vnu, vb, arr, x1))) else (if vb = 0 then ((nx vw va vnu vb).bind fun u => gd (inb x2 A) <| some (.inl (u.1, u.2.1, u.2.2.1, u.2.2.2, vf_upd arr x2.toNatClampNeg u.2.2.1, x1 + 1, x2 + 1))) else (some (.inr (vw, va, vnu, vb, arr, x1))))
theorem rB_stop {A : Nat} {nx : Int32 → Int32 → UInt64 → Int32 → Option (Int32 × Int32 × UInt64 × Int32)} {bd vw va : Int32} {vnu : UInt64} {vb : Int32} {arr : (Nat → UInt64)} {x1 x2 : Int32} (h : bd ≤ x2) : rB A nx bd vw va vnu vb arr x1 x2 = some (.inr (vw, va, vnu, vb, arr, x1)) := if_pos h
theorem rB_bad {A : Nat} {nx : Int32 → Int32 → UInt64 → Int32 → Option (Int32 × Int32 × UInt64 × Int32)} {bd vw va : Int32} {vnu : UInt64} {vb : Int32} {arr : (Nat → UInt64)} {x1 x2 : Int32} (h : vb = 1) : rB A nx bd vw va vnu vb arr x1 x2 = some (.inr (vw, va, vnu, vb, arr, x1)) := by
  unfold rB
  rw [h, if_neg i32_10]
  split <;> rfl
theorem rB_go {A N k : Nat} {nx : Int32 → Int32 → UInt64 → Int32 → Option (Int32 × Int32 × UInt64 × Int32)} {vw va : Int32} {vnu : UInt64} {arr : (Nat → UInt64)} {x1 : Int32} {u : Int32 × Int32 × UInt64 × Int32} (hk : k < N) (hN : N ≤ A) (hA : A ≤ 8) (e : nx vw va vnu 0 = some u) : rB A nx (nI N) vw va vnu 0 arr x1 (nI k) = some (.inl (u.1, u.2.1, u.2.2.1, u.2.2.2, vf_upd arr k u.2.2.1, x1 + 1, nI (k + 1))) := by
  unfold rB
  rw [if_neg (nI_ge (by omega) (by omega)), if_pos rfl, e]
  simp only [Option.bind_some]
  rw [inb_nI (by omega) (by omega), gd_t, nI_clamp (by omega), nI_1]
theorem i32_acc (rn : Int32) (d : Nat) : rn + 1 + nI d = rn + nI (d + 1) := by
  rw [Int32.add_assoc, nI_succ, Int32.add_comm 1]
theorem pl_stop {A L N k : Nat} {ch : Nat → Int32} {at' rf rd : Int32} {rv : UInt64} {rn rfa : Int32} {arr : (Nat → UInt64)} (h : N ≤ k) (hk : k < 300) : s_Tr_parseList_B2 A (nI L) ch (nI N) at' rf rd rv rn rfa arr (nI k) = some (.inr (.inl (at', rf, rd, rv, rn, rfa, arr))) := if_pos (nI_le h (by omega))
theorem pl_fail {A L N k : Nat} {ch : Nat → Int32} {at' rf rd : Int32} {rv : UInt64} {rn rfa : Int32} {arr : (Nat → UInt64)} {x : Int32 × Int32 × Int32 × Int32 × UInt64 × Int32 × Int32} (h : k < N) (hk : N ≤ 8) (e : s_Tr_parseValue (nI L) at' rf rd rv rn rfa ch = some x) (h1 : x.1 = 0) : s_Tr_parseList_B2 A (nI L) ch (nI N) at' rf rd rv rn rfa arr (nI k) = some (.inr (.inr (0, x.2.1, x.2.2.1, x.2.2.2.1, x.2.2.2.2.1, x.2.2.2.2.2.1, x.2.2.2.2.2.2, arr))) := by
  unfold s_Tr_parseList_B2
  rw [if_neg (nI_ge (by omega) (by omega)), e]
  simp only [Option.bind_some, h1, ↓reduceIte, isb_0, gd_t]
theorem pl_go {A L N k : Nat} {ch : Nat → Int32} {at' rf rd : Int32} {rv : UInt64} {rn rfa : Int32} {arr : (Nat → UInt64)} {x : Int32 × Int32 × Int32 × Int32 × UInt64 × Int32 × Int32} (h : k < N) (hN : N ≤ A) (hA : A ≤ 8) (e : s_Tr_parseValue (nI L) at' rf rd rv rn rfa ch = some x) (h1 : x.1 = 1) : s_Tr_parseList_B2 A (nI L) ch (nI N) at' rf rd rv rn rfa arr (nI k) = some (.inl (x.2.1, x.2.2.1, x.2.2.2.1, x.2.2.2.2.1, x.2.2.2.2.2.1, x.2.2.2.2.2.2, vf_upd arr k x.2.2.2.2.1, nI (k + 1))) := by
  unfold s_Tr_parseList_B2
  rw [if_neg (nI_ge (by omega) (by omega)), e]
  simp only [Option.bind_some, h1, if_neg i32_10]
  rw [inb_nI (by omega) (by omega), gd_t, nI_clamp (by omega), nI_1]
theorem j_list {L N A : Nat} {ch tx : Nat → Int32} (hL : L ≤ 300) (htx : ∀ p, p < L → tx p = ch p) (hNA : N ≤ A) (hA : A ≤ 8) : ∀ d k p, k + d = N → p ≤ L →
    (∃ q, q ≤ L ∧ (∀ (rf rd : Int32) (rv : UInt64) (rn rfa : Int32) (arr : (Nat → UInt64)) (F : Nat), d < F → Ok (loopO (fun (st : Int32 × Int32 × Int32 × UInt64 × Int32 × Int32 × (Nat → UInt64) × Int32) => s_Tr_parseList_B2 A (nI L) ch (nI N) st.1 st.2.1 st.2.2.1 st.2.2.2.1 st.2.2.2.2.1 st.2.2.2.2.2.1 st.2.2.2.2.2.2.1 st.2.2.2.2.2.2.2) F (nI p, rf, rd, rv, rn, rfa, arr, nI k)) (fun r => ∃ w, r = .inr w ∧ w.1 = 0 ∧ w.2.2.2.2.2.2.1 = nI q)) ∧
     (∀ (m n : Nat) (vw ve vt vs vo v2 vnm vnn : Int32) (vnu : UInt64) (arr : (Nat → UInt64)) (x1 : Int32) (F : Nat), d < F → Ok (loopO (fun (st : Int32 × Int32 × UInt64 × Int32 × (Nat → UInt64) × Int32 × Int32) => rB A (fun vw va vnu vb => s_M_next (nI m) (nI n) (nI L) vw ve vt va vs vo v2 vnm vnn vnu vb tx 0 13875379345695965184 4652007308841189376) (nI N) st.1 st.2.1 st.2.2.1 st.2.2.2.1 st.2.2.2.2.1 st.2.2.2.2.2.1 st.2.2.2.2.2.2) F (vw, nI p, vnu, 0, arr, x1, nI k)) (fun r => r.1 = nI q ∧ r.2.2.2.1 = 1))) ∨
    (∃ q, ∃ vals : (Nat → UInt64), p ≤ q ∧ q ≤ L ∧ (∀ i, k ≤ i → i < N → okn (vals i)) ∧ (∀ (rf rd : Int32) (rv : UInt64) (rn rfa : Int32) (arr : (Nat → UInt64)) (F : Nat), d < F → Ok (loopO (fun (st : Int32 × Int32 × Int32 × UInt64 × Int32 × Int32 × (Nat → UInt64) × Int32) => s_Tr_parseList_B2 A (nI L) ch (nI N) st.1 st.2.1 st.2.2.1 st.2.2.2.1 st.2.2.2.2.1 st.2.2.2.2.2.1 st.2.2.2.2.2.2.1 st.2.2.2.2.2.2.2) F (nI p, rf, rd, rv, rn, rfa, arr, nI k)) (fun r => ∃ w, r = .inl w ∧ w.1 = nI q ∧ w.2.2.2.2.1 = rn + nI d ∧ w.2.2.2.2.2.1 = rfa ∧ (∀ i, k ≤ i → i < N → w.2.2.2.2.2.2 i = vals i) ∧ (∀ i, i < k → w.2.2.2.2.2.2 i = arr i))) ∧
     (∀ (m n : Nat) (vw ve vt vs vo v2 vnm vnn : Int32) (vnu : UInt64) (arr : (Nat → UInt64)) (x1 : Int32) (F : Nat), d < F → Ok (loopO (fun (st : Int32 × Int32 × UInt64 × Int32 × (Nat → UInt64) × Int32 × Int32) => rB A (fun vw va vnu vb => s_M_next (nI m) (nI n) (nI L) vw ve vt va vs vo v2 vnm vnn vnu vb tx 0 13875379345695965184 4652007308841189376) (nI N) st.1 st.2.1 st.2.2.1 st.2.2.2.1 st.2.2.2.2.1 st.2.2.2.2.2.1 st.2.2.2.2.2.2) F (vw, nI p, vnu, 0, arr, x1, nI k)) (fun r => r.1 = vw ∧ r.2.1 = nI q ∧ r.2.2.2.1 = 0 ∧ (∀ i, k ≤ i → i < N → r.2.2.2.2.1 i = vals i) ∧ (∀ i, i < k → r.2.2.2.2.1 i = arr i) ∧ r.2.2.2.2.2 = x1 + nI d))) := by
  intro d
  induction d with
  | zero =>
    intro k p hk hp
    right
    refine ⟨p, fun _ => FP.dconst0, Nat.le_refl _, hp, fun i h1 h2 => absurd h2 (by omega), fun rf rd rv rn rfa arr F hF => ?_, fun m n vw ve vt vs vo v2 vnm vnn vnu arr x1 F hF => ?_⟩
    · refine Ok.loop1 hF (Ok.of (pl_stop (by omega) (by omega)) ?_)
      refine ⟨_, rfl, rfl, ?_, rfl, fun i h1 h2 => absurd h2 (by omega), fun i _ => rfl⟩
      rw [nI_0, Int32.add_zero]
    · refine Ok.loop1 hF (Ok.of (rB_stop (nI_le (by omega) (by omega))) ?_)
      refine ⟨rfl, rfl, rfl, fun i h1 h2 => absurd h2 (by omega), fun i _ => rfl, ?_⟩
      rw [nI_0, Int32.add_zero]
  | succ d ih =>
    intro k p hk hp
    rcases j_value hL hp htx with ⟨q, hq, c, r⟩ | ⟨q, v, hpq, hq, hv, c, r⟩
    · left
      refine ⟨q, hq, fun rf rd rv rn rfa arr F hF => ?_, fun m n vw ve vt vs vo v2 vnm vnn vnu arr x1 F hF => ?_⟩
      · obtain ⟨x, ex, h1, h2⟩ := c rf rd rv rn rfa
        refine Ok.loop1 (by omega) (Ok.of (pl_fail (by omega) (by omega) ex h1) ?_)
        exact ⟨_, rfl, rfl, h2⟩
      · obtain ⟨x, ex, h1, h2⟩ := r m n vw ve vt vs vo v2 vnm vnn vnu
        refine Ok.loop1 (by omega) (Ok.of (rB_go (by omega) hNA hA ex) ?_)
        exact Ok.loop1 (by omega) (Ok.of (rB_bad h2) ⟨h1, h2⟩)
    · have hge := (rN_ge (ch := ch) hp).1
      rcases ih (k + 1) q (by omega) hq with ⟨q', hq', c', r'⟩ | ⟨q', vals, hpq', hq', hv', c', r'⟩
      · left
        refine ⟨q', hq', fun rf rd rv rn rfa arr F hF => ?_, fun m n vw ve vt vs vo v2 vnm vnn vnu arr x1 F hF => ?_⟩
        · obtain ⟨x, ex, h1, h2, h3, h4, h5⟩ := c rf rd rv rn rfa
          refine Ok.loop1 (by omega) (Ok.of (pl_go (by omega) hNA hA ex h1) ?_)
          rw [h2, h3, h4, h5]
          exact c' _ _ _ _ _ _ (F - 1) (by omega)
        · refine Ok.loop1 (by omega) (Ok.of (rB_go (by omega) hNA hA (r m n vw ve vt vs vo v2 vnm vnn vnu)) ?_)
          exact r' m n vw ve vt vs vo v2 vnm vnn _ _ _ (F - 1) (by omega)
      · right
        refine ⟨q', vf_upd vals k v, by omega, hq', fun i h1 h2 => ?_, fun rf rd rv rn rfa arr F hF => ?_, fun m n vw ve vt vs vo v2 vnm vnn vnu arr x1 F hF => ?_⟩
        · by_cases e : i = k
          · rw [e, upd_at]
            exact hv
          · rw [upd_ne e]
            exact hv' i (by omega) h2
        · obtain ⟨x, ex, h1, h2, h3, h4, h5⟩ := c rf rd rv rn rfa
          refine Ok.loop1 (by omega) (Ok.of (pl_go (by omega) hNA hA ex h1) ?_)
          rw [h2, h3, h4, h5]
          refine (c' _ _ _ _ _ _ (F - 1) (by omega)).imp ?_
          rintro _ ⟨w, rfl, w1, w2, w3, w4, w5⟩
          refine ⟨w, rfl, w1, by rw [w2]; exact i32_acc rn d, w3, fun i i1 i2 => ?_, fun i i1 => ?_⟩
          · by_cases e : i = k
            · rw [w5 i (by omega), e, upd_at, upd_at]
            · rw [upd_ne e]
              exact w4 i (by omega) i2
          · rw [w5 i (by omega), upd_ne (by omega)]
        · refine Ok.loop1 (by omega) (Ok.of (rB_go (by omega) hNA hA (r m n vw ve vt vs vo v2 vnm vnn vnu)) ?_)
          refine (r' m n vw ve vt vs vo v2 vnm vnn _ _ _ (F - 1) (by omega)).imp ?_
          rintro w ⟨w1, w2, w3, w4, w5, w6⟩
          refine ⟨w1, w2, w3, fun i i1 i2 => ?_, fun i i1 => ?_, by rw [w6]; exact i32_acc x1 d⟩
          · by_cases e : i = k
            · rw [w5 i (by omega), e, upd_at, upd_at]
            · rw [upd_ne e]
              exact w4 i (by omega) i2
          · rw [w5 i (by omega), upd_ne (by omega)]
