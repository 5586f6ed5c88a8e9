/-! reading: all of it -/
theorem k_list {L N A : Nat} {ch tx : Nat → Int32} (hL : L ≤ 300) (htx : ∀ p, p < L → tx p = ch p) (hNA : N ≤ A) (hA : A ≤ 8) (p : Nat) (hp : p ≤ L) :
    (∃ q, q ≤ L ∧ (∀ (rf rd : Int32) (rv : UInt64) (rn rfa : Int32) (arr : (Nat → UInt64)), Ok (s_Tr_parseList A (nI L) (nI p) rf rd rv rn rfa ch arr (nI N)) (fun u => u.1 = 0 ∧ u.2.2.2.2.2.2.1 = nI q)) ∧
     (∀ (m n : Nat) (vw ve vt vs vo v2 vnm vnn : Int32) (vnu : UInt64) (arr : (Nat → UInt64)) (x1 : Int32), Ok (loopO (fun (st : Int32 × Int32 × UInt64 × Int32 × (Nat → UInt64) × Int32 × Int32) => rB A (fun vw va vnu vb => s_M_next (nI m) (nI n) (nI L) vw ve vt va vs vo v2 vnm vnn vnu vb tx 0 13875379345695965184 4652007308841189376) (nI N) st.1 st.2.1 st.2.2.1 st.2.2.2.1 st.2.2.2.2.1 st.2.2.2.2.2.1 st.2.2.2.2.2.2) 2000 (vw, nI p, vnu, 0, arr, x1, 0)) (fun r => r.1 = nI q ∧ r.2.2.2.1 = 1))) ∨
    (∃ q, ∃ vals : (Nat → UInt64), q ≤ L ∧ (∀ i, i < N → okn (vals i)) ∧ (∀ (rf rd : Int32) (rv : UInt64) (rn rfa : Int32) (arr : (Nat → UInt64)), Ok (s_Tr_parseList A (nI L) (nI p) rf rd rv rn rfa ch arr (nI N)) (fun u => u.1 = 1 ∧ u.2.1 = nI q ∧ u.2.2.2.2.2.1 = rn + nI N ∧ u.2.2.2.2.2.2.1 = rfa ∧ (∀ i, i < N → u.2.2.2.2.2.2.2 i = vals i))) ∧
     (∀ (m n : Nat) (vw ve vt vs vo v2 vnm vnn : Int32) (vnu : UInt64) (arr : (Nat → UInt64)) (x1 : Int32), Ok (loopO (fun (st : Int32 × Int32 × UInt64 × Int32 × (Nat → UInt64) × Int32 × Int32) => rB A (fun vw va vnu vb => s_M_next (nI m) (nI n) (nI L) vw ve vt va vs vo v2 vnm vnn vnu vb tx 0 13875379345695965184 4652007308841189376) (nI N) st.1 st.2.1 st.2.2.1 st.2.2.2.1 st.2.2.2.2.1 st.2.2.2.2.2.1 st.2.2.2.2.2.2) 2000 (vw, nI p, vnu, 0, arr, x1, 0)) (fun r => r.1 = vw ∧ r.2.1 = nI q ∧ r.2.2.2.1 = 0 ∧ (∀ i, i < N → r.2.2.2.2.1 i = vals i) ∧ r.2.2.2.2.2 = x1 + nI N))) := by
  rcases j_list hL htx hNA hA N 0 p (by omega) hp with ⟨q, hq, c, r⟩ | ⟨q, vals, _, hq, hv, c, r⟩
  · left
    refine ⟨q, hq, fun rf rd rv rn rfa arr => ?_, fun m n vw ve vt vs vo v2 vnm vnn vnu arr x1 => r m n vw ve vt vs vo v2 vnm vnn vnu arr x1 2000 (by omega)⟩
    unfold s_Tr_parseList s_Tr_parseList_L2
    refine Ok.bind (c rf rd rv rn rfa arr 2000 (by omega)) ?_
    rintro _ ⟨w, rfl, w1, w2⟩
    exact Ok.mk ⟨w1, w2⟩
  · right
    refine ⟨q, vals, hq, fun i hi => hv i (by omega) hi, fun rf rd rv rn rfa arr => ?_, fun m n vw ve vt vs vo v2 vnm vnn vnu arr x1 => (r m n vw ve vt vs vo v2 vnm vnn vnu arr x1 2000 (by omega)).imp ?_⟩
    · unfold s_Tr_parseList s_Tr_parseList_L2
      refine Ok.bind (c rf rd rv rn rfa arr 2000 (by omega)) ?_
      rintro _ ⟨w, rfl, w1, w2, w3, w4, w5⟩
      exact Ok.mk ⟨rfl, w1, w2, w3, fun i hi => w4 i (by omega) hi⟩
    · rintro w ⟨w1, w2, w3, w4, w5, w6⟩
      exact ⟨w1, w2, w3, fun i hi => w4 i (by omega) hi, w6⟩
theorem k_entries {L M N : Nat} {ch tx : Nat → Int32} (hL : L ≤ 300) (htx : ∀ p, p < L → tx p = ch p) (hM : M ≤ 5) (hN : N ≤ 8) (p : Nat) (hp : p ≤ L) :
    (∃ q, q ≤ L ∧ (∀ (rf rd : Int32) (rv : UInt64) (rn rfa : Int32) (fa : (Nat → Nat → UInt64)), Ok (s_Tr_parseEntries (nI L) (nI p) rf rd rv rn rfa ch (nI M) (nI N) fa) (fun u => u.1 = 0 ∧ u.2.2.2.2.2.2.1 = nI q)) ∧
     (∀ (m n : Nat) (vw ve vt vs vo v2 : Int32) (vnu : UInt64) (na nb nc : (Nat → UInt64)) (x1 : Int32), Ok (s_M_readAll_J132 (nI m) (nI n) (nI L) vw ve vt (nI p) vs vo v2 (nI M) (nI N) vnu 0 tx na nb nc x1) (fun r => r.2.1 = nI q ∧ r.2.2.2.2.2.2.1 = 1))) ∨
    (∃ c : Int32, ∀ (fa : (Nat → Nat → UInt64)) (na : (Nat → UInt64)), AR M N fa na → ∃ fa' na', AR M N fa' na' ∧ (∀ (rf rd : Int32) (rv : UInt64) (rn rfa : Int32), Ok (s_Tr_parseEntries (nI L) (nI p) rf rd rv rn rfa ch (nI M) (nI N) fa) (fun u => u.1 = 1 ∧ u.2.2.2.2.2.1 = rn + c ∧ u.2.2.2.2.2.2.1 = rfa ∧ u.2.2.2.2.2.2.2 = fa')) ∧
     (∀ (m n : Nat) (vw ve vt vs vo v2 : Int32) (vnu : UInt64) (nb nc : (Nat → UInt64)) (x1 : Int32), Ok (s_M_readAll_J132 (nI m) (nI n) (nI L) vw ve vt (nI p) vs vo v2 (nI M) (nI N) vnu 0 tx na nb nc x1) (fun r => r.1 = x1 + c ∧ r.2.1 = vw ∧ r.2.2.2.1 = nI M ∧ r.2.2.2.2.1 = nI N ∧ r.2.2.2.2.2.2.1 = 0 ∧ r.2.2.2.2.2.2.2.1 = na' ∧ r.2.2.2.2.2.2.2.2.1 = nb ∧ r.2.2.2.2.2.2.2.2.2 = nc))) := by
  rcases j_entries hL htx hM hN L p 0 (by omega) (by omega) hp with ⟨q, hq, c, r⟩ | ⟨cc, hh⟩
  · left
    refine ⟨q, hq, fun rf rd rv rn rfa fa => ?_, fun m n vw ve vt vs vo v2 vnu na nb nc x1 => ?_⟩
    · unfold s_Tr_parseEntries s_Tr_parseEntries_L2
      refine Ok.bind (c rf rd rv rn rfa fa 2000 (by omega)) ?_
      rintro _ ⟨w, rfl, w1, w2⟩
      exact Ok.mk ⟨w1, w2⟩
    · unfold s_M_readAll_J132 s_M_readAll_L143
      rw [if_pos rfl, e_skip _ _ _ _ _ _ _ _ _ _ hL hp htx]
      simp only [Option.bind_some]
      refine Ok.bind (r m n vw ve vt vs vo v2 vnu na nb nc x1 2000 (by omega)) ?_
      rintro w ⟨w1, w2⟩
      exact Ok.mk ⟨w1, w2⟩
  · right
    refine ⟨cc, fun fa na ha => ?_⟩
    obtain ⟨fa', na', ha', c, r⟩ := hh fa na ha
    refine ⟨fa', na', ha', fun rf rd rv rn rfa => ?_, fun m n vw ve vt vs vo v2 vnu nb nc x1 => ?_⟩
    · unfold s_Tr_parseEntries s_Tr_parseEntries_L2
      refine Ok.bind (c rf rd rv rn rfa 2000 (by omega)) ?_
      rintro _ ⟨w, rfl, w1, w2, w3⟩
      exact Ok.mk ⟨rfl, w1, w2, w3⟩
    · unfold s_M_readAll_J132 s_M_readAll_L143
      rw [if_pos rfl, e_skip _ _ _ _ _ _ _ _ _ _ hL hp htx]
      simp only [Option.bind_some]
      refine Ok.bind (r m n vw ve vt vs vo v2 vnu nb nc x1 2000 (by omega)) ?_
      rintro w ⟨w1, w2, w3, w4⟩
      exact Ok.mk ⟨w4, w1, rfl, rfl, w2, w3, rfl, rfl⟩
/-! the reference once it has failed -/
theorem rl_132b {m n L : Nat} {tx : Nat → Int32} (vw ve vt va vs vo v2 vnm vnn : Int32) (vnu : UInt64) (na nb nc : (Nat → UInt64)) (x1 : Int32) : Ok (s_M_readAll_J132 (nI m) (nI n) (nI L) vw ve vt va vs vo v2 vnm vnn vnu 1 tx na nb nc x1) (fun r => r.2.1 = vw ∧ r.2.2.2.2.2.2.1 = 1) := by
  unfold s_M_readAll_J132 s_M_readAll_L143
  rw [if_neg i32_10]
  refine Ok.bind (P := fun r => r.1 = vw ∧ r.2.2.2.1 = 1) ?_ ?_
  · exact Ok.loop1 (by omega) (Ok.of (rE_bad rfl) ⟨rfl, rfl⟩)
  · rintro w ⟨w1, w2⟩
    exact Ok.mk ⟨w1, w2⟩
theorem rl_87b {m n L : Nat} {tx : Nat → Int32} (vw ve vt va vs vo v2 vnm vnn : Int32) (vnu : UInt64) (na nb nc : (Nat → UInt64)) (x1 : Int32) : Ok (s_M_readAll_J85 (nI m) (nI n) (nI L) vw ve vt va vs vo v2 vnm vnn vnu 1 tx na nb nc x1) (fun r => r.2.1 = vw ∧ r.2.2.2.2.2.2.1 = 1) := by
  unfold s_M_readAll_J85 s_M_readAll_L87
  refine Ok.bind (P := fun r => r.1 = vw ∧ r.2.2.2.1 = 1) ?_ ?_
  · exact Ok.loop1 (by omega) (Ok.of (rB_bad (A := 5) (nx := fun vw va vnu vb => s_M_next (nI m) (nI n) (nI L) vw ve vt va vs vo v2 vnm vnn vnu vb tx 0 13875379345695965184 4652007308841189376) rfl) ⟨rfl, rfl⟩)
  · rintro w ⟨w1, w2⟩
    rw [w1, w2]
    exact rl_132b _ _ _ _ _ _ _ _ _ _ _ _ _ _
theorem rl_40b {m n L : Nat} {tx : Nat → Int32} (vw ve vt va vs vo v2 vnm vnn : Int32) (vnu : UInt64) (na nb nc : (Nat → UInt64)) (x1 : Int32) : Ok (s_M_readAll_L40 (nI m) (nI n) (nI L) vw ve vt va vs vo v2 vnm vnn vnu 1 tx na nb nc x1 0) (fun r => r.2.1 = vw ∧ r.2.2.2.2.2.2.1 = 1) := by
  unfold s_M_readAll_L40
  refine Ok.bind (P := fun r => r.1 = vw ∧ r.2.2.2.1 = 1) ?_ ?_
  · exact Ok.loop1 (by omega) (Ok.of (rB_bad (A := 8) (nx := fun vw va vnu vb => s_M_next (nI m) (nI n) (nI L) vw ve vt va vs vo v2 vnm vnn vnu vb tx 0 13875379345695965184 4652007308841189376) rfl) ⟨rfl, rfl⟩)
  · rintro w ⟨w1, w2⟩
    rw [w1, w2]
    exact rl_87b _ _ _ _ _ _ _ _ _ _ _ _ _ _
