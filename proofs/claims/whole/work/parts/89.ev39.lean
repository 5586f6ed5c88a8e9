/-! reading: a number, a whole number, a value -/
theorem j_num {L p w : Nat} {ch tx : Nat → Int32} (hL : L ≤ 300) (hp : p ≤ L) (htx : ∀ p, p < L → tx p = ch p) (hw2 : w < 2) :
    (∃ q, q ≤ L ∧ (∀ (rf rd : Int32) (rv : UInt64) (rn rfa : Int32), Ok (s_Tr_parseNumber (nI L) (nI p) rf rd rv rn rfa ch (nI w)) (fun r => r.1 = 0 ∧ r.2.2.2.2.2.2 = nI q)) ∧
     (∀ (m n : Nat) (vw ve vt vs vo v2 vnm vnn : Int32) (vnu lo hi : UInt64), Ok (s_M_next (nI m) (nI n) (nI L) vw ve vt (nI p) vs vo v2 vnm vnn vnu 0 tx (nI w) lo hi) (fun r => r.1 = nI q ∧ r.2.2.2 = 1))) ∨
    (∃ q v, rN L ch p < q ∧ q ≤ L ∧ NV w v ∧ (∀ (rf rd : Int32) (rv : UInt64) (rn rfa : Int32), Ok (s_Tr_parseNumber (nI L) (nI p) rf rd rv rn rfa ch (nI w)) (fun r => r.1 = 1 ∧ r.2.1 = nI q ∧ r.2.2.1 = nI (rN L ch p) ∧ r.2.2.2.2.1 = v ∧ r.2.2.2.2.2.1 = rn + 1 ∧ r.2.2.2.2.2.2 = rfa)) ∧
     (∀ (m n : Nat) (vw ve vt vs vo v2 vnm vnn : Int32) (vnu lo hi : UInt64), nnan lo → nnan hi → s_M_next (nI m) (nI n) (nI L) vw ve vt (nI p) vs vo v2 vnm vnn vnu 0 tx (nI w) lo hi = some (if zv v < zv lo ∨ zv hi < zv v then (nI (rN L ch p), nI q, v, 1) else (vw, nI q, v, 0)))) := by
  have hf := (rN_ge (ch := ch) hp).2
  by_cases hneg : w = 0 ∧ rN L ch p < L ∧ ch (rN L ch p) = 45
  · obtain ⟨rfl, hl, h45⟩ := hneg
    have C0 : ∀ (rf rd : Int32) (rv : UInt64) (rn rfa : Int32), s_Tr_parseNumber (nI L) (nI p) rf rd rv rn rfa ch (nI 0) = s_Tr_parseNumber_J36 (nI L) (nI (rN L ch p + 1)) (nI (rN L ch p)) 0 rv rn rfa ch (nI 0) (nI 1) := by
      intro rf rd rv rn rfa
      unfold s_Tr_parseNumber
      obtain ⟨r, er, h1, h2⟩ := e_reachNumber (ch := ch) rf rd rv rn rfa hL hp
      rw [er]
      simp only [Option.bind_some]
      rw [if_pos nI_0, h1]
      unfold s_Tr_skip
      rw [if_neg (nI_ge (by omega) (by omega)), inb_nI (by omega) (by omega), nI_clamp (by omega), if_pos h45, nI_1]
      rfl
    have M0 : ∀ (m n : Nat) (vw ve vt vs vo v2 vnm vnn : Int32) (vnu lo hi : UInt64), s_M_next (nI m) (nI n) (nI L) vw ve vt (nI p) vs vo v2 vnm vnn vnu 0 tx (nI 0) lo hi = s_M_next_J53 (nI m) (nI n) (nI L) vw ve vt (nI (rN L ch p + 1)) vs vo v2 vnm vnn vnu 0 tx (nI 0) lo hi (nI (rN L ch p)) (nI 1) := by
      intro m n vw ve vt vs vo v2 vnm vnn vnu lo hi
      unfold s_M_next s_M_next_J36
      rw [if_pos rfl, e_skip _ _ _ _ _ _ _ _ _ _ hL hp htx]
      simp only [Option.bind_some]
      rw [e_here _ _ _ _ _ _ _ _ _ _ hL hf, if_pos hl, htx _ hl, h45]
      simp only [Option.bind_some, ↓reduceIte]
      rw [if_pos nI_0, if_neg i32_10, nI_1]
      rfl
    rcases j_mid (f := rN L ch p) hL (show rN L ch p + 1 ≤ L by omega) htx hw2 (show 1 < 2 by omega) (fun h => absurd h (by omega)) with ⟨q, a, c, r⟩ | ⟨q, v, a, b, k, c, r⟩
    · left
      exact ⟨q, a, fun rf rd rv rn rfa => by rw [C0]; exact c _ rv rn rfa, fun m n vw ve vt vs vo v2 vnm vnn vnu lo hi => by rw [M0]; exact r m n vw ve vt vs vo v2 vnm vnn vnu lo hi⟩
    · right
      exact ⟨q, v, by omega, b, k, fun rf rd rv rn rfa => by rw [C0]; exact c _ rv rn rfa, fun m n vw ve vt vs vo v2 vnm vnn vnu lo hi x y => by rw [M0]; exact r m n vw ve vt vs vo v2 vnm vnn vnu lo hi x y⟩
  · have C0 : ∀ (rf rd : Int32) (rv : UInt64) (rn rfa : Int32), s_Tr_parseNumber (nI L) (nI p) rf rd rv rn rfa ch (nI w) = s_Tr_parseNumber_J36 (nI L) (nI (rN L ch p)) (nI (rN L ch p)) 0 rv rn rfa ch (nI w) (nI 0) := by
      intro rf rd rv rn rfa
      unfold s_Tr_parseNumber
      obtain ⟨r, er, h1, h2⟩ := e_reachNumber (ch := ch) rf rd rv rn rfa hL hp
      rw [er]
      simp only [Option.bind_some]
      rw [h1]
      by_cases hw : w = 0
      · subst hw
        rw [if_pos nI_0]
        unfold s_Tr_skip
        by_cases hl : rN L ch p < L
        · rw [if_neg (nI_ge (by omega) (by omega)), inb_nI (by omega) (by omega), nI_clamp (by omega), if_neg (fun e => hneg ⟨rfl, hl, e⟩)]
          rfl
        · rw [if_pos (nI_le (by omega) (by omega))]
          rfl
      · rw [if_neg (nI_ne0 (by omega) (by omega))]
        rfl
    have M0 : ∀ (m n : Nat) (vw ve vt vs vo v2 vnm vnn : Int32) (vnu lo hi : UInt64), s_M_next (nI m) (nI n) (nI L) vw ve vt (nI p) vs vo v2 vnm vnn vnu 0 tx (nI w) lo hi = s_M_next_J53 (nI m) (nI n) (nI L) vw ve vt (nI (rN L ch p)) vs vo v2 vnm vnn vnu 0 tx (nI w) lo hi (nI (rN L ch p)) (nI 0) := by
      intro m n vw ve vt vs vo v2 vnm vnn vnu lo hi
      unfold s_M_next
      rw [if_pos rfl, e_skip _ _ _ _ _ _ _ _ _ _ hL hp htx]
      simp only [Option.bind_some]
      rw [e_here _ _ _ _ _ _ _ _ _ _ hL hf]
      simp only [Option.bind_some]
      have J35 : s_M_next_J35 (nI m) (nI n) (nI L) vw ve vt (nI (rN L ch p)) vs vo v2 vnm vnn vnu 0 tx (nI w) lo hi (nI (rN L ch p)) = s_M_next_J53 (nI m) (nI n) (nI L) vw ve vt (nI (rN L ch p)) vs vo v2 vnm vnn vnu 0 tx (nI w) lo hi (nI (rN L ch p)) (nI 0) := by
        unfold s_M_next_J35 s_M_next_J36
        rw [if_pos rfl]
        rfl
      by_cases hl : rN L ch p < L
      · rw [if_pos hl, htx _ hl]
        by_cases c : ch (rN L ch p) = 45
        · rw [if_pos c, if_neg (nI_ne0 (by
            refine Nat.pos_of_ne_zero fun hw => ?_
            exact hneg ⟨hw, hl, c⟩) (by omega))]
          exact J35
        · rw [if_neg c]
          exact J35
      · rw [if_neg hl, if_neg i32_m1.2.2.2.1]
        exact J35
    rcases j_mid (f := rN L ch p) (s := 0) hL hf htx hw2 (by omega) (fun _ => rfl) with ⟨q, a, c, r⟩ | ⟨q, v, a, b, k, c, r⟩
    · left
      exact ⟨q, a, fun rf rd rv rn rfa => by rw [C0]; exact c _ rv rn rfa, fun m n vw ve vt vs vo v2 vnm vnn vnu lo hi => by rw [M0]; exact r m n vw ve vt vs vo v2 vnm vnn vnu lo hi⟩
    · right
      exact ⟨q, v, a, b, k, fun rf rd rv rn rfa => by rw [C0]; exact c _ rv rn rfa, fun m n vw ve vt vs vo v2 vnm vnn vnu lo hi x y => by rw [M0]; exact r m n vw ve vt vs vo v2 vnm vnn vnu lo hi x y⟩
theorem zv_nlt {a b : Nat} (ha : a < 2 ^ 31) (hb : b < 2 ^ 31) : zv (FP.i2d (nI a)) < zv (FP.i2d (nI b)) ↔ a < b := by
  rw [zv_i2d, zv_i2d, nI_toInt ha, nI_toInt hb]
  have h : (0 : Int) < ((2 ^ 1074 : Nat) : Int) := Int.ofNat_lt.mpr (Nat.two_pow_pos _)
  rw [Int.mul_lt_mul_right h]
  exact Int.ofNat_lt
theorem i2d_1 : FP.dconst1 = FP.i2d (nI 1) := by decide +kernel
theorem i2d_5 : (4617315517961601024 : UInt64) = FP.i2d (nI 5) := by decide +kernel
theorem i2d_8 : (4620693217682128896 : UInt64) = FP.i2d (nI 8) := by decide +kernel
theorem j_whole {L p K : Nat} {ch tx : Nat → Int32} (hL : L ≤ 300) (hp : p ≤ L) (htx : ∀ p, p < L → tx p = ch p) (hK : K ≤ 8) :
    (∃ q, q ≤ L ∧ (∀ (rf rd : Int32) (rv : UInt64) (rn rfa : Int32), Ok (s_Tr_parseWhole (nI L) (nI p) rf rd rv rn rfa ch (nI K)) (fun r => r.1 = 0 ∧ r.2.2.2.2.2.2 = nI q)) ∧
     (∀ (m n : Nat) (vw ve vt vs vo v2 vnm vnn : Int32) (vnu : UInt64), Ok (s_M_next (nI m) (nI n) (nI L) vw ve vt (nI p) vs vo v2 vnm vnn vnu 0 tx 1 FP.dconst1 (FP.i2d (nI K))) (fun r => r.1 = nI q ∧ r.2.2.2 = 1))) ∨
    (∃ q V, rN L ch p < q ∧ q ≤ L ∧ 1 ≤ V ∧ V ≤ K ∧ (∀ (rf rd : Int32) (rv : UInt64) (rn rfa : Int32), Ok (s_Tr_parseWhole (nI L) (nI p) rf rd rv rn rfa ch (nI K)) (fun r => r.1 = 1 ∧ r.2.1 = nI q ∧ r.2.2.2.2.1 = FP.i2d (nI V) ∧ r.2.2.2.2.2.1 = rn + 1 ∧ r.2.2.2.2.2.2 = rfa)) ∧
     (∀ (m n : Nat) (vw ve vt vs vo v2 vnm vnn : Int32) (vnu : UInt64), s_M_next (nI m) (nI n) (nI L) vw ve vt (nI p) vs vo v2 vnm vnn vnu 0 tx 1 FP.dconst1 (FP.i2d (nI K)) = some (vw, nI q, FP.i2d (nI V), 0))) := by
  have hf := (rN_ge (ch := ch) hp).2
  have n1 : nnan (FP.i2d (nI 1)) := (i2d_bc _).nn
  have nK : nnan (FP.i2d (nI K)) := (i2d_bc _).nn
  rw [i2d_1]
  rcases j_num (w := 1) hL hp htx (by omega) with ⟨q, a, c, r⟩ | ⟨q, v, a, b, k, c, r⟩
  · left
    refine ⟨q, a, fun rf rd rv rn rfa => ?_, fun m n vw ve vt vs vo v2 vnm vnn vnu => r m n vw ve vt vs vo v2 vnm vnn vnu _ _⟩
    unfold s_Tr_parseWhole
    obtain ⟨x, ex, h1, h2⟩ := c rf rd rv rn rfa
    rw [show s_Tr_parseNumber (nI L) (nI p) rf rd rv rn rfa ch 1 = some x from ex]
    simp only [Option.bind_some, h1, ↓reduceIte]
    exact Ok.mk ⟨rfl, h2⟩
  · obtain ⟨V, hV, rfl⟩ := k.2.2.2 rfl
    have r' := fun (m n : Nat) (vw ve vt vs vo v2 vnm vnn : Int32) (vnu : UInt64) => r m n vw ve vt vs vo v2 vnm vnn vnu (FP.i2d (nI 1)) (FP.i2d (nI K)) n1 nK
    have hz : (zv (FP.i2d (nI V)) < zv (FP.i2d (nI 1)) ∨ zv (FP.i2d (nI K)) < zv (FP.i2d (nI V))) ↔ (V < 1 ∨ K < V) := by
      rw [zv_nlt (by omega) (by omega), zv_nlt (by omega) (by omega)]
    have nV : nnan (FP.i2d (nI V)) := k.2.1
    by_cases hc : V < 1 ∨ K < V
    · left
      refine ⟨_, hf, fun rf rd rv rn rfa => ?_, fun m n vw ve vt vs vo v2 vnm vnn vnu => Ok.of (r' m n vw ve vt vs vo v2 vnm vnn vnu) (by rw [if_pos (hz.mpr hc)]; exact ⟨rfl, rfl⟩)⟩
      unfold s_Tr_parseWhole
      obtain ⟨x, ex, h1, h2, h3, h4, h5, h6⟩ := c rf rd rv rn rfa
      rw [show s_Tr_parseNumber (nI L) (nI p) rf rd rv rn rfa ch 1 = some x from ex]
      simp only [Option.bind_some, h1, h3, h4, if_neg i32_10, i2d_1, cv_lt nV n1, cv_le nV nK, zv_nlt (show V < 2 ^ 31 by omega) (show 1 < 2 ^ 31 by omega)]
      have J29 : Ok (s_Tr_parseWhole_J29 (nI L) x.2.1 (nI (rN L ch p)) x.2.2.2.1 (FP.i2d (nI V)) x.2.2.2.2.2.1 x.2.2.2.2.2.2 ch) (fun r => r.1 = 0 ∧ r.2.2.2.2.2.2 = nI (rN L ch p)) := by
        unfold s_Tr_parseWhole_J29 s_Tr_failAt
        exact Ok.mk ⟨rfl, rfl⟩
      by_cases c1 : V < 1
      · rw [if_pos c1]
        exact J29
      · rw [if_neg c1, if_neg (by
          rw [Int.not_le, zv_nlt (by omega) (by omega)]
          omega)]
        exact J29
    · right
      refine ⟨q, V, a, b, by omega, by omega, fun rf rd rv rn rfa => ?_, fun m n vw ve vt vs vo v2 vnm vnn vnu => by have e := r' m n vw ve vt vs vo v2 vnm vnn vnu; rw [if_neg (fun h => hc (hz.mp h))] at e; exact e⟩
      unfold s_Tr_parseWhole s_Tr_parseWhole_J40
      obtain ⟨x, ex, h1, h2, h3, h4, h5, h6⟩ := c rf rd rv rn rfa
      rw [show s_Tr_parseNumber (nI L) (nI p) rf rd rv rn rfa ch 1 = some x from ex]
      simp only [Option.bind_some, h1, h3, h4, if_neg i32_10, i2d_1, cv_lt nV n1, cv_le nV nK, zv_nlt (show V < 2 ^ 31 by omega) (show 1 < 2 ^ 31 by omega)]
      rw [if_neg (fun h => hc (Or.inl h)), if_pos (by
        rw [← Int.not_lt, zv_nlt (by omega) (by omega)]
        omega)]
      exact Ok.mk ⟨rfl, h2, rfl, h5, h6⟩
theorem j_value {L p : Nat} {ch tx : Nat → Int32} (hL : L ≤ 300) (hp : p ≤ L) (htx : ∀ p, p < L → tx p = ch p) :
    (∃ q, q ≤ L ∧ (∀ (rf rd : Int32) (rv : UInt64) (rn rfa : Int32), Ok (s_Tr_parseValue (nI L) (nI p) rf rd rv rn rfa ch) (fun r => r.1 = 0 ∧ r.2.2.2.2.2.2 = nI q)) ∧
     (∀ (m n : Nat) (vw ve vt vs vo v2 vnm vnn : Int32) (vnu : UInt64), Ok (s_M_next (nI m) (nI n) (nI L) vw ve vt (nI p) vs vo v2 vnm vnn vnu 0 tx 0 13875379345695965184 4652007308841189376) (fun r => r.1 = nI q ∧ r.2.2.2 = 1))) ∨
    (∃ q v, rN L ch p < q ∧ q ≤ L ∧ okn v ∧ (∀ (rf rd : Int32) (rv : UInt64) (rn rfa : Int32), Ok (s_Tr_parseValue (nI L) (nI p) rf rd rv rn rfa ch) (fun r => r.1 = 1 ∧ r.2.1 = nI q ∧ r.2.2.2.2.1 = v ∧ r.2.2.2.2.2.1 = rn + 1 ∧ r.2.2.2.2.2.2 = rfa)) ∧
     (∀ (m n : Nat) (vw ve vt vs vo v2 vnm vnn : Int32) (vnu : UInt64), s_M_next (nI m) (nI n) (nI L) vw ve vt (nI p) vs vo v2 vnm vnn vnu 0 tx 0 13875379345695965184 4652007308841189376 = some (vw, nI q, v, 0))) := by
  have hf := (rN_ge (ch := ch) hp).2
  obtain ⟨n1, n2, _, _⟩ := nn_1000
  rcases j_num (w := 0) hL hp htx (by omega) with ⟨q, a, c, r⟩ | ⟨q, v, a, b, k, c, r⟩
  · left
    refine ⟨q, a, fun rf rd rv rn rfa => ?_, fun m n vw ve vt vs vo v2 vnm vnn vnu => r m n vw ve vt vs vo v2 vnm vnn vnu _ _⟩
    unfold s_Tr_parseValue
    obtain ⟨x, ex, h1, h2⟩ := c rf rd rv rn rfa
    rw [show s_Tr_parseNumber (nI L) (nI p) rf rd rv rn rfa ch 0 = some x from ex]
    simp only [Option.bind_some, h1, ↓reduceIte]
    exact Ok.mk ⟨rfl, h2⟩
  · have r' := fun (m n : Nat) (vw ve vt vs vo v2 vnm vnn : Int32) (vnu : UInt64) => r m n vw ve vt vs vo v2 vnm vnn vnu cm1000 c1000 n2 n1
    by_cases hc : alw v
    · right
      have hn : ¬ (zv v < zv cm1000 ∨ zv c1000 < zv v) := by
        rintro (h | h)
        · exact hc.1 h
        · exact hc.2.1 h
      refine ⟨q, v, a, b, alw_okn k.1 hc, fun rf rd rv rn rfa => ?_, fun m n vw ve vt vs vo v2 vnm vnn vnu => by have e := r' m n vw ve vt vs vo v2 vnm vnn vnu; rw [if_neg hn] at e; exact e⟩
      unfold s_Tr_parseValue s_Tr_parseValue_J31
      obtain ⟨x, ex, h1, h2, h3, h4, h5, h6⟩ := c rf rd rv rn rfa
      rw [show s_Tr_parseNumber (nI L) (nI p) rf rd rv rn rfa ch 0 = some x from ex]
      simp only [Option.bind_some, h1, h3, h4, h5, h6]
      rw [if_neg i32_10]
      obtain ⟨y, ey, hy⟩ := e_isAllowed k.2.1
      rw [ey]
      simp only [Option.bind_some]
      rcases hy with ⟨rfl, _⟩ | ⟨_, hy⟩
      · rw [if_neg i32_10]
        exact Ok.mk ⟨rfl, h2, rfl, rfl, rfl⟩
      · exact absurd hc hy
    · left
      have hn : zv v < zv cm1000 ∨ zv c1000 < zv v := Classical.byContradiction fun h => hc ⟨fun q => h (Or.inl q), fun q => h (Or.inr q), k.2.2.1⟩
      refine ⟨_, hf, fun rf rd rv rn rfa => ?_, fun m n vw ve vt vs vo v2 vnm vnn vnu => Ok.of (r' m n vw ve vt vs vo v2 vnm vnn vnu) (by rw [if_pos hn]; exact ⟨rfl, rfl⟩)⟩
      unfold s_Tr_parseValue s_Tr_failAt
      obtain ⟨x, ex, h1, h2, h3, h4, h5, h6⟩ := c rf rd rv rn rfa
      rw [show s_Tr_parseNumber (nI L) (nI p) rf rd rv rn rfa ch 0 = some x from ex]
      simp only [Option.bind_some, h1, h3, h4, h5, h6]
      rw [if_neg i32_10]
      obtain ⟨y, ey, hy⟩ := e_isAllowed k.2.1
      rw [ey]
      simp only [Option.bind_some]
      rcases hy with ⟨_, hy⟩ | ⟨rfl, _⟩
      · exact absurd hy hc
      · rw [if_pos rfl]
        exact Ok.mk ⟨rfl, rfl⟩
