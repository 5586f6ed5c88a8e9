/-! reading: one number, from its first character -/
theorem mb_136 {m n L q : Nat} {tx : Nat → Int32} (vw ve vt vs vo v2 vnm vnn : Int32) (vnu lo hi : UInt64) (x6 x7 : Int32) : Ok (s_M_next_J136 (nI m) (nI n) (nI L) vw ve vt (nI q) vs vo v2 vnm vnn vnu 1 tx lo hi x6 x7) (fun r => r.1 = vw ∧ r.2.2.2 = 1) := by
  unfold s_M_next_J136 s_M_next_J180 s_M_next_J194
  simp only [if_neg i32_10]
  split
  · exact Ok.mk ⟨rfl, rfl⟩
  · exact Ok.mk ⟨rfl, rfl⟩
theorem i2d_0 : FP.dconst0 = FP.i2d (nI 0) := by decide +kernel
theorem i2d_tens : FP.i2d 10 = dvs 1 ∧ FP.i2d 100 = dvs 2 ∧ FP.i2d 1000 = dvs 3 := by decide +kernel
theorem nI_lits : nI 4 = 4 ∧ nI 3 = 3 ∧ nI 0 = 0 ∧ nI 1 = 1 ∧ nI 2 = 2 := by decide
theorem i32_u : nI 1 = 1 ∧ ¬ nI 2 = 1 ∧ nI 2 = 2 ∧ ¬ nI 3 = 1 ∧ ¬ nI 3 = 2 ∧ ¬ nI 0 = 1 ∧ ¬ nI 0 = 2 ∧ ¬ nI 1 = 0 ∧ ¬ nI 2 = 0 ∧ ¬ nI 3 = 0 := by decide
theorem j_mid {L f1 s w f : Nat} {ch tx : Nat → Int32} (hL : L ≤ 300) (hp : f1 ≤ L) (htx : ∀ p, p < L → tx p = ch p) (hw2 : w < 2) (hs : s < 2) (hws : w = 1 → s = 0) :
    (∃ q, q ≤ L ∧ (∀ (rf : Int32) (rv : UInt64) (rn rfa : Int32), Ok (s_Tr_parseNumber_J36 (nI L) (nI f1) rf 0 rv rn rfa ch (nI w) (nI s)) (fun r => r.1 = 0 ∧ r.2.2.2.2.2.2 = nI q)) ∧
     (∀ (m n : Nat) (vw ve vt vs vo v2 vnm vnn : Int32) (vnu lo hi : UInt64), Ok (s_M_next_J53 (nI m) (nI n) (nI L) vw ve vt (nI f1) vs vo v2 vnm vnn vnu 0 tx (nI w) lo hi (nI f) (nI s)) (fun r => r.1 = nI q ∧ r.2.2.2 = 1))) ∨
    (∃ q v, f1 < q ∧ q ≤ L ∧ NV w v ∧ (∀ (rf : Int32) (rv : UInt64) (rn rfa : Int32), Ok (s_Tr_parseNumber_J36 (nI L) (nI f1) rf 0 rv rn rfa ch (nI w) (nI s)) (fun r => r.1 = 1 ∧ r.2.1 = nI q ∧ r.2.2.1 = rf ∧ r.2.2.2.2.1 = v ∧ r.2.2.2.2.2.1 = rn + 1 ∧ r.2.2.2.2.2.2 = rfa)) ∧
     (∀ (m n : Nat) (vw ve vt vs vo v2 vnm vnn : Int32) (vnu lo hi : UInt64), nnan lo → nnan hi → s_M_next_J53 (nI m) (nI n) (nI L) vw ve vt (nI f1) vs vo v2 vnm vnn vnu 0 tx (nI w) lo hi (nI f) (nI s) = some (if zv v < zv lo ∨ zv hi < zv v then (nI f, nI q, v, 1) else (vw, nI q, v, 0)))) := by
  obtain ⟨t, ht, hd, he⟩ := ex_least (P := fun t => t = 4 ∨ ¬ isD L ch (f1 + t)) 4 (Or.inl rfl)
  have hd : ∀ i, i < t → isD L ch (f1 + i) := fun i hi => Classical.byContradiction fun h => hd i hi (Or.inr h)
  have tk := fun (rf : Int32) (rv : UInt64) (rn rfa : Int32) => e_takeDigits (V := 0) rf rv rn rfa hL (Nat.le_refl 4) ht hd he hp
  have md := fun (m n : Nat) (vw ve vt vs vo v2 vnm vnn : Int32) => e_mdigits (m := m) (n := n) (V := 0) vw ve vt vs vo v2 vnm vnn hL htx (Nat.le_refl 4) (by decide) ht hd he hp
  rw [nI_lits.1] at tk md
  rw [← i2d_0] at md
  rw [nI_lits.2.2.1] at tk
  by_cases h0 : t = 0
  · left
    subst h0
    refine ⟨f1, hp, fun rf rv rn rfa => ?_, fun m n vw ve vt vs vo v2 vnm vnn vnu lo hi => ?_⟩
    · unfold s_Tr_parseNumber_J36 s_Tr_failAt
      rw [tk]
      exact Ok.mk ⟨rfl, rfl⟩
    · unfold s_M_next_J53
      rw [md]
      simp only [Option.bind_some, ↓reduceIte, if_neg i32_10]
      exact mb_136 _ _ _ _ _ _ _ _ _ _ _ _ _
  · have hpt : f1 + t ≤ L := by
      have := (hd (t - 1) (by omega)).1
      omega
    have hV := dV_lt (V := 0) (B := 1) (by omega) t hd
    have hV4 : dV ch f1 0 t < 10000 := by
      have h4 : 10 ^ t ≤ 10 ^ 4 := Nat.pow_le_pow_right (by omega) ht
      omega
    have ht0 : ¬ nI t = 0 := nI_ne0 (by omega) (by omega)
    by_cases hdot : w = 0 ∧ f1 + t < L ∧ ch (f1 + t) = 46
    · obtain ⟨rfl, hl, h46⟩ := hdot
      obtain ⟨u, hu, hd2, he2⟩ := ex_least (P := fun u => u = 3 ∨ ¬ isD L ch (f1 + t + 1 + u)) 3 (Or.inl rfl)
      have hd2 : ∀ i, i < u → isD L ch (f1 + t + 1 + i) := fun i hi => Classical.byContradiction fun h => hd2 i hi (Or.inr h)
      have tk2 := fun (rf : Int32) (rv : UInt64) (rn rfa : Int32) => e_takeDigits (V := dV ch f1 0 t) rf rv rn rfa hL (show 3 ≤ 4 by omega) hu hd2 he2 (show f1 + t + 1 ≤ L by omega)
      have md2 := fun (m n : Nat) (vw ve vt vs vo v2 vnm vnn : Int32) => e_mdigits (m := m) (n := n) (V := dV ch f1 0 t) vw ve vt vs vo v2 vnm vnn hL htx (show 3 ≤ 4 by omega) (by omega) hu hd2 he2 (show f1 + t + 1 ≤ L by omega)
      rw [nI_lits.2.1] at tk2 md2
      have hV7 : dV ch (f1 + t + 1) (dV ch f1 0 t) u < 20000000 := by
        have h1 := dV_lt (V := dV ch f1 0 t) (B := 10000) hV4 u hd2
        have h4 : 10 ^ u ≤ 10 ^ 3 := Nat.pow_le_pow_right (by omega) hu
        omega
      have sk : ∀ (rf rd : Int32) (rv : UInt64) (rn rfa : Int32), s_Tr_skip (nI L) (nI (f1 + t)) rf rd rv rn rfa ch 46 = some (1, nI (f1 + t + 1)) := by
        intro rf rd rv rn rfa
        unfold s_Tr_skip
        rw [if_neg (nI_ge (by omega) (by omega)), inb_nI (by omega) (by omega), nI_clamp (by omega), if_pos h46, nI_1]
        rfl
      have C0 : ∀ (rf : Int32) (rv : UInt64) (rn rfa : Int32) (Q : Int32 × Int32 × Int32 × Int32 × UInt64 × Int32 × Int32 → Prop), (u = 0 → Q (0, nI (f1 + t + 1 + u), rf, nI (dV ch (f1 + t + 1) (dV ch f1 0 t) u), rv, rn, nI (f1 + t + 1))) → (0 < u → Ok (s_Tr_parseNumber_J118 (nI L) (nI (f1 + t + 1 + u)) rf (nI (dV ch (f1 + t + 1) (dV ch f1 0 t) u)) rv rn rfa ch (nI s) (dvs u)) Q) → Ok (s_Tr_parseNumber_J36 (nI L) (nI f1) rf 0 rv rn rfa ch (nI 0) (nI s)) Q := by
        intro rf rv rn rfa Q q0 q1
        unfold s_Tr_parseNumber_J36 s_Tr_parseNumber_J117
        rw [tk]
        simp only [Option.bind_some, if_neg ht0]
        rw [if_pos nI_0, sk]
        simp only [Option.bind_some, if_neg i32_10]
        rw [tk2]
        simp only [Option.bind_some]
        have : u = 0 ∨ u = 1 ∨ u = 2 ∨ u = 3 := by omega
        rcases this with rfl | rfl | rfl | rfl
        · rw [if_pos nI_0]
          exact Ok.mk (q0 rfl)
        · rw [if_neg i32_u.2.2.2.2.2.2.2.1, if_pos i32_u.1]
          exact q1 (by omega)
        · rw [if_neg i32_u.2.2.2.2.2.2.2.2.1, if_neg i32_u.2.1, if_pos i32_u.2.2.1]
          exact q1 (by omega)
        · rw [if_neg i32_u.2.2.2.2.2.2.2.2.2, if_neg i32_u.2.2.2.1, if_neg i32_u.2.2.2.2.1]
          exact q1 (by omega)
      have M0 : ∀ (m n : Nat) (vw ve vt vs vo v2 vnm vnn : Int32) (vnu lo hi : UInt64) (Q : Int32 × Int32 × UInt64 × Int32 → Prop), (u = 0 → Ok (s_M_next_J136 (nI m) (nI n) (nI L) (nI (f1 + t + 1)) ve vt (nI (f1 + t + 1 + u)) vs vo v2 vnm vnn (FP.ddiv (FP.i2d (nI (dV ch (f1 + t + 1) (dV ch f1 0 t) u))) (dvs 3)) 1 tx lo hi (nI f) (nI s)) Q) → (0 < u → Ok (s_M_next_J136 (nI m) (nI n) (nI L) vw ve vt (nI (f1 + t + 1 + u)) vs vo v2 vnm vnn (FP.ddiv (FP.i2d (nI (dV ch (f1 + t + 1) (dV ch f1 0 t) u))) (dvs u)) 0 tx lo hi (nI f) (nI s)) Q) → Ok (s_M_next_J53 (nI m) (nI n) (nI L) vw ve vt (nI f1) vs vo v2 vnm vnn vnu 0 tx (nI 0) lo hi (nI f) (nI s)) Q := by
        intro m n vw ve vt vs vo v2 vnm vnn vnu lo hi Q q0 q1
        unfold s_M_next_J53 s_M_next_J131
        rw [md]
        simp only [Option.bind_some, if_neg h0, ↓reduceIte]
        rw [e_here _ _ _ _ _ _ _ _ _ _ hL hpt, if_pos hl, htx _ hl, h46]
        simp only [Option.bind_some, ↓reduceIte]
        rw [if_pos nI_0, nI_1, md2]
        simp only [Option.bind_some]
        rw [i2d_tens.1, i2d_tens.2.1, i2d_tens.2.2]
        have : u = 0 ∨ u = 1 ∨ u = 2 ∨ u = 3 := by omega
        have g1 := isn_of (div_num hV7 (show 1 < 4 by omega)).1.nn
        have g2 := isn_of (div_num hV7 (show 2 < 4 by omega)).1.nn
        have g3 := isn_of (div_num hV7 (show 3 < 4 by omega)).1.nn
        rcases this with rfl | rfl | rfl | rfl
        · rw [if_neg i32_u.2.2.2.2.2.1, if_neg i32_u.2.2.2.2.2.2.1, g3]
          exact q0 rfl
        · rw [if_pos i32_u.1, g1]
          exact q1 (by omega)
        · rw [if_neg i32_u.2.1, if_pos i32_u.2.2.1, g2]
          exact q1 (by omega)
        · rw [if_neg i32_u.2.2.2.1, if_neg i32_u.2.2.2.2.1, g3]
          exact q1 (by omega)
      by_cases hu0 : u = 0
      · left
        refine ⟨f1 + t + 1, by omega, fun rf rv rn rfa => C0 rf rv rn rfa _ (fun _ => ⟨rfl, rfl⟩) (fun h => absurd hu0 (by omega)), fun m n vw ve vt vs vo v2 vnm vnn vnu lo hi => M0 m n vw ve vt vs vo v2 vnm vnn vnu lo hi _ (fun _ => mb_136 _ _ _ _ _ _ _ _ _ _ _ _ _) (fun h => absurd hu0 (by omega))⟩
      · have hq : f1 + t + 1 + u ≤ L := by
          have := (hd2 (u - 1) (by omega)).1
          omega
        rcases j_fin (w := 0) (f := f) hL hq htx hV7 (show u < 4 by omega) (fun h => absurd h (by omega)) hs with ⟨c, r⟩ | ⟨v, c, r⟩
        · left
          exact ⟨_, hq, fun rf rv rn rfa => C0 rf rv rn rfa _ (fun h => absurd h hu0) (fun _ => c rf rv rn rfa), fun m n vw ve vt vs vo v2 vnm vnn vnu lo hi => M0 m n vw ve vt vs vo v2 vnm vnn vnu lo hi _ (fun h => absurd h hu0) (fun _ => r m n vw ve vt vs vo v2 vnm vnn lo hi)⟩
        · right
          exact ⟨_, _, by omega, hq, v, fun rf rv rn rfa => C0 rf rv rn rfa _ (fun h => absurd h hu0) (fun _ => c rf rv rn rfa), fun m n vw ve vt vs vo v2 vnm vnn vnu lo hi a b => Ok.eq (M0 m n vw ve vt vs vo v2 vnm vnn vnu lo hi _ (fun h => absurd h hu0) (fun _ => Ok.of (r m n vw ve vt vs vo v2 vnm vnn lo hi a b) rfl))⟩
    · have C0 : ∀ (rf : Int32) (rv : UInt64) (rn rfa : Int32), s_Tr_parseNumber_J36 (nI L) (nI f1) rf 0 rv rn rfa ch (nI w) (nI s) = s_Tr_parseNumber_J118 (nI L) (nI (f1 + t)) rf (nI (dV ch f1 0 t)) rv rn rfa ch (nI s) (dvs 0) := by
        intro rf rv rn rfa
        unfold s_Tr_parseNumber_J36
        rw [tk]
        simp only [Option.bind_some, if_neg ht0]
        by_cases hw : w = 0
        · rw [if_pos (by rw [hw]; rfl)]
          have sk : ∀ (rf rd : Int32) (rv : UInt64) (rn rfa : Int32), s_Tr_skip (nI L) (nI (f1 + t)) rf rd rv rn rfa ch 46 = some (0, nI (f1 + t)) := by
            intro rf rd rv rn rfa
            unfold s_Tr_skip
            by_cases hl : f1 + t < L
            · rw [if_neg (nI_ge (by omega) (by omega)), inb_nI (by omega) (by omega), nI_clamp (by omega), if_neg (fun e => hdot ⟨hw, hl, e⟩)]
              rfl
            · rw [if_pos (nI_le (by omega) (by omega))]
              rfl
          rw [sk]
          rfl
        · rw [if_neg (nI_ne0 (by omega) (by omega))]
          rfl
      have M0 : ∀ (m n : Nat) (vw ve vt vs vo v2 vnm vnn : Int32) (vnu lo hi : UInt64), s_M_next_J53 (nI m) (nI n) (nI L) vw ve vt (nI f1) vs vo v2 vnm vnn vnu 0 tx (nI w) lo hi (nI f) (nI s) = s_M_next_J136 (nI m) (nI n) (nI L) vw ve vt (nI (f1 + t)) vs vo v2 vnm vnn (FP.ddiv (FP.i2d (nI (dV ch f1 0 t))) (dvs 0)) 0 tx lo hi (nI f) (nI s) := by
        intro m n vw ve vt vs vo v2 vnm vnn vnu lo hi
        have e1 : FP.ddiv (FP.i2d (nI (dV ch f1 0 t))) (dvs 0) = FP.i2d (nI (dV ch f1 0 t)) := nVal_w
        rw [e1]
        unfold s_M_next_J53
        rw [md]
        simp only [Option.bind_some, if_neg h0, ↓reduceIte]
        rw [e_here _ _ _ _ _ _ _ _ _ _ hL hpt]
        simp only [Option.bind_some]
        by_cases hl : f1 + t < L
        · rw [if_pos hl, htx _ hl]
          by_cases c : ch (f1 + t) = 46
          · rw [if_pos c, if_neg (nI_ne0 (by
              refine Nat.pos_of_ne_zero fun hw => ?_
              exact hdot ⟨hw, hl, c⟩) (by omega))]
          · rw [if_neg c]
        · rw [if_neg hl, if_neg i32_m1.2.2.2.2.1]
      rcases j_fin (w := w) (f := f) hL hpt htx (show dV ch f1 0 t < 20000000 by omega) (show 0 < 4 by omega) (fun h => ⟨hws h, rfl⟩) hs with ⟨c, r⟩ | ⟨v, c, r⟩
      · left
        exact ⟨_, hpt, fun rf rv rn rfa => by rw [C0]; exact c rf rv rn rfa, fun m n vw ve vt vs vo v2 vnm vnn vnu lo hi => by rw [M0]; exact r m n vw ve vt vs vo v2 vnm vnn lo hi⟩
      · right
        exact ⟨_, _, by omega, hpt, v, fun rf rv rn rfa => by rw [C0]; exact c rf rv rn rfa, fun m n vw ve vt vs vo v2 vnm vnn vnu lo hi a b => by rw [M0]; exact r m n vw ve vt vs vo v2 vnm vnn lo hi a b⟩
