/-! reading: one number -/
def dvs (u : Nat) : UInt64 := if u = 0 then FP.dconst1 else if u = 1 then 4621819117588971520 else if u = 2 then 4636737291354636288 else 4652007308841189376
def nVal (s V u : Nat) : UInt64 := if s = 0 then FP.ddiv (FP.i2d (nI V)) (dvs u) else FP.dneg (FP.ddiv (FP.i2d (nI V)) (dvs u))
def NV (w : Nat) (v : UInt64) : Prop := FP.Core.DFin v ∧ nnan v ∧ (zv v = 0 ∨ ¬ zv (dabs v) < zv c6) ∧ (w = 1 → ∃ V, V < 20000000 ∧ v = FP.i2d (nI V))
theorem dvs_f : ∀ u, u < 4 → fin64 (dvs u) = true ∧ 2 ^ 1074 ≤ mz (dvs u) ∧ mz (dvs u) ≤ 2 ^ 1084 := by decide +kernel
theorem c6_le : zv c6 ≤ ((2 ^ 1064 : Nat) : Int) := by decide +kernel
theorem mz_0 : mz FP.dconst0 = 0 := by decide +kernel
theorem mz_i2d {V : Nat} (h : V < 20000000) : mz (FP.i2d (nI V)) = V * 2 ^ 1074 := by
  have e := congrArg Int.natAbs (zv_i2d (nI V))
  rw [zv_mz, Int.natAbs_mul, Int.natAbs_natCast, nI_toInt (by omega)] at e
  rw [e]
  rfl
theorem div_num {V u : Nat} (h : V < 20000000) (hu : u < 4) : Bc 1 1105 (FP.ddiv (FP.i2d (nI V)) (dvs u)) ∧ (mz (FP.ddiv (FP.i2d (nI V)) (dvs u)) = 0 ∨ 2 ^ 1064 ≤ mz (FP.ddiv (FP.i2d (nI V)) (dvs u))) := by
  obtain ⟨a, b, c⟩ := dvs_f u hu
  refine ⟨div_bc (i2d_bc _) (fin_of a) b (by decide) (by decide), ?_⟩
  have hm := mz_i2d h
  have p0 : 0 < mz (dvs u) := Nat.lt_of_lt_of_le (Nat.two_pow_pos _) b
  by_cases h0 : V = 0
  · left
    have r := (rr_div (FP.Core.i2d_fin (nI V)) (fin_of a) p0).le (V := 0) (by rw [← mz_0]; exact rep_mz nn_0) (by
      have : mz (FP.Core.i2d (nI V)) = V * 2 ^ 1074 := hm
      rw [this, h0, Nat.zero_mul, Nat.zero_mul]
      exact Nat.zero_le _)
    exact Nat.le_zero.mp r
  · right
    refine div_ge (K := 1074) (L := 1084) (FP.Core.i2d_fin _) (fin_of a) p0 ?_ c (by decide) (by decide)
    have : mz (FP.Core.i2d (nI V)) = V * 2 ^ 1074 := hm
    rw [this]
    exact Nat.le_mul_of_pos_left _ (Nat.pos_of_ne_zero h0)
theorem nVal_ok {s V u : Nat} (h : V < 20000000) (hu : u < 4) : FP.Core.DFin (nVal s V u) ∧ nnan (nVal s V u) ∧ (zv (nVal s V u) = 0 ∨ ¬ zv (dabs (nVal s V u)) < zv c6) := by
  obtain ⟨a, b⟩ := div_num h hu
  have k : Bc 1 1105 (nVal s V u) ∧ (mz (nVal s V u) = 0 ∨ 2 ^ 1064 ≤ mz (nVal s V u)) := by
    unfold nVal
    split
    · exact ⟨a, b⟩
    · exact ⟨a.neg, by rw [mz_neg]; exact b⟩
  refine ⟨k.1.fin, k.1.nn, ?_⟩
  rcases k.2 with e | e
  · left
    have q := zv_mz (nVal s V u)
    rw [e] at q
    exact Int.natAbs_eq_zero.mp q
  · right
    refine Int.not_lt.mpr (Int.le_trans c6_le ?_)
    rw [zv_abs, zv_mz]
    exact Int.ofNat_le.mpr e
theorem nVal_w {V : Nat} : nVal 0 V 0 = FP.i2d (nI V) := by
  unfold nVal dvs
  rw [if_pos rfl, if_pos rfl]
  exact FP.Core.ddiv_one (i2d_bc (nI V)).nn
theorem j_fin {L q V u s w f : Nat} {ch tx : Nat → Int32} (hL : L ≤ 300) (hq : q ≤ L) (htx : ∀ p, p < L → tx p = ch p) (hV : V < 20000000) (hu : u < 4) (hw : w = 1 → s = 0 ∧ u = 0) (hs : s < 2) :
    ((∀ (rf : Int32) (rv : UInt64) (rn rfa : Int32), Ok (s_Tr_parseNumber_J118 (nI L) (nI q) rf (nI V) rv rn rfa ch (nI s) (dvs u)) (fun r => r.1 = 0 ∧ r.2.2.2.2.2.2 = nI q)) ∧
     (∀ (m n : Nat) (vw ve vt vs vo v2 vnm vnn : Int32) (lo hi : UInt64), Ok (s_M_next_J136 (nI m) (nI n) (nI L) vw ve vt (nI q) vs vo v2 vnm vnn (FP.ddiv (FP.i2d (nI V)) (dvs u)) 0 tx lo hi (nI f) (nI s)) (fun r => r.1 = nI q ∧ r.2.2.2 = 1))) ∨
    (NV w (nVal s V u) ∧ (∀ (rf : Int32) (rv : UInt64) (rn rfa : Int32), Ok (s_Tr_parseNumber_J118 (nI L) (nI q) rf (nI V) rv rn rfa ch (nI s) (dvs u)) (fun r => r.1 = 1 ∧ r.2.1 = nI q ∧ r.2.2.1 = rf ∧ r.2.2.2.2.1 = nVal s V u ∧ r.2.2.2.2.2.1 = rn + 1 ∧ r.2.2.2.2.2.2 = rfa)) ∧
     (∀ (m n : Nat) (vw ve vt vs vo v2 vnm vnn : Int32) (lo hi : UInt64), nnan lo → nnan hi → s_M_next_J136 (nI m) (nI n) (nI L) vw ve vt (nI q) vs vo v2 vnm vnn (FP.ddiv (FP.i2d (nI V)) (dvs u)) 0 tx lo hi (nI f) (nI s) = some (if zv (nVal s V u) < zv lo ∨ zv hi < zv (nVal s V u) then (nI f, nI q, nVal s V u, 1) else (vw, nI q, nVal s V u, 0)))) := by
  have di := (div_num hV hu).1.nn
  have vk := nVal_ok (s := s) hV hu
  have s01 : s = 0 ∨ s = 1 := by omega
  have C166 : ∀ (rf : Int32) (rv : UInt64) (rn rfa : Int32), Ok (s_Tr_parseNumber_J166 (nI L) (nI q) rf (nI V) rv rn rfa ch (nI s) (dvs u)) (fun r => r.1 = 1 ∧ r.2.1 = nI q ∧ r.2.2.1 = rf ∧ r.2.2.2.2.1 = nVal s V u ∧ r.2.2.2.2.2.1 = rn + 1 ∧ r.2.2.2.2.2.2 = rfa) := by
    intro rf rv rn rfa
    unfold s_Tr_parseNumber_J166 s_Tr_parseNumber_J188
    rw [isn_of di]
    simp only [gd_t, isb_1]
    rcases s01 with rfl | rfl
    · rw [if_pos nI_0]
      exact Ok.mk ⟨rfl, rfl, rfl, rfl, rfl, rfl⟩
    · rw [if_neg (nI_ne0 (by omega) (by omega))]
      exact Ok.mk ⟨rfl, rfl, rfl, rfl, rfl, rfl⟩
  have M180 : ∀ (m n : Nat) (vw ve vt vs vo v2 vnm vnn : Int32) (lo hi : UInt64), nnan lo → nnan hi → s_M_next_J180 (nI m) (nI n) (nI L) vw ve vt (nI q) vs vo v2 vnm vnn (FP.ddiv (FP.i2d (nI V)) (dvs u)) 0 tx lo hi (nI f) (nI s) = some (if zv (nVal s V u) < zv lo ∨ zv hi < zv (nVal s V u) then (nI f, nI q, nVal s V u, 1) else (vw, nI q, nVal s V u, 0)) := by
    intro m n vw ve vt vs vo v2 vnm vnn lo hi hlo hhi
    have M194 : ∀ v, nnan v → s_M_next_J194 (nI m) (nI n) (nI L) vw ve vt (nI q) vs vo v2 vnm vnn v 0 tx lo hi (nI f) = some (if zv v < zv lo ∨ zv hi < zv v then (nI f, nI q, v, 1) else (vw, nI q, v, 0)) := by
      intro v hv
      unfold s_M_next_J194 s_M_next_J220 s_M_fail
      simp only [↓reduceIte, isb_1, gd_t, Option.bind_some, cv_lt hv hlo, cv_le hv hhi]
      by_cases c1 : zv v < zv lo
      · rw [if_pos c1, if_pos (Or.inl c1)]
      · rw [if_neg c1]
        by_cases c2 : zv v ≤ zv hi
        · rw [if_pos c2, if_neg (by
            rintro (q | q)
            · exact c1 q
            · exact Int.not_le.mpr q c2)]
        · rw [if_neg c2, if_pos (Or.inr (Int.not_le.mp c2))]
    unfold s_M_next_J180
    rcases s01 with rfl | rfl
    · rw [if_pos nI_0]
      exact M194 _ vk.2.1
    · rw [if_neg (nI_ne0 (by omega) (by omega))]
      exact M194 _ vk.2.1
  by_cases hb : q < L ∧ ¬ ch q = 32 ∧ ¬ ch q = 10
  · left
    obtain ⟨h1, h2, h3⟩ := hb
    refine ⟨fun rf rv rn rfa => ?_, fun m n vw ve vt vs vo v2 vnm vnn lo hi => ?_⟩
    · unfold s_Tr_parseNumber_J118 s_Tr_failAt
      rw [if_neg (nI_ge (by omega) (by omega)), inb_nI (by omega) (by omega), nI_clamp (by omega), if_neg h2, if_neg h3]
      exact Ok.mk ⟨rfl, rfl⟩
    · unfold s_M_next_J136 s_M_fail
      rw [if_pos rfl, if_neg (nI_ge (by omega) (by omega)), e_here _ _ _ _ _ _ _ _ _ _ hL hq, if_pos h1, htx q h1]
      simp only [Option.bind_some, if_neg h2, if_neg h3, ↓reduceIte, isb_1, gd_t]
      unfold s_M_next_J180 s_M_next_J194
      rw [if_neg i32_10, if_neg i32_10]
      split
      · exact Ok.mk ⟨rfl, rfl⟩
      · exact Ok.mk ⟨rfl, rfl⟩
  · right
    refine ⟨⟨vk.1, vk.2.1, vk.2.2, fun h => ⟨V, hV, ?_⟩⟩, fun rf rv rn rfa => ?_, fun m n vw ve vt vs vo v2 vnm vnn lo hi hlo hhi => ?_⟩
    · obtain ⟨rfl, rfl⟩ := hw h
      exact nVal_w
    · unfold s_Tr_parseNumber_J118
      by_cases h1 : q < L
      · rw [if_neg (nI_ge (by omega) (by omega)), inb_nI (by omega) (by omega), nI_clamp (by omega)]
        simp only [gd_t]
        by_cases h2 : ch q = 32
        · rw [if_pos h2]
          exact C166 rf rv rn rfa
        · rw [if_neg h2]
          by_cases h3 : ch q = 10
          · rw [if_pos h3]
            exact C166 rf rv rn rfa
          · exact absurd ⟨h1, h2, h3⟩ hb
      · rw [if_pos (nI_le (by omega) (by omega))]
        exact C166 rf rv rn rfa
    · have M := M180 m n vw ve vt vs vo v2 vnm vnn lo hi hlo hhi
      unfold s_M_next_J136
      rw [if_pos rfl]
      by_cases h1 : q < L
      · rw [if_neg (nI_ge (by omega) (by omega)), e_here _ _ _ _ _ _ _ _ _ _ hL hq, if_pos h1, htx q h1]
        simp only [Option.bind_some]
        by_cases h2 : ch q = 32
        · rw [if_pos h2]
          exact M
        · rw [if_neg h2]
          by_cases h3 : ch q = 10
          · rw [if_pos h3]
            exact M
          · exact absurd ⟨h1, h2, h3⟩ hb
      · rw [if_pos (nI_le (by omega) (by omega))]
        exact M
