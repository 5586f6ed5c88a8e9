/-! told, gap, certifies, count, scale: class and reference together -/
def DPost (u : Int32 × (Nat → UInt64)) (w : UInt64 × Int32) : Prop := w.2 = u.1 ∧ (u.1 = 0 → Op.cmpValue (FP.dcmp (u.2 0) w.1) .l = 0)
theorem dpost {o : (Nat → UInt64)} {v : UInt64} (h : nnan v) : DPost (0, vf_upd o 0 v) (v, 0) := ⟨rfl, fun _ => by dsimp only; rw [upd_at]; exact dcmp_self h⟩
theorem dpost_bad {o : (Nat → UInt64)} {k : Int32} (h : ¬ k = 0) : DPost (k, o) (FP.dconst0, k) := ⟨rfl, fun q => absurd q h⟩
theorem mx_of {M N : Nat} {a : (Nat → Nat → UInt64)} {b c x s y ma mb mc mx ms my : (Nat → UInt64)} (hI : IP M N a b c ma mb mc) (hX : IX M N x s y mx ms my) : MX M N a b c x s y ma mb mc mx ms my := by
  obtain ⟨⟨h1, h2, h3, h4, -⟩, h5, h6, h7⟩ := hI
  exact ⟨fun i hi j hj => (h5 i (by omega) j (by omega)).1, h6, h7, hX.2.1, hX.2.2⟩
theorem i32_123 : ¬ (1 : Int32) = 0 ∧ ¬ (2 : Int32) = 0 ∧ ¬ (3 : Int32) = 0 := by decide
theorem pt1 {pt : Int32} (h : pt = 0 ∨ pt = 1) (h0 : ¬ pt = 0) : pt = 1 := h.resolve_left h0
theorem j_told {M N : Nat} {a : (Nat → Nat → UInt64)} {b c x s y ma mb mc mx ms my o : (Nat → UInt64)} (sc pt ef fa : Int32) (vl vw ve vt va vs v2 vnm vnn : Int32) (vnu : UInt64) (vb : Int32) (x1 x2 : Int32) (hpt : pt = 0 ∨ pt = 1) (hI : IP M N a b c ma mb mc) (hX : pt = 1 → IX M N x s y mx ms my) :
    Ok (s_L_told 1 sc pt ef fa (nI M) (nI N) b c x s y o x1 x2) (fun u => Ok (s_M_told (nI M) (nI N) vl vw ve vt va vs pt v2 vnm vnn vnu vb mb mc mx ms my x1 x2) (fun w => DPost u w)) := by
  obtain ⟨h1', h2', h3', h4', -⟩ := hI.1
  have J : ∀ k : Int32, ¬ k ≤ 0 → s_M_told_J61 (nI M) (nI N) vl vw ve vt va vs pt v2 vnm vnn vnu vb mb mc mx ms my x1 x2 k = some (FP.dconst0, k) := fun k hk => by
    unfold s_M_told_J61
    rw [if_neg hk]
  unfold s_L_told s_C_told s_M_told s_C_requireTold
  rw [e_in]
  by_cases h1 : x1 < 0
  · simp only [h1, ↓reduceIte, Option.bind_some, Sum.elim_inl, true_or, J 1 (by decide)]
    exact Ok.mk (Ok.mk (dpost_bad i32_123.1))
  · by_cases h2 : x1 ≤ 4
    · have h2a : ¬ 4 < x1 := fun q => lt_nlt q h2
      by_cases hp : pt = 0
      · simp only [h1, h2, h2a, hp, or_self, ↓reduceIte, Option.bind_some, Sum.elim_inl, i32_10]
        subst hp
        simp +decide only [J 2 (by decide), ↓reduceIte]
        exact Ok.mk (Ok.mk (dpost_bad i32_123.2.1))
      · have hp1 := pt1 hpt hp
        subst hp1
        have hx := hX rfl
        have po := ptOk_of hI.1 hx.1
        have mx' := mx_of hI hx
        obtain ⟨et3, et4⟩ := e_total vl vw ve 0 va vs 1 v2 vnm vnn vnu vb h2' h4' po mx'
        simp only [h1, h2, h2a, or_self, ↓reduceIte, Option.bind_some, Sum.elim_inr, i32_10]
        have bi : s_M_told_J61 (nI M) (nI N) vl vw ve vt va vs 1 v2 vnm vnn vnu vb mb mc mx ms my x1 x2 3 = some (FP.dconst0, 3) := J 3 (by decide)
        obtain ⟨k, hk, rfl⟩ := nI_of2 (x := x1) (M := 4) (n := 4) rfl h1 h2
        have ec : s_Pb_costOf 8 (nI M) (nI N) c x = some (vC c x N) := e_costOf _ h4' h4' (by decide) po.2.2.1.1
        have ew : s_Pb_worthOf 5 (nI M) (nI N) b y = some (wB b y M) := e_worthOf _ h2' h2' (by decide) po.2.2.2.1.1
        match k, hk with
        | 0, _ =>
          simp +decide only [show nI 0 = 0 from rfl, ↓reduceIte, s_C_told_J51, s_C_told_J54, s_M_told_J48, s_M_told_J60, e_reqIndex, e_minx h3' (show N < 2 ^ 31 by omega), Option.bind_some] at bi ⊢
          by_cases c2 : 0 ≤ x2 ∧ x2 < nI N
          · obtain ⟨j, hj, rfl⟩ := idx (by omega) c2
            obtain ⟨m1, m2⟩ := mx'.2.2.2.1 j hj
            simp only [c2, and_self, ↓reduceIte, Sum.elim_inr, i32_10]
            simp (disch := omega) only [↓ite_le_t, ↓ite_le_f, ↓ite_lt_t, ↓ite_lt_f, li5, li8, nI_leI, nI_ltI, nI_eqI, if_pos, if_neg, ↓reduceIte, inb_nI, gd_t, nI_clamp, Option.bind_some, nI_1, isb_0, isb_1, lit13, lit14, lit40, nI_mul, nI_add, s_M_told_J61, Int32.le_refl, m1, Sum.elim_inr, inb01, cl0]
            exact Ok.mk (Ok.mk (dpost (po.2.2.2.2.2.2.1 j hj).1))
          · simp +decide only [c2, ↓reduceIte, Sum.elim_inl, bi]
            exact Ok.mk (Ok.mk (dpost_bad i32_123.2.2))
        | 1, _ =>
          simp +decide only [show nI 1 = 1 from rfl, ↓reduceIte, s_C_told_J51, s_C_told_J54, s_M_told_J48, s_M_told_J60, e_reqIndex, e_minx h3' (show N < 2 ^ 31 by omega), Option.bind_some] at bi ⊢
          by_cases c2 : 0 ≤ x2 ∧ x2 < nI N
          · obtain ⟨j, hj, rfl⟩ := idx (by omega) c2
            obtain ⟨m1, m2⟩ := mx'.2.2.2.1 j hj
            simp only [c2, and_self, ↓reduceIte, Sum.elim_inr, i32_10]
            simp (disch := omega) only [↓ite_le_t, ↓ite_le_f, ↓ite_lt_t, ↓ite_lt_f, li5, li8, nI_leI, nI_ltI, nI_eqI, if_pos, if_neg, ↓reduceIte, inb_nI, gd_t, nI_clamp, Option.bind_some, nI_1, isb_0, isb_1, lit13, lit14, lit40, nI_mul, nI_add, s_M_told_J61, Int32.le_refl, m2, Sum.elim_inr, inb01, cl0, i32_10]
            exact Ok.mk (Ok.mk (dpost (po.2.2.2.2.2.2.1 j hj).2))
          · simp +decide only [c2, ↓reduceIte, Sum.elim_inl, bi]
            exact Ok.mk (Ok.mk (dpost_bad i32_123.2.2))
        | 2, _ =>
          simp +decide only [show nI 2 = 2 from rfl, ↓reduceIte, s_C_told_J51, s_C_told_J54, s_M_told_J48, s_M_told_J60, e_reqIndex, e_minx h1' (show M < 2 ^ 31 by omega), Option.bind_some] at bi ⊢
          by_cases c2 : 0 ≤ x2 ∧ x2 < nI M
          · obtain ⟨i, hi, rfl⟩ := idx (by omega) c2
            have m1 := mx'.2.2.2.2 i hi
            simp only [c2, and_self, ↓reduceIte, Sum.elim_inr, i32_10]
            simp +decide (disch := omega) only [s_M_told_J61, ↓reduceIte, inb_nI, gd_t, nI_clamp, m1, Sum.elim_inr, inb01, cl0]
            exact Ok.mk (Ok.mk (dpost (po.2.2.2.2.2.2.2.1 i hi)))
          · simp +decide only [c2, ↓reduceIte, Sum.elim_inl, bi]
            exact Ok.mk (Ok.mk (dpost_bad i32_123.2.2))
        | 3, _ =>
          simp +decide only [show nI 3 = 3 from rfl, ↓reduceIte, s_C_told_J54, s_M_told_J60, s_M_told_J61, ec, et3, Option.bind_some, Sum.elim_inr, inb01, gd_t, cl0]
          exact Ok.mk (Ok.mk (dpost po.2.2.1.2))
        | 4, _ =>
          simp +decide only [show nI 4 = 4 from rfl, ↓reduceIte, s_C_told_J54, s_M_told_J60, s_M_told_J61, ew, et4, Option.bind_some, Sum.elim_inr, inb01, gd_t, cl0]
          exact Ok.mk (Ok.mk (dpost po.2.2.2.1.2))
    · have h2' : 4 < x1 := nle_lt h2
      simp only [h1, h2, h2', ↓reduceIte, Option.bind_some, Sum.elim_inl, or_true, J 1 (by decide)]
      exact Ok.mk (Ok.mk (dpost_bad i32_123.1))
theorem j_gap {M N : Nat} {a : (Nat → Nat → UInt64)} {b c x s y ma mb mc mx ms my o : (Nat → UInt64)} (sc pt ef fa : Int32) (vl vw ve vt va vs v2 vnm vnn : Int32) (vnu : UInt64) (vb : Int32) (x1 : Int32) (hpt : pt = 0 ∨ pt = 1) (hI : IP M N a b c ma mb mc) (hX : pt = 1 → IX M N x s y mx ms my) :
    Ok (s_L_gap 1 sc pt ef fa (nI M) (nI N) a b c x s y o x1) (fun u => Ok (s_M_gap (nI M) (nI N) vl vw ve vt va vs pt v2 vnm vnn vnu vb ma mb mc mx ms my x1) (fun w => DPost u w)) := by
  obtain ⟨h1', h2', h3', h4', -⟩ := hI.1
  have J : ∀ k : Int32, ¬ k ≤ 0 → s_M_gap_J26 (nI M) (nI N) vl vw ve vt va vs pt v2 vnm vnn vnu vb ma mb mc mx ms my x1 k = some (FP.dconst0, k) := fun k hk => by
    unfold s_M_gap_J26
    rw [if_neg hk]
  unfold s_L_gap s_C_gap s_M_gap s_C_requireTold
  rw [e_in]
  by_cases h1 : x1 < 0
  · simp only [h1, ↓reduceIte, Option.bind_some, Sum.elim_inl, true_or, J 1 (by decide)]
    exact Ok.mk (Ok.mk (dpost_bad i32_123.1))
  · by_cases h2 : x1 ≤ 3
    · have h2a : ¬ 3 < x1 := fun q => lt_nlt q h2
      by_cases hp : pt = 0
      · simp only [h1, h2, h2a, hp, or_self, ↓reduceIte, Option.bind_some, Sum.elim_inl, i32_10]
        subst hp
        simp +decide only [J 2 (by decide), ↓reduceIte]
        exact Ok.mk (Ok.mk (dpost_bad i32_123.2.1))
      · have hp1 := pt1 hpt hp
        subst hp1
        have hx := hX rfl
        have po := ptOk_of hI.1 hx.1
        have mx' := mx_of hI hx
        obtain ⟨n0, n1, n3, n2⟩ := ptOk_nn po
        obtain ⟨g0, g1, g2, g3⟩ := e_gapOf sc 1 ef fa h2' h4' po
        simp only [h1, h2, h2a, or_self, ↓reduceIte, Option.bind_some, Sum.elim_inr, i32_10]
        obtain ⟨k, hk, rfl⟩ := nI_of2 (x := x1) (M := 3) (n := 3) rfl h1 h2
        match k, hk with
        | 0, _ =>
          simp +decide only [show nI 0 = 0 from rfl, ↓reduceIte, s_M_gap_J26, g0, e_far0 vl vw ve 0 va vs 1 v2 vnm vnn vnu vb h2' h4' po mx', Option.bind_some, Sum.elim_inr, inb01, gd_t, cl0]
          exact Ok.mk (Ok.mk (dpost n0))
        | 1, _ =>
          simp +decide only [show nI 1 = 1 from rfl, ↓reduceIte, s_M_gap_J26, g1, e_far1 vl vw ve 0 va vs 1 v2 vnm vnn vnu vb h2' h4' po mx', Option.bind_some, Sum.elim_inr, inb01, gd_t, cl0]
          exact Ok.mk (Ok.mk (dpost n1))
        | 2, _ =>
          simp +decide only [show nI 2 = 2 from rfl, ↓reduceIte, s_M_gap_J26, g2, e_far2 vl vw ve 0 va vs 1 v2 vnm vnn vnu vb h2' h4' po mx', Option.bind_some, Sum.elim_inr, inb01, gd_t, cl0]
          exact Ok.mk (Ok.mk (dpost n2))
        | 3, _ =>
          simp +decide only [show nI 3 = 3 from rfl, ↓reduceIte, s_M_gap_J26, g3, e_far3 vl vw ve 0 va vs 1 v2 vnm vnn vnu vb h2' h4' po mx', Option.bind_some, Sum.elim_inr, inb01, gd_t, cl0]
          exact Ok.mk (Ok.mk (dpost n3))
    · have h2' : 3 < x1 := nle_lt h2
      simp only [h1, h2, h2', ↓reduceIte, Option.bind_some, Sum.elim_inl, or_true, J 1 (by decide)]
      exact Ok.mk (Ok.mk (dpost_bad i32_123.1))
