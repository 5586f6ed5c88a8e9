/-! text -/
def byI (w : Int64) (k : Nat) : Int32 := (((w.toUInt64 >>> ((56 - (8 * nI k)).toInt64.toUInt64 &&& Int64.toUInt64 63)).toInt64) &&& 255).toInt32
def shI (k : Nat) : Int32 := 56 - nI (8 * k)
theorem sh_step : ∀ k, k < 8 → shI k + (-8) = shI (k + 1) ∧ ¬ shI k < 0 := by decide
theorem sh_8 : shI 8 < 0 := by decide
theorem bit_and (x : BitVec 64) (s : Nat) (hs : s ≤ 56) : ((x >>> s) &&& 255#64).setWidth 32 = ((x.sshiftRight s).setWidth 32) &&& 255#32 := by
  apply BitVec.eq_of_getLsbD_eq
  intro i hi
  have e1 : (255#64).getLsbD i = decide (i < 8) := by
    rcases Nat.lt_or_ge i 8 with h | h
    · match i, h with
      | 0, _ | 1, _ | 2, _ | 3, _ | 4, _ | 5, _ | 6, _ | 7, _ => decide
    · rw [decide_eq_false (by omega)]
      refine Nat.testBit_lt_two_pow ?_
      exact Nat.lt_of_lt_of_le (show (255#64).toNat < 2 ^ 8 by decide) (Nat.pow_le_pow_right (by decide) h)
  have e2 : (255#32).getLsbD i = decide (i < 8) := by
    rcases Nat.lt_or_ge i 8 with h | h
    · match i, h with
      | 0, _ | 1, _ | 2, _ | 3, _ | 4, _ | 5, _ | 6, _ | 7, _ => decide
    · rw [decide_eq_false (by omega)]
      refine Nat.testBit_lt_two_pow ?_
      exact Nat.lt_of_lt_of_le (show (255#32).toNat < 2 ^ 8 by decide) (Nat.pow_le_pow_right (by decide) h)
  rw [BitVec.getLsbD_setWidth, BitVec.getLsbD_and, BitVec.getLsbD_and, BitVec.getLsbD_setWidth, e1, e2, BitVec.getLsbD_ushiftRight, BitVec.getLsbD_sshiftRight]
  by_cases h : i < 8
  · have h3 : ¬ 64 ≤ i := by omega
    have h4 : s + i < 64 := by omega
    simp [h, hi, h3, h4]
  · simp [h]
theorem by_model (w : Int64) : ∀ k, k < 8 → ((w >>> ((shI k).toInt64 &&& 63)).toInt32 &&& 255) = byI w k := by
  intro k hk
  have key : ∀ s, s ≤ 56 → ∀ (u : UInt64) (v : Int64), u.toNat % 64 = s → v.toBitVec.smod 64 = BitVec.ofNat 64 s → ((w >>> v).toInt32 &&& 255) = ((((w.toUInt64 >>> u).toInt64) &&& 255).toInt32) := by
    intro s hs u v hu hv
    apply Int32.toBitVec_inj.mp
    have h := bit_and w.toBitVec s hs
    have hu' : (u.toBitVec % 64).toNat = s := hu
    have hv' : (BitVec.ofNat 64 s).toNat = s := Nat.mod_eq_of_lt (by omega)
    rw [Int32.toBitVec_and, Int64.toBitVec_toInt32, Int64.toBitVec_shiftRight, hv, Int64.toBitVec_toInt32, Int64.toBitVec_and, UInt64.toBitVec_toInt64, UInt64.toBitVec_shiftRight, Int64.toBitVec_toUInt64, BitVec.signExtend_eq_setWidth_of_le _ (by decide), BitVec.signExtend_eq_setWidth_of_le _ (by decide), BitVec.ushiftRight_eq', BitVec.sshiftRight_eq', hu', hv']
    exact h.symm
  match k, hk with
  | 0, _ => exact key 56 (by decide) _ _ (by decide) (by decide)
  | 1, _ => exact key 48 (by decide) _ _ (by decide) (by decide)
  | 2, _ => exact key 40 (by decide) _ _ (by decide) (by decide)
  | 3, _ => exact key 32 (by decide) _ _ (by decide) (by decide)
  | 4, _ => exact key 24 (by decide) _ _ (by decide) (by decide)
  | 5, _ => exact key 16 (by decide) _ _ (by decide) (by decide)
  | 6, _ => exact key 8 (by decide) _ _ (by decide) (by decide)
  | 7, _ => exact key 0 (by decide) _ _ (by decide) (by decide)
theorem by_256 (w : Int64) (k : Nat) : ∃ b, b < 256 ∧ byI w k = nI b := by
  unfold byI
  generalize (w.toUInt64 >>> ((56 - (8 * nI k)).toInt64.toUInt64 &&& Int64.toUInt64 63)).toInt64 = z
  have h1 : (z &&& 255).toBitVec.toNat < 256 := by
    rw [Int64.toBitVec_and, BitVec.toNat_and]
    exact Nat.lt_of_le_of_lt Nat.and_le_right (by decide)
  refine ⟨(z &&& 255).toBitVec.toNat, h1, ?_⟩
  apply Int32.toBitVec_inj.mp
  rw [Int64.toBitVec_toInt32, BitVec.signExtend_eq_setWidth_of_le _ (by decide)]
  apply BitVec.eq_of_toNat_eq
  rw [BitVec.toNat_setWidth]
  rfl
theorem nar_char : ∀ b, b < 256 → vp_nar .char (((nI b).toUInt32 % 65536).toInt32) = nI b := by decide +kernel
def cok (c : Int32) : Prop := c = 10 ∨ (32 ≤ c ∧ c ≤ 126)
def tok (w : Int64) (k : Nat) : Prop := ∀ i, i < k → byI w i = 0 ∨ cok (byI w i)
def cn (w : Int64) (k : Nat) : Nat := sumN (fun i => if byI w i = 0 then 0 else 1) k
theorem cn_s (w : Int64) (k : Nat) : cn w (k + 1) = cn w k + (if byI w k = 0 then 0 else 1) := rfl
theorem cn_le (w : Int64) : ∀ k, cn w k ≤ k := by
  intro k
  induction k with
  | zero => exact Nat.le_refl _
  | succ k ih =>
    rw [cn_s]
    split <;> omega
theorem cn_mono (w : Int64) {j k : Nat} (h : j ≤ k) : cn w j ≤ cn w k := by
  induction k with
  | zero =>
    have : j = 0 := by omega
    subst this
    exact Nat.le_refl _
  | succ k ih =>
    by_cases e : j = k + 1
    · subst e; exact Nat.le_refl _
    · rw [cn_s]
      have := ih (by omega)
      omega
def apB (w : Int64) (i : Nat) (st : Nat × (Nat → Int32)) : Nat × (Nat → Int32) := if byI w i = 0 then st else (st.1 + 1, upd st.2 st.1 (byI w i))
def ap (w : Int64) (k : Nat) (st : Nat × (Nat → Int32)) : Nat × (Nat → Int32) := fd (apB w) k st
theorem ap_s (w : Int64) (k : Nat) (st : Nat × (Nat → Int32)) : ap w (k + 1) st = apB w k (ap w k st) := rfl
theorem ap_1 (w : Int64) (L : Nat) (f : Nat → Int32) : ∀ k, (ap w k (L, f)).1 = L + cn w k := by
  intro k
  induction k with
  | zero => rfl
  | succ k ih =>
    rw [ap_s, cn_s]
    unfold apB
    split
    · rw [ih]; rfl
    · show (ap w k (L, f)).1 + 1 = _
      rw [ih]
      rfl
theorem ap_agree (w : Int64) (L : Nat) (f g : Nat → Int32) (k : Nat) (ht : tok w k) (h : ∀ p, p < L → g p = f p ∧ cok (f p)) : ∀ p, p < (ap w k (L, f)).1 → (ap w k (L, g)).2 p = (ap w k (L, f)).2 p ∧ cok ((ap w k (L, f)).2 p) := by
  induction k with
  | zero => exact h
  | succ k ih =>
    have i := ih (fun i hi => ht i (by omega))
    have e1 : (ap w k (L, g)).1 = (ap w k (L, f)).1 := by rw [ap_1, ap_1]
    rw [ap_s, ap_s]
    unfold apB
    by_cases c : byI w k = 0
    · rw [if_pos c, if_pos c]
      exact i
    · rw [if_neg c, if_neg c]
      intro p hp
      have hp : p < (ap w k (L, f)).1 + 1 := hp
      show upd (ap w k (L, g)).2 (ap w k (L, g)).1 (byI w k) p = upd (ap w k (L, f)).2 (ap w k (L, f)).1 (byI w k) p ∧ cok (upd (ap w k (L, f)).2 (ap w k (L, f)).1 (byI w k) p)
      rw [e1]
      by_cases e : p = (ap w k (L, f)).1
      · subst e
        rw [iupd_at, iupd_at]
        exact ⟨rfl, (ht k (by omega)).resolve_left c⟩
      · rw [iupd_ne e, iupd_ne e]
        exact i p (by omega)
theorem e_byteOf (w : Int64) (k : Nat) : s_Tr_byteOf w (nI k) = some (byI w k) := rfl
theorem e_isReadable (w : Int64) : Ok (s_Tr_isReadable w) (fun r => (r = 1 ∧ tok w 8) ∨ (r = 0 ∧ ¬ tok w 8)) := by
  unfold s_Tr_isReadable s_Tr_isReadable_L2
  refine Ok.bind (P := fun v => Sum.elim (fun _ => tok w 8) (fun r => r = 0 ∧ ¬ tok w 8) v) ?_ ?_
  · refine Ok.for (fun t st => st = nI t ∧ tok w t) 8 (by omega) ⟨rfl, fun i hi => absurd hi (Nat.not_lt_zero _)⟩ ?_ ?_
    · rintro k st hk ⟨rfl, g⟩
      have go : (byI w k = 0 ∨ cok (byI w k)) → tok w (k + 1) := fun h i hi => by
        by_cases e : i = k
        · subst e; exact h
        · exact g i (by omega)
      have no : ¬ (byI w k = 0 ∨ cok (byI w k)) → ¬ tok w 8 := fun h q => h (q k (by omega))
      simp (disch := omega) only [↓ite_le_t, ↓ite_le_f, ↓ite_lt_t, ↓ite_lt_f, li5, li8, nI_leI, nI_ltI, nI_eqI, if_pos, if_neg, ↓reduceIte, inb_nI, gd_t, nI_clamp, Option.bind_some, nI_1, isb_0, isb_1, lit13, lit14, lit40, nI_mul, nI_add, s_Tr_isReadable_B2, s_Tr_isReadable_J38, e_byteOf]
      unfold cok at go no
      by_cases c1 : byI w k = 0
      · rw [if_pos c1]
        exact Ok.mk ⟨rfl, go (Or.inl c1)⟩
      · rw [if_neg c1]
        by_cases c2 : byI w k = 10
        · rw [if_pos c2]
          exact Ok.mk ⟨rfl, go (Or.inr (Or.inl c2))⟩
        · rw [if_neg c2]
          by_cases c3 : byI w k < 32
          · rw [if_pos c3]
            refine Ok.mk ⟨rfl, no ?_⟩
            rintro (q | q | q)
            · exact c1 q
            · exact c2 q
            · exact lt_nlt c3 q.1
          · rw [if_neg c3]
            by_cases c4 : byI w k ≤ 126
            · rw [if_pos c4]
              exact Ok.mk ⟨rfl, go (Or.inr (Or.inr ⟨nlt_le c3, c4⟩))⟩
            · rw [if_neg c4]
              refine Ok.mk ⟨rfl, no ?_⟩
              rintro (q | q | q)
              · exact c1 q
              · exact c2 q
              · exact c4 q.2
    · rintro st ⟨rfl, g⟩
      simp (disch := omega) only [↓ite_le_t, ↓ite_le_f, ↓ite_lt_t, ↓ite_lt_f, li5, li8, nI_leI, nI_ltI, nI_eqI, if_pos, if_neg, ↓reduceIte, inb_nI, gd_t, nI_clamp, Option.bind_some, nI_1, isb_0, isb_1, lit13, lit14, lit40, nI_mul, nI_add, s_Tr_isReadable_B2]
      exact Ok.mk g
  · rintro (v | v) hv
    · exact Ok.mk (Or.inl ⟨rfl, hv⟩)
    · exact Ok.mk (Or.inr hv)
theorem e_charactersOf (w : Int64) : s_Tr_charactersOf w = some (nI (cn w 8)) := by
  unfold s_Tr_charactersOf s_Tr_charactersOf_L4
  refine loop_b 8 (fun k => (nI (cn w k), nI k)) (nI (cn w 8)) rfl (by omega) (fun k hk => ?_) ?_ rfl
  · rw [cn_s]
    simp (disch := omega) only [↓ite_le_t, ↓ite_le_f, ↓ite_lt_t, ↓ite_lt_f, li5, li8, nI_leI, nI_ltI, nI_eqI, if_pos, if_neg, ↓reduceIte, inb_nI, gd_t, nI_clamp, Option.bind_some, nI_1, isb_0, isb_1, lit13, lit14, lit40, nI_mul, nI_add, s_Tr_charactersOf_B4, s_Tr_charactersOf_J24, e_byteOf]
    by_cases c1 : byI w k = 0
    · rw [if_pos c1, if_pos c1, Int32.add_zero]
      rfl
    · rw [if_neg c1, if_neg c1]
  · simp (disch := omega) only [↓ite_le_t, ↓ite_le_f, ↓ite_lt_t, ↓ite_lt_f, li5, li8, nI_leI, nI_ltI, nI_eqI, if_pos, if_neg, ↓reduceIte, inb_nI, gd_t, nI_clamp, Option.bind_some, nI_1, isb_0, isb_1, lit13, lit14, lit40, nI_mul, nI_add, s_Tr_charactersOf_B4]
theorem e_append19 (w : Int64) (L : Nat) (f : Nat → Int32) (ra rf rd : Int32) (rv : UInt64) (rn rfa : Int32) (h : L + cn w 8 ≤ 300) : s_Tr_append_L19 (nI L) ra rf rd rv rn rfa f w 0 = some (1, nI (ap w 8 (L, f)).1, (ap w 8 (L, f)).2) := by
  unfold s_Tr_append_L19
  refine loop_b 8 (fun k => (nI (ap w k (L, f)).1, (ap w k (L, f)).2, nI k)) (nI (ap w 8 (L, f)).1, (ap w 8 (L, f)).2) rfl (by omega) (fun k hk => ?_) ?_ rfl
  · have e1 := ap_1 w L f k
    have m1 := cn_mono w (show k + 1 ≤ 8 by omega)
    rw [cn_s] at m1
    obtain ⟨b, hb, eb⟩ := by_256 w k
    rw [ap_s]
    unfold apB
    generalize ap w k (L, f) = st at *
    by_cases c1 : byI w k = 0
    · simp (disch := omega) only [↓ite_le_t, ↓ite_le_f, ↓ite_lt_t, ↓ite_lt_f, li5, li8, nI_leI, nI_ltI, nI_eqI, if_pos, if_neg, ↓reduceIte, inb_nI, gd_t, nI_clamp, Option.bind_some, nI_1, isb_0, isb_1, lit13, lit14, lit40, nI_mul, nI_add, s_Tr_append_B19, s_Tr_append_J59, e_byteOf, c1]
    · rw [if_neg c1] at m1
      have e2 : vp_nar .char (((byI w k).toUInt32 % 65536).toInt32) = byI w k := by rw [eb]; exact nar_char b hb
      have hlt : st.1 < 300 := by omega
      simp (disch := omega) only [↓ite_le_t, ↓ite_le_f, ↓ite_lt_t, ↓ite_lt_f, li5, li8, nI_leI, nI_ltI, nI_eqI, if_pos, if_neg, ↓reduceIte, inb_nI, gd_t, nI_clamp, Option.bind_some, nI_1, isb_0, isb_1, lit13, lit14, lit40, nI_mul, nI_add, s_Tr_append_B19, s_Tr_append_J59, e_byteOf, c1, e2]
  · simp (disch := omega) only [↓ite_le_t, ↓ite_le_f, ↓ite_lt_t, ↓ite_lt_f, li5, li8, nI_leI, nI_ltI, nI_eqI, if_pos, if_neg, ↓reduceIte, inb_nI, gd_t, nI_clamp, Option.bind_some, nI_1, isb_0, isb_1, lit13, lit14, lit40, nI_mul, nI_add, s_Tr_append_B19]
theorem m_text107 {m n : Nat} (w : Int64) (L : Nat) (f : Nat → Int32) (vw ve vt va vs vo v2 vnm vnn : Int32) (vnu : UInt64) (vb : Int32) (h : L + cn w 8 ≤ 300) : s_M_text_L107 (nI m) (nI n) (nI L) vw ve vt va vs vo v2 vnm vnn vnu vb f w 56 = some (nI (ap w 8 (L, f)).1, nI (ap w 8 (L, f)).1, vt, (ap w 8 (L, f)).2) := by
  unfold s_M_text_L107
  refine loop_b 8 (fun k => (nI (ap w k (L, f)).1, (ap w k (L, f)).2, shI k)) (nI (ap w 8 (L, f)).1, (ap w 8 (L, f)).2) rfl (by omega) (fun k hk => ?_) ?_ rfl
  · have e1 := ap_1 w L f k
    have m1 := cn_mono w (show k + 1 ≤ 8 by omega)
    rw [cn_s] at m1
    obtain ⟨s1, s2⟩ := sh_step k hk
    rw [ap_s]
    unfold apB
    generalize ap w k (L, f) = st at *
    by_cases c1 : byI w k = 0
    · simp only [s_M_text_B107, s_M_text_J152, s2, ↓reduceIte, by_model w k hk, c1, s1]
    · rw [if_neg c1] at m1
      have hlt : st.1 < 300 := by omega
      simp (disch := omega) only [s_M_text_B107, s_M_text_J152, s2, ↓reduceIte, by_model w k hk, c1, s1, inb_nI, gd_t, nI_clamp, nI_1]
  · simp only [s_M_text_B107, sh_8, ↓reduceIte]
def TxPost (L : Nat) (u : Int32 × Int32 × (Nat → Int32) × (Nat → Int64)) (w : Int32 × Int32 × Int32 × (Nat → Int32)) : Prop :=
  w.2.2.1 = u.1 ∧ (u.1 = 0 → lg_cmp (u.2.2.2 0) w.1.toInt64 = 0) ∧ ∃ L', L' ≤ 300 ∧ u.2.1 = nI L' ∧ w.2.1 = nI L' ∧ ∀ p, p < L' → w.2.2.2 p = u.2.2.1 p ∧ cok (u.2.2.1 p)
theorem j_text {m n L : Nat} {f g : Nat → Int32} {o : Nat → Int64} (sc pt ef fa ra rf rd : Int32) (rv : UInt64) (rn rfa : Int32) (vw ve vt va vs vo v2 vnm vnn : Int32) (vnu : UInt64) (vb : Int32) (w : Int64) (hL : L ≤ 300) (h : ∀ p, p < L → g p = f p ∧ cok (f p)) :
    Ok (s_L_text 1 sc pt ef fa (nI L) ra rf rd rv rn rfa f o w) (fun u => Ok (s_M_text (nI m) (nI n) (nI L) vw ve vt va vs vo v2 vnm vnn vnu vb g w) (fun z => TxPost L u z)) := by
  have J : ∀ k : Int32, ¬ k ≤ 0 → s_M_text_J91 (nI m) (nI n) (nI L) vw ve vt va vs vo v2 vnm vnn vnu vb g w k = some (0, nI L, k, g) := fun k hk => by
    unfold s_M_text_J91
    rw [if_neg hk]
  have c8 := cn_le w 8
  have ml : ∀ Q : Option (Int32 × Int32 × Int32 × (Nat → Int32)), (∀ gd : Int32, ((gd = 1 ∧ tok w 8) ∨ (gd = 0 ∧ ¬ tok w 8)) → (if gd = 0 then (s_M_text_J91 (nI m) (nI n) (nI L) vw ve vt va vs vo v2 vnm vnn vnu vb g w 1) else (if (nI L + nI (cn w 8)) ≤ 300 then (s_M_text_J91 (nI m) (nI n) (nI L) vw ve vt va vs vo v2 vnm vnn vnu vb g w 0) else (s_M_text_J91 (nI m) (nI n) (nI L) vw ve vt va vs vo v2 vnm vnn vnu vb g w 2))) = Q) → s_M_text (nI m) (nI n) (nI L) vw ve vt va vs vo v2 vnm vnn vnu vb g w = Q := by
    intro Q hQ
    unfold s_M_text s_M_text_L9
    obtain ⟨e, he, hp⟩ : Ok (loopO (fun (st : Int32 × Int32 × Int32) => s_M_text_B9 (nI m) (nI n) (nI L) vw ve vt va vs vo v2 vnm vnn vnu vb g w st.1 st.2.1 st.2.2) 2000 (0, 1, 56)) (fun v => v.1 = nI (cn w 8) ∧ ((v.2 = 1 ∧ tok w 8) ∨ (v.2 = 0 ∧ ¬ tok w 8))) := by
      refine Ok.for (fun k st => st.1 = nI (cn w k) ∧ st.2.2 = shI k ∧ ((st.2.1 = 1 ∧ tok w k) ∨ (st.2.1 = 0 ∧ ¬ tok w k))) 8 (by omega) ⟨rfl, rfl, Or.inl ⟨rfl, fun i hi => absurd hi (Nat.not_lt_zero _)⟩⟩ ?_ ?_
      · rintro k ⟨q1, q2, q3⟩ hk ⟨h1, h2, h3⟩
        have h1 : q1 = nI (cn w k) := h1
        have h2 : q3 = shI k := h2
        subst h1 h2
        have h3 : (q2 = 1 ∧ tok w k) ∨ (q2 = 0 ∧ ¬ tok w k) := h3
        obtain ⟨s1, s2⟩ := sh_step k hk
        have go : (byI w k = 0 ∨ cok (byI w k)) → (q2 = 1 ∧ tok w (k + 1)) ∨ (q2 = 0 ∧ ¬ tok w (k + 1)) := fun hq => by
          rcases h3 with ⟨a1, a2⟩ | ⟨a1, a2⟩
          · refine Or.inl ⟨a1, fun i hi => ?_⟩
            by_cases e : i = k
            · subst e; exact hq
            · exact a2 i (by omega)
          · exact Or.inr ⟨a1, fun q => a2 fun i hi => q i (by omega)⟩
        have no : ¬ (byI w k = 0 ∨ cok (byI w k)) → ¬ tok w (k + 1) := fun hq q => hq (q k (by omega))
        unfold cok at go no
        have cs := cn_s w k
        simp only [s_M_text_B9, s2, ↓reduceIte, by_model w k hk, s_M_text_J58, s_M_text_J55, s1, e_in, Option.bind_some]
        by_cases c1 : byI w k = 0
        · rw [if_pos c1]
          rw [if_pos c1] at cs
          exact Ok.mk ⟨by rw [cs]; rfl, rfl, go (Or.inl c1)⟩
        · rw [if_neg c1]
          rw [if_neg c1] at cs
          by_cases c2 : byI w k = 10
          · rw [if_pos c2]
            exact Ok.mk ⟨by rw [cs]; exact nI_1 _, rfl, go (Or.inr (Or.inl c2))⟩
          · rw [if_neg c2]
            by_cases c3 : byI w k < 32 ∨ 126 < byI w k
            · rw [if_pos c3, if_pos rfl]
              refine Ok.mk ⟨by rw [cs]; exact nI_1 _, rfl, Or.inr ⟨rfl, no ?_⟩⟩
              rintro (q | q | q)
              · exact c1 q
              · exact c2 q
              · rcases c3 with c3 | c3
                · exact lt_nlt c3 q.1
                · exact lt_nlt c3 q.2
            · rw [if_neg c3, if_neg i32_10]
              refine Ok.mk ⟨by rw [cs]; exact nI_1 _, rfl, go (Or.inr (Or.inr ⟨nlt_le fun q => c3 (Or.inl q), nlt_le fun q => c3 (Or.inr q)⟩))⟩
      · rintro ⟨q1, q2, q3⟩ ⟨h1, h2, h3⟩
        have h2 : q3 = shI 8 := h2
        subst h2
        simp only [s_M_text_B9, sh_8, ↓reduceIte]
        exact Ok.mk ⟨h1, h3⟩
    rw [he]
    simp only [Option.bind_some]
    rw [hp.1]
    exact hQ e.2 hp.2
  have ek : (nI L + nI (cn w 8) ≤ 300) ↔ L + cn w 8 ≤ 300 := by
    rw [nI_add]
    exact nI_leI (a := L + cn w 8) (b := 300) (by omega) (by omega)
  unfold s_L_text s_C_text
  obtain ⟨r, er, hr⟩ := e_isReadable w
  rw [er]
  simp only [Option.bind_some]
  rcases hr with ⟨rfl, ht⟩ | ⟨rfl, ht⟩
  · simp only [i32_10, ↓reduceIte]
    unfold s_Tr_append
    rw [e_charactersOf]
    simp only [Option.bind_some]
    by_cases c1 : L + cn w 8 ≤ 300
    · rw [if_pos (ek.mpr c1), e_append19 w L f ra rf rd rv rn rfa c1]
      simp only [Option.bind_some, i32_10, ↓reduceIte, Sum.elim_inr, inb01, gd_t, cl0]
      refine Ok.mk (Ok.of (ml (some (nI (ap w 8 (L, g)).1, nI (ap w 8 (L, g)).1, 0, (ap w 8 (L, g)).2)) ?_) ⟨rfl, fun _ => ?_, (ap w 8 (L, f)).1, ?_, rfl, ?_, ?_⟩)
      · rintro gd (⟨rfl, -⟩ | ⟨rfl, q⟩)
        · rw [if_neg i32_10, if_pos (ek.mpr c1)]
          unfold s_M_text_J91
          rw [if_pos (by decide)]
          exact m_text107 w L g vw ve 0 va vs vo v2 vnm vnn vnu vb c1
        · exact absurd ht q
      · dsimp only
        rw [updL_at, ap_1, ap_1]
        exact lg_self _
      · rw [ap_1]; exact c1
      · dsimp only
        rw [ap_1, ap_1]
      · exact ap_agree w L f g 8 ht h
    · rw [if_neg (fun q => c1 (ek.mp q))]
      simp +decide only [isb_0, gd_t, Option.bind_some, ↓reduceIte, Sum.elim_inl]
      refine Ok.mk (Ok.of (ml (some (0, nI L, 2, g)) ?_) ⟨rfl, fun q => absurd q i32_123.2.1, L, hL, rfl, rfl, h⟩)
      rintro gd (⟨rfl, -⟩ | ⟨rfl, q⟩)
      · rw [if_neg i32_10, if_neg (fun q => c1 (ek.mp q))]
        exact J 2 (by decide)
      · exact absurd ht q
  · simp +decide only [↓reduceIte, Option.bind_some, Sum.elim_inl]
    refine Ok.mk (Ok.of (ml (some (0, nI L, 1, g)) ?_) ⟨rfl, fun q => absurd q i32_10, L, hL, rfl, rfl, h⟩)
    rintro gd (⟨rfl, q⟩ | ⟨rfl, -⟩)
    · exact absurd q ht
    · rw [if_pos rfl]
      exact J 1 (by decide)
