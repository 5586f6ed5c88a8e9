/-! a phase, by itself -/
def pst (m n : Nat) (cost : (Nat → UInt64)) (sec : Int32) (T : (Nat → Nat → UInt64)) (R : (Nat → UInt64)) (B : Nat → Nat) : Nat → (Nat → Nat → UInt64) × (Nat → UInt64) × (Nat → Nat)
  | 0 => (T, R, B)
  | k + 1 => (pT (pst m n cost sec T R B k).1 (rowF m n (pst m n cost sec T R B k).1 (pst m n cost sec T R B k).2.1 (pst m n cost sec T R B k).2.2 sec (colF m n (pst m n cost sec T R B k).1 cost (pst m n cost sec T R B k).2.2).toNatClampNeg).toNatClampNeg (colF m n (pst m n cost sec T R B k).1 cost (pst m n cost sec T R B k).2.2).toNatClampNeg,
      pR (pst m n cost sec T R B k).1 (pst m n cost sec T R B k).2.1 (rowF m n (pst m n cost sec T R B k).1 (pst m n cost sec T R B k).2.1 (pst m n cost sec T R B k).2.2 sec (colF m n (pst m n cost sec T R B k).1 cost (pst m n cost sec T R B k).2.2).toNatClampNeg).toNatClampNeg (colF m n (pst m n cost sec T R B k).1 cost (pst m n cost sec T R B k).2.2).toNatClampNeg,
      pB (pst m n cost sec T R B k).2.2 (rowF m n (pst m n cost sec T R B k).1 (pst m n cost sec T R B k).2.1 (pst m n cost sec T R B k).2.2 sec (colF m n (pst m n cost sec T R B k).1 cost (pst m n cost sec T R B k).2.2).toNatClampNeg).toNatClampNeg (colF m n (pst m n cost sec T R B k).1 cost (pst m n cost sec T R B k).2.2).toNatClampNeg)
def kT (m n : Nat) (cost : (Nat → UInt64)) (sec : Int32) (T : (Nat → Nat → UInt64)) (R : (Nat → UInt64)) (B : Nat → Nat) (k : Nat) : (Nat → Nat → UInt64) := (pst m n cost sec T R B k).1
def kR (m n : Nat) (cost : (Nat → UInt64)) (sec : Int32) (T : (Nat → Nat → UInt64)) (R : (Nat → UInt64)) (B : Nat → Nat) (k : Nat) : (Nat → UInt64) := (pst m n cost sec T R B k).2.1
def kB (m n : Nat) (cost : (Nat → UInt64)) (sec : Int32) (T : (Nat → Nat → UInt64)) (R : (Nat → UInt64)) (B : Nat → Nat) (k : Nat) : Nat → Nat := (pst m n cost sec T R B k).2.2
def kCol (m n : Nat) (cost : (Nat → UInt64)) (sec : Int32) (T : (Nat → Nat → UInt64)) (R : (Nat → UInt64)) (B : Nat → Nat) (k : Nat) : Int32 := colF m n (kT m n cost sec T R B k) cost (kB m n cost sec T R B k)
def kRow (m n : Nat) (cost : (Nat → UInt64)) (sec : Int32) (T : (Nat → Nat → UInt64)) (R : (Nat → UInt64)) (B : Nat → Nat) (k : Nat) : Int32 := rowF m n (kT m n cost sec T R B k) (kR m n cost sec T R B k) (kB m n cost sec T R B k) sec (kCol m n cost sec T R B k).toNatClampNeg
def kWild (m n : Nat) (cost : (Nat → UInt64)) (sec : Int32) (T : (Nat → Nat → UInt64)) (R : (Nat → UInt64)) (B : Nat → Nat) (k : Nat) : Prop := wild m n (kT m n cost sec T R B (k + 1)) (kR m n cost sec T R B (k + 1))
def kMv (m n : Nat) (cost : (Nat → UInt64)) (sec : Int32) (T : (Nat → Nat → UInt64)) (R : (Nat → UInt64)) (B : Nat → Nat) (s0 k : Nat) : Prop := 0 ≤ kCol m n cost sec T R B k ∧ 0 ≤ kRow m n cost sec T R B k ∧ s0 + k < 200 ∧ ¬ kWild m n cost sec T R B k
def PhTo (m n : Nat) (cost : (Nat → UInt64)) (sec : Int32) (T : (Nat → Nat → UInt64)) (R : (Nat → UInt64)) (B : Nat → Nat) (s0 k : Nat) (how : Int32) : Prop := (∀ k', k' < k → kMv m n cost sec T R B s0 k') ∧ s0 + k ≤ 200 ∧ ((how = 6 ∧ kCol m n cost sec T R B k < 0) ∨ (how = 2 ∧ 0 ≤ kCol m n cost sec T R B k ∧ kRow m n cost sec T R B k < 0) ∨ (how = 3 ∧ 0 ≤ kCol m n cost sec T R B k ∧ 0 ≤ kRow m n cost sec T R B k ∧ (s0 + k = 200 ∨ kWild m n cost sec T R B k)))
def eff (s0 k : Nat) (how : Int32) : Nat := if how = 3 ∧ s0 + k < 200 then s0 + k + 1 else s0 + k
theorem i32_nle {a : Int32} (h : 0 ≤ a) (h2 : a < 0) : False := by
  have h1 := Int32.le_iff_toInt_le.mp h
  have h3 := Int32.lt_iff_toInt_lt.mp h2
  omega
theorem PhTo.noMv {m n : Nat} {cost : (Nat → UInt64)} {sec : Int32} {T : (Nat → Nat → UInt64)} {R : (Nat → UInt64)} {B : Nat → Nat} {s0 k : Nat} {how : Int32} (h : PhTo m n cost sec T R B s0 k how) : ¬ kMv m n cost sec T R B s0 k := by
  obtain ⟨-, -, h⟩ := h
  rintro ⟨g1, g2, g3, g4⟩
  rcases h with ⟨-, h1⟩ | ⟨-, -, h1⟩ | ⟨-, -, -, h1 | h1⟩
  · exact i32_nle g1 h1
  · exact i32_nle g2 h1
  · omega
  · exact g4 h1
theorem PhTo.uniq {m n : Nat} {cost : (Nat → UInt64)} {sec : Int32} {T : (Nat → Nat → UInt64)} {R : (Nat → UInt64)} {B : Nat → Nat} {s0 k k2 : Nat} {how how2 : Int32} (h : PhTo m n cost sec T R B s0 k how) (h2 : PhTo m n cost sec T R B s0 k2 how2) : k = k2 ∧ how = how2 := by
  have hk : k = k2 := by
    rcases Nat.lt_trichotomy k k2 with q | q | q
    · exact absurd (h2.1 k q) h.noMv
    · exact q
    · exact absurd (h.1 k2 q) h2.noMv
  subst hk
  refine ⟨rfl, ?_⟩
  obtain ⟨-, -, h⟩ := h
  obtain ⟨-, -, h2⟩ := h2
  rcases h with ⟨rfl, a1⟩ | ⟨rfl, a1, a2⟩ | ⟨rfl, a1, a2, a3⟩ <;> rcases h2 with ⟨rfl, b1⟩ | ⟨rfl, b1, b2⟩ | ⟨rfl, b1, b2, b3⟩ <;> first | rfl | exact (i32_nle a1 b1).elim | exact (i32_nle b1 a1).elim | exact (i32_nle a2 b2).elim | exact (i32_nle b2 a2).elim
theorem nn_of_nonneg {r : Int32} {m : Nat} (h : r = -1 ∨ ∃ i, i < m ∧ r = nI i) (h0 : 0 ≤ r) : ∃ i, i < m ∧ r = nI i := by
  rcases h with rfl | h
  · exact absurd h0 not_0_m1
  · exact h
/-- the table stays tame -/
theorem ph_tame {m n : Nat} {cost : (Nat → UInt64)} {sec : Int32} {T : (Nat → Nat → UInt64)} {R : (Nat → UInt64)} {B : Nat → Nat} {s0 : Nat} (hm : m ≤ 5) (hn : n ≤ 8) (h0 : TB m n T R B) : ∀ k, (∀ k', k' < k → kMv m n cost sec T R B s0 k') → TB m n (kT m n cost sec T R B k) (kR m n cost sec T R B k) (kB m n cost sec T R B k) := by
  intro k
  induction k with
  | zero => intro _; exact h0
  | succ k ih =>
    intro h
    have i := ih fun k' hk => h k' (by omega)
    obtain ⟨g1, g2, g3, g4⟩ := h k (by omega)
    obtain ⟨j, hj, ej⟩ := nn_of_nonneg (colF_ok hn) g1
    have ej' : kCol m n cost sec T R B k = nI j := ej
    have cj : (kCol m n cost sec T R B k).toNatClampNeg = j := by rw [ej']; exact nI_clamp (by omega)
    unfold kRow at g2
    rw [cj] at g2
    rcases rowF_ok (second := sec) hm i hj with q | ⟨r, hr, er, hp⟩
    · rw [q] at g2
      exact absurd g2 not_0_m1
    · have e1 : (kRow m n cost sec T R B k).toNatClampNeg = r := by
        unfold kRow
        rw [cj, er]
        exact nI_clamp (by omega)
      have e2 : kT m n cost sec T R B (k + 1) = pT (kT m n cost sec T R B k) r j := by
        show pT (kT m n cost sec T R B k) (kRow m n cost sec T R B k).toNatClampNeg (kCol m n cost sec T R B k).toNatClampNeg = _
        rw [e1, cj]
      have e3 : kR m n cost sec T R B (k + 1) = pR (kT m n cost sec T R B k) (kR m n cost sec T R B k) r j := by
        show pR (kT m n cost sec T R B k) (kR m n cost sec T R B k) (kRow m n cost sec T R B k).toNatClampNeg (kCol m n cost sec T R B k).toNatClampNeg = _
        rw [e1, cj]
      have e4 : kB m n cost sec T R B (k + 1) = pB (kB m n cost sec T R B k) r j := by
        show pB (kB m n cost sec T R B k) (kRow m n cost sec T R B k).toNatClampNeg (kCol m n cost sec T R B k).toNatClampNeg = _
        rw [e1, cj]
      unfold kWild at g4
      rw [e2, e3] at g4
      rw [e2, e3, e4]
      exact tame i hr hj hp g4
/-- the names of a step -/
theorem ph_step {m n : Nat} {cost : (Nat → UInt64)} {sec : Int32} {T : (Nat → Nat → UInt64)} {R : (Nat → UInt64)} {B : Nat → Nat} {k : Nat} (hm : m ≤ 5) (hn : n ≤ 8) (hT : TB m n (kT m n cost sec T R B k) (kR m n cost sec T R B k) (kB m n cost sec T R B k)) (h : 0 ≤ kCol m n cost sec T R B k) : ∃ j, j < n ∧ kCol m n cost sec T R B k = nI j ∧ kRow m n cost sec T R B k = rowF m n (kT m n cost sec T R B k) (kR m n cost sec T R B k) (kB m n cost sec T R B k) sec j ∧ (0 ≤ kRow m n cost sec T R B k → ∃ r, r < m ∧ kRow m n cost sec T R B k = nI r ∧ 2 ^ 1044 ≤ mz (kT m n cost sec T R B k r j) ∧ kT m n cost sec T R B (k + 1) = pT (kT m n cost sec T R B k) r j ∧ kR m n cost sec T R B (k + 1) = pR (kT m n cost sec T R B k) (kR m n cost sec T R B k) r j ∧ kB m n cost sec T R B (k + 1) = pB (kB m n cost sec T R B k) r j) := by
  obtain ⟨j, hj, ej⟩ := nn_of_nonneg (colF_ok hn) h
  have ej' : kCol m n cost sec T R B k = nI j := ej
  have cj : (kCol m n cost sec T R B k).toNatClampNeg = j := by rw [ej']; exact nI_clamp (by omega)
  have er0 : kRow m n cost sec T R B k = rowF m n (kT m n cost sec T R B k) (kR m n cost sec T R B k) (kB m n cost sec T R B k) sec j := by
    unfold kRow
    rw [cj]
  refine ⟨j, hj, ej', er0, fun h2 => ?_⟩
  rcases rowF_ok (second := sec) hm hT hj with q | ⟨r, hr, er, hp⟩
  · rw [er0, q] at h2
    exact absurd h2 not_0_m1
  · have e1 : (kRow m n cost sec T R B k).toNatClampNeg = r := by
      rw [er0, er]
      exact nI_clamp (by omega)
    refine ⟨r, hr, er0.trans er, hp, ?_, ?_, ?_⟩
    · show pT (kT m n cost sec T R B k) (kRow m n cost sec T R B k).toNatClampNeg (kCol m n cost sec T R B k).toNatClampNeg = _
      rw [e1, cj]
    · show pR (kT m n cost sec T R B k) (kR m n cost sec T R B k) (kRow m n cost sec T R B k).toNatClampNeg (kCol m n cost sec T R B k).toNatClampNeg = _
      rw [e1, cj]
    · show pB (kB m n cost sec T R B k) (kRow m n cost sec T R B k).toNatClampNeg (kCol m n cost sec T R B k).toNatClampNeg = _
      rw [e1, cj]
theorem lit200 : (200 : Int32) = nI 200 := rfl
theorem i32_623 : ¬ (3 : Int32) = 6 ∧ ¬ (2 : Int32) = 6 ∧ ¬ (3 : Int32) = 2 ∧ ¬ (6 : Int32) = 2 ∧ ¬ (6 : Int32) = 3 ∧ ¬ (2 : Int32) = 3 := by decide
theorem i32_nn {r : Int32} (h : ¬ 0 ≤ r) : r < 0 := by
  have h1 := mt Int32.le_iff_toInt_le.mpr h
  refine Int32.lt_iff_toInt_lt.mpr ?_
  have : (0 : Int32).toInt = 0 := rfl
  omega
/-- the class's phase -/
theorem e_runPhase {m n : Nat} {cost : (Nat → UInt64)} {sec : Int32} {T : (Nat → Nat → UInt64)} {R : (Nat → UInt64)} {B : Nat → Nat} {s0 : Nat} {tb : (Nat → Nat → UInt64)} {ri co x : (Nat → UInt64)} {ba : Nat → Int32} (hm : m ≤ 5) (hn : n ≤ 8) (hs0 : s0 ≤ 200) (hT : TB m n T R B) (hc : CB m n cost) (hC : CT m n T R B tb ri ba) (hco : ∀ k, k < n + m → co k = cost k) :
    Ok (s_Sm_runPhase (nI m) (nI n) (nI (n + m)) (nI s0) x tb ri co ba sec) (fun r => ∃ k how, PhTo m n cost sec T R B s0 k how ∧ r.1 = how ∧ r.2.1 = nI (eff s0 k how) ∧ (¬ how = 2 → r.2.2.1 = x) ∧ (how = 2 → r.2.2.1 = rayX (kT m n cost sec T R B k) (kB m n cost sec T R B k) m n (kCol m n cost sec T R B k).toNatClampNeg x) ∧ (how = 6 → CT m n (kT m n cost sec T R B k) (kR m n cost sec T R B k) (kB m n cost sec T R B k) r.2.2.2.1 r.2.2.2.2.1 r.2.2.2.2.2)) := by
  unfold s_Sm_runPhase s_Sm_runPhase_L2
  refine Ok.bind (P := fun v => Sum.elim (fun _ => False) (fun r => ∃ k how, PhTo m n cost sec T R B s0 k how ∧ r.1 = how ∧ r.2.1 = nI (eff s0 k how) ∧ (¬ how = 2 → r.2.2.1 = x) ∧ (how = 2 → r.2.2.1 = rayX (kT m n cost sec T R B k) (kB m n cost sec T R B k) m n (kCol m n cost sec T R B k).toNatClampNeg x) ∧ (how = 6 → CT m n (kT m n cost sec T R B k) (kR m n cost sec T R B k) (kB m n cost sec T R B k) r.2.2.2.1 r.2.2.2.2.1 r.2.2.2.2.2)) v) ?_ ?_
  · refine Ok.loop (fun k (st : Int32 × (Nat → Nat → UInt64) × (Nat → UInt64) × (Nat → Int32) × Int32) => s0 + k ≤ 200 ∧ st.2.2.2.2 = nI k ∧ st.1 = nI (s0 + k) ∧ (∀ k', k' < k → kMv m n cost sec T R B s0 k') ∧ CT m n (kT m n cost sec T R B k) (kR m n cost sec T R B k) (kB m n cost sec T R B k) st.2.1 st.2.2.1 st.2.2.2.1) 200 ?_ 200 0 2000 _ (by omega) (by omega) ⟨hs0, rfl, rfl, fun i hi => absurd hi (Nat.not_lt_zero _), hC⟩
    rintro k ⟨sd, tb, ri, ba, z⟩ hk ⟨w0, w1, w2, w3, w4⟩
    have w1 : z = nI k := w1
    have w2 : sd = nI (s0 + k) := w2
    subst w1 w2
    have tm := ph_tame hm hn hT k w3
    have ei : s_Sm_incoming (nI m) (nI n) (nI (n + m)) (nI (s0 + k)) tb co ba = some (kCol m n cost sec T R B k) := e_incoming _ _ hm hn tm hc w4 hco
    simp (disch := omega) only [↓ite_le_t, ↓ite_le_f, ↓ite_lt_t, ↓ite_lt_f, li5, li8, nI_leI, nI_ltI, nI_eqI, if_pos, if_neg, ↓reduceIte, inb_nI, gd_t, nI_clamp, Option.bind_some, nI_1, isb_0, isb_1, lit13, lit14, lit40, nI_mul, nI_add, s_Sm_runPhase_B2, lit200, ei]
    by_cases c1 : 0 ≤ kCol m n cost sec T R B k
    · rw [if_pos c1]
      obtain ⟨j, hj, ej, er, st⟩ := ph_step hm hn tm c1
      have eo : s_Sm_outgoing (nI m) (nI n) (nI (n + m)) (nI (s0 + k)) tb ri ba (kCol m n cost sec T R B k) sec = some (kRow m n cost sec T R B k) := by
        rw [ej, er]
        exact e_outgoing _ _ sec hm hn hj tm w4
      rw [eo]
      simp only [Option.bind_some]
      by_cases c2 : 0 ≤ kRow m n cost sec T R B k
      · rw [if_pos c2]
        obtain ⟨r, hr, er2, hp, f1, f2, f3⟩ := st c2
        by_cases c3 : s0 + k < 200
        · rw [if_pos c3, er2, ej]
          refine Ok.bind (e_pivot (nI n) (nI (s0 + k)) hm hn tm w4 hr hj hp) ?_
          rintro ⟨tb2, ri2, ba2⟩ h2
          have h2 : CT m n (kT m n cost sec T R B (k + 1)) (kR m n cost sec T R B (k + 1)) (kB m n cost sec T R B (k + 1)) tb2 ri2 ba2 := by rw [f1, f2, f3]; exact h2
          obtain ⟨-, -, -, -, p5, p6⟩ := piv_bc tm hr hj hp
          refine Ok.bind (e_isOvergrown (T := kT m n cost sec T R B (k + 1)) (R := kR m n cost sec T R B (k + 1)) (nI n) (nI (s0 + k + 1)) hm hn (fun i hi => ⟨(h2 i hi).1, (h2 i hi).2.1⟩) (fun i hi => by rw [f1, f2]; exact ⟨fun k hk => (p5 i hi k hk).nn, (p6 i hi).nn⟩)) ?_
          rintro r (⟨rfl, hw⟩ | ⟨rfl, hw⟩)
          · simp only [i32_10, ↓reduceIte]
            refine Ok.mk ⟨k, 3, ⟨w3, w0, Or.inr (Or.inr ⟨rfl, c1, c2, Or.inr hw⟩)⟩, rfl, ?_, fun _ => rfl, fun q => absurd q i32_623.2.2.1, fun q => absurd q i32_623.1⟩
            unfold eff
            rw [if_pos ⟨rfl, c3⟩]
          · simp only [↓reduceIte]
            refine Ok.mk ⟨by omega, by omega, rfl, rfl, fun k' hk' => ?_, h2⟩
            by_cases e : k' = k
            · subst e
              exact ⟨c1, c2, c3, hw⟩
            · exact w3 k' (by omega)
        · rw [if_neg c3]
          refine Ok.mk ⟨k, 3, ⟨w3, w0, Or.inr (Or.inr ⟨rfl, c1, c2, Or.inl (by omega)⟩)⟩, rfl, ?_, fun _ => rfl, fun q => absurd q i32_623.2.2.1, fun q => absurd q i32_623.1⟩
          unfold eff
          rw [if_neg (fun q => c3 q.2)]
      · rw [if_neg c2]
        have et : s_Sm_tellRay (nI m) (nI n) (nI (n + m)) (nI (s0 + k)) x tb ba (kCol m n cost sec T R B k) = some (rayX (kT m n cost sec T R B k) (kB m n cost sec T R B k) m n j x) := by
          rw [ej]
          exact e_tellRay _ _ hm hn tm w4 hj
        rw [et]
        refine Ok.mk ⟨k, 2, ⟨w3, w0, Or.inr (Or.inl ⟨rfl, c1, i32_nn c2⟩)⟩, rfl, ?_, fun q => absurd rfl q, fun _ => ?_, fun q => absurd q i32_623.2.1⟩
        · unfold eff
          rw [if_neg (fun q => absurd q.1 i32_623.2.2.2.2.2)]
        · rw [ej, nI_clamp (by omega)]
    · rw [if_neg c1]
      refine Ok.mk ⟨k, 6, ⟨w3, w0, Or.inl ⟨rfl, i32_nn c1⟩⟩, rfl, ?_, fun _ => rfl, fun q => absurd q i32_623.2.2.2.1, fun _ => w4⟩
      unfold eff
      rw [if_neg (fun q => absurd q.1 i32_623.2.2.2.2.1)]
  · rintro (v | v) hv
    · exact hv.elim
    · exact Ok.mk hv
