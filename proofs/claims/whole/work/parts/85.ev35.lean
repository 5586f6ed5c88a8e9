/-! reading: where a number begins -/
def bl (ch : Nat → Int32) (p : Nat) : Prop := p = 0 ∨ ch (p - 1) = 10
def rF (L : Nat) (ch : Nat → Int32) : Nat → Nat → Bool → Nat
  | 0, p, _ => p
  | d + 1, p, lo => if ch p = 10 then rF L ch d (p + 1) false else if ch p = 42 ∧ (p = 0 ∨ ch (p - 1) = 10) then rF L ch d (p + 1) true else if ch p = 32 ∨ lo = true then rF L ch d (p + 1) lo else p
def rN (L : Nat) (ch : Nat → Int32) (p : Nat) : Nat := rF L ch (L - p) p false
theorem rF_ge {L : Nat} {ch : Nat → Int32} : ∀ d p lo, p ≤ rF L ch d p lo ∧ rF L ch d p lo ≤ p + d := by
  intro d
  induction d with
  | zero => intro p lo; exact ⟨Nat.le_refl _, Nat.le_refl _⟩
  | succ d ih =>
    intro p lo
    unfold rF
    have a := ih (p + 1) false
    have b := ih (p + 1) true
    have c := ih (p + 1) lo
    repeat' split
    all_goals omega
theorem rN_ge {L p : Nat} {ch : Nat → Int32} (h : p ≤ L) : p ≤ rN L ch p ∧ rN L ch p ≤ L := by
  have := rF_ge (L := L) (ch := ch) (L - p) p false
  unfold rN
  omega
theorem rF_s {L p : Nat} {ch : Nat → Int32} {lo : Bool} (h : p < L) : rF L ch (L - p) p lo = if ch p = 10 then rF L ch (L - (p + 1)) (p + 1) false else if ch p = 42 ∧ (p = 0 ∨ ch (p - 1) = 10) then rF L ch (L - (p + 1)) (p + 1) true else if ch p = 32 ∨ lo = true then rF L ch (L - (p + 1)) (p + 1) lo else p := by
  obtain ⟨d, hd⟩ : ∃ d, L - p = d + 1 := ⟨L - p - 1, by omega⟩
  rw [hd, show L - (p + 1) = d by omega]
  rfl
theorem rF_end {L p : Nat} {ch : Nat → Int32} {lo : Bool} (h : ¬ p < L) : rF L ch (L - p) p lo = p := by
  rw [show L - p = 0 by omega]
  rfl
theorem i32_ch : ¬ (10 : Int32) = 42 ∧ ¬ (42 : Int32) = 10 ∧ ¬ (32 : Int32) = 10 ∧ ¬ (32 : Int32) = 42 ∧ ¬ (42 : Int32) = 32 ∧ ¬ (10 : Int32) = 32 := by decide
theorem rN_blank {L p : Nat} {ch : Nat → Int32} (h : p < L) (hc : ch p = 32 ∨ ch p = 10) : rN L ch p = rN L ch (p + 1) := by
  unfold rN
  rw [rF_s h]
  rcases hc with c | c
  · rw [c, if_neg i32_ch.2.2.1, if_neg (fun q => i32_ch.2.2.2.1 q.1), if_pos (Or.inl rfl)]
  · rw [c, if_pos rfl]
/-- inside a line that is left out: to its end -/
theorem rT_line {L : Nat} {ch : Nat → Int32} : ∀ d p q, q = p + d → q ≤ L → (∀ i, p ≤ i → i < q → ¬ ch i = 10) → (q = L ∨ ch q = 10) → rF L ch (L - p) p true = rN L ch q := by
  intro d
  induction d with
  | zero =>
    intro p q hq hl _ he
    have : q = p := by omega
    subst this
    unfold rN
    by_cases h : q < L
    · rcases he with e | e
      · omega
      · rw [rF_s h, rF_s h, if_pos e, if_pos e]
    · rw [rF_end h, rF_end h]
  | succ d ih =>
    intro p q hq hl hn he
    have hp : p < L := by omega
    have h1 := hn p (Nat.le_refl _) (by omega)
    rw [rF_s hp, if_neg h1]
    have go := ih (p + 1) q (by omega) hl (fun i h2 h3 => hn i (by omega) h3) he
    split
    · exact go
    · rw [if_pos (Or.inr rfl)]
      exact go
theorem rN_line {L p q : Nat} {ch : Nat → Int32} (h : p < L) (hc : ch p = 42) (hb : bl ch p) (hpq : p < q) (hq : q ≤ L) (hn : ∀ i, p ≤ i → i < q → ¬ ch i = 10) (he : q = L ∨ ch q = 10) : rN L ch p = rN L ch q := by
  have e : rN L ch p = rF L ch (L - (p + 1)) (p + 1) true := by
    unfold rN
    rw [rF_s h, hc, if_neg i32_ch.2.1, if_pos ⟨rfl, hb⟩]
  rw [e]
  exact rT_line (q - (p + 1)) (p + 1) q (by omega) hq (fun i h1 h2 => hn i (by omega) h2) he
theorem rN_stop {L p : Nat} {ch : Nat → Int32} (h : p < L → ¬ ch p = 32 ∧ ¬ ch p = 10 ∧ ¬ (ch p = 42 ∧ bl ch p)) : rN L ch p = p := by
  unfold rN
  by_cases hp : p < L
  · obtain ⟨a, b, c⟩ := h hp
    have c : ¬ (ch p = 42 ∧ (p = 0 ∨ ch (p - 1) = 10)) := c
    rw [rF_s hp, if_neg b, if_neg c, if_neg (by
      rintro (q | q)
      · exact a q
      · cases q)]
  · exact rF_end hp
def bI (b : Bool) : Int32 := if b = true then 1 else 0
theorem e_beginsLine {L p : Nat} {ch : Nat → Int32} (rf rd : Int32) (rv : UInt64) (rn rfa : Int32) (hp : p ≤ 300) : Ok (s_Tr_beginsLine (nI L) (nI p) rf rd rv rn rfa ch) (fun r => (r = 1 ∧ bl ch p) ∨ (r = 0 ∧ ¬ bl ch p)) := by
  unfold s_Tr_beginsLine s_Tr_beginsLine_J23 bl
  by_cases h0 : p = 0
  · subst h0
    rw [if_pos (show nI 0 = 0 from rfl)]
    exact Ok.mk (Or.inl ⟨rfl, Or.inl rfl⟩)
  · obtain ⟨k, rfl⟩ : ∃ k, p = k + 1 := ⟨p - 1, by omega⟩
    rw [if_neg (nI_ne0 (by omega) (by omega)), nI_pred]
    simp (disch := omega) only [↓ite_le_t, ↓ite_le_f, ↓ite_lt_t, ↓ite_lt_f, li5, li8, nI_leI, nI_ltI, nI_eqI, if_pos, if_neg, ↓reduceIte, inb_nI, gd_t, nI_clamp, Option.bind_some, nI_1, isb_0, isb_1, lit13, lit14, lit40, nI_mul, nI_add]
    by_cases c : ch k = 10
    · rw [if_pos c]
      exact Ok.mk (Or.inl ⟨rfl, Or.inr c⟩)
    · rw [if_neg c]
      refine Ok.mk (Or.inr ⟨rfl, ?_⟩)
      rintro (q | q)
      · exact h0 q
      · exact c q
theorem e_reachNumber {L p : Nat} {ch : Nat → Int32} (rf rd : Int32) (rv : UInt64) (rn rfa : Int32) (hL : L ≤ 300) (hp : p ≤ L) : Ok (s_Tr_reachNumber (nI L) (nI p) rf rd rv rn rfa ch) (fun r => r.2 = nI (rN L ch p) ∧ ((r.1 = 1 ∧ rN L ch p < L) ∨ (r.1 = 0 ∧ rN L ch p = L))) := by
  unfold s_Tr_reachNumber s_Tr_reachNumber_L2
  refine Ok.bind (P := fun v => Sum.elim (fun (w : Int32) => rN L ch p = L ∧ w = nI L) (fun (w : Int32 × Int32) => w.1 = 1 ∧ w.2 = nI (rN L ch p) ∧ rN L ch p < L) v) ?_ ?_
  · refine Ok.loop (fun k (st : Int32 × Int32) => p + k ≤ L ∧ st.1 = nI (p + k) ∧ ∃ lo : Bool, st.2 = bI lo ∧ rF L ch (L - (p + k)) (p + k) lo = rN L ch p) (L - p) ?_ (L - p) 0 2000 _ (by omega) (by omega) ⟨by omega, rfl, false, rfl, rfl⟩
    rintro k ⟨at', x1⟩ hk ⟨h1, h2, lo, h3, h4⟩
    have h2 : at' = nI (p + k) := h2
    have h3 : x1 = bI lo := h3
    subst h2 h3
    by_cases hlt : p + k < L
    · rw [rF_s hlt] at h4
      have nx : ∀ lo' : Bool, rF L ch (L - (p + k + 1)) (p + k + 1) lo' = rN L ch p → Ok (some (Sum.inl (nI (p + k) + 1, bI lo')) : Option ((Int32 × Int32) ⊕ ((Int32) ⊕ (Int32 × Int32)))) (fun r => Sum.elim (fun st' : Int32 × Int32 => k < L - p ∧ p + (k + 1) ≤ L ∧ st'.1 = nI (p + (k + 1)) ∧ ∃ lo : Bool, st'.2 = bI lo ∧ rF L ch (L - (p + (k + 1))) (p + (k + 1)) lo = rN L ch p) (fun v => Sum.elim (fun (w : Int32) => rN L ch p = L ∧ w = nI L) (fun (w : Int32 × Int32) => w.1 = 1 ∧ w.2 = nI (rN L ch p) ∧ rN L ch p < L) v) r) := fun lo' h => Ok.mk ⟨by omega, by omega, nI_1 _, lo', rfl, h⟩
      have J52 : ¬ ch (p + k) = 10 → ¬ (ch (p + k) = 42 ∧ (p + k = 0 ∨ ch (p + k - 1) = 10)) → Ok (s_Tr_reachNumber_J52 (nI L) (nI (p + k)) rf rd rv rn rfa ch (bI lo) (ch (p + k))) (fun r => Sum.elim (fun st' : Int32 × Int32 => k < L - p ∧ p + (k + 1) ≤ L ∧ st'.1 = nI (p + (k + 1)) ∧ ∃ lo : Bool, st'.2 = bI lo ∧ rF L ch (L - (p + (k + 1))) (p + (k + 1)) lo = rN L ch p) (fun v => Sum.elim (fun (w : Int32) => rN L ch p = L ∧ w = nI L) (fun (w : Int32 × Int32) => w.1 = 1 ∧ w.2 = nI (rN L ch p) ∧ rN L ch p < L) v) r) := by
        intro n1 n2
        rw [if_neg n1, if_neg n2] at h4
        unfold s_Tr_reachNumber_J52 s_Tr_reachNumber_J64
        by_cases c : ch (p + k) = 32
        · rw [if_pos c]
          rw [if_pos (Or.inl c)] at h4
          exact nx lo h4
        · rw [if_neg c]
          cases lo with
          | true =>
            rw [if_neg (by decide)]
            rw [if_pos (Or.inr rfl)] at h4
            exact nx true h4
          | false =>
            rw [if_pos (by decide)]
            rw [if_neg (by
              rintro (q | q)
              · exact c q
              · cases q)] at h4
            simp only [isb_1, gd_t]
            exact Ok.mk ⟨rfl, by rw [h4], by omega⟩
      simp (disch := omega) only [↓ite_le_t, ↓ite_le_f, ↓ite_lt_t, ↓ite_lt_f, li5, li8, nI_leI, nI_ltI, nI_eqI, if_pos, if_neg, ↓reduceIte, inb_nI, gd_t, nI_clamp, Option.bind_some, nI_1, isb_0, isb_1, lit13, lit14, lit40, nI_mul, nI_add, s_Tr_reachNumber_B2]
      by_cases c1 : ch (p + k) = 10
      · rw [if_pos c1]
        rw [if_pos c1] at h4
        exact nx false h4
      · rw [if_neg c1]
        by_cases c2 : ch (p + k) = 42
        · rw [if_pos c2]
          obtain ⟨r, er, hr⟩ := e_beginsLine (L := L) (p := p + k) (ch := ch) rf rd rv rn rfa (by omega)
          rw [er]
          simp only [Option.bind_some]
          rcases hr with ⟨rfl, hb⟩ | ⟨rfl, hb⟩
          · rw [if_neg i32_10]
            rw [if_neg c1, if_pos ⟨c2, hb⟩] at h4
            exact nx true h4
          · rw [if_pos rfl]
            exact J52 c1 (fun q => hb q.2)
        · rw [if_neg c2]
          exact J52 c1 (fun q => c2 q.1)
    · have hkL : p + k = L := by omega
      rw [rF_end hlt] at h4
      simp (disch := omega) only [↓ite_le_t, ↓ite_le_f, ↓ite_lt_t, ↓ite_lt_f, li5, li8, nI_leI, nI_ltI, nI_eqI, if_pos, if_neg, ↓reduceIte, inb_nI, gd_t, nI_clamp, Option.bind_some, nI_1, isb_0, isb_1, lit13, lit14, lit40, nI_mul, nI_add, s_Tr_reachNumber_B2]
      exact Ok.mk ⟨by rw [← h4, hkL], by rw [hkL]⟩
  · rintro (v | v) hv
    · obtain ⟨h1, h2⟩ := hv
      simp only [Sum.elim_inl, isb_0, gd_t]
      exact Ok.mk ⟨by rw [h1]; exact h2, Or.inr ⟨rfl, h1⟩⟩
    · obtain ⟨h1, h2, h3⟩ := hv
      exact Ok.mk ⟨h2, Or.inl ⟨h1, h3⟩⟩
/-! the reference's skipping -/
theorem e_here {m n L p : Nat} {tx : Nat → Int32} (vw ve vt vs vo v2 vnm vnn : Int32) (vnu : UInt64) (vb : Int32) (hL : L ≤ 300) (hp : p ≤ L) : s_M_here (nI m) (nI n) (nI L) vw ve vt (nI p) vs vo v2 vnm vnn vnu vb tx = some (if p < L then tx p else -1) := by
  unfold s_M_here
  by_cases h : p < L
  · simp (disch := omega) only [↓ite_le_t, ↓ite_le_f, ↓ite_lt_t, ↓ite_lt_f, li5, li8, nI_leI, nI_ltI, nI_eqI, if_pos, if_neg, ↓reduceIte, inb_nI, gd_t, nI_clamp, Option.bind_some, nI_1, isb_0, isb_1, lit13, lit14, lit40, nI_mul, nI_add]
  · simp (disch := omega) only [↓ite_le_t, ↓ite_le_f, ↓ite_lt_t, ↓ite_lt_f, li5, li8, nI_leI, nI_ltI, nI_eqI, if_pos, if_neg, ↓reduceIte, inb_nI, gd_t, nI_clamp, Option.bind_some, nI_1, isb_0, isb_1, lit13, lit14, lit40, nI_mul, nI_add]
theorem i32_m1 : ¬ (-1 : Int32) = 32 ∧ ¬ (-1 : Int32) = 10 ∧ ¬ (-1 : Int32) = 42 ∧ ¬ (-1 : Int32) = 45 ∧ ¬ (-1 : Int32) = 46 ∧ (-1 : Int32) < 48 := by decide
theorem e_skip {m n L p : Nat} {ch tx : Nat → Int32} (vw ve vt vs vo v2 vnm vnn : Int32) (vnu : UInt64) (vb : Int32) (hL : L ≤ 300) (hp : p ≤ L) (ht : ∀ q, q < L → tx q = ch q) : s_M_skip (nI m) (nI n) (nI L) vw ve vt (nI p) vs vo v2 vnm vnn vnu vb tx = some (nI (rN L ch p)) := by
  have bt : ∀ q, q < L → (bl tx q ↔ bl ch q) := fun q hq => by
    unfold bl
    by_cases h0 : q = 0
    · simp [h0]
    · rw [ht (q - 1) (by omega)]
  refine Ok.eq ?_
  unfold s_M_skip s_M_skip_L2
  refine Ok.bind (P := fun v => v = nI (rN L ch p)) ?_ (fun v hv => Ok.mk hv)
  refine Ok.loop (fun k (st : Int32 × Int32) => ∃ q, q ≤ L ∧ st.1 = nI q ∧ rN L ch q = rN L ch p ∧ ((st.2 = 1 ∧ p + k ≤ q) ∨ (st.2 = 0 ∧ rN L ch q = q ∧ p + k ≤ q + 1))) 302 ?_ 302 0 2000 _ (by omega) (by omega) ⟨p, hp, rfl, rfl, Or.inl ⟨rfl, Nat.le_refl _⟩⟩
  rintro k ⟨at', x1⟩ hk ⟨q, hq, h1, h2, h3⟩
  have h1 : at' = nI q := h1
  subst h1
  have h3 : (x1 = 1 ∧ p + k ≤ q) ∨ (x1 = 0 ∧ rN L ch q = q ∧ p + k ≤ q + 1) := h3
  rcases h3 with ⟨rfl, h3⟩ | ⟨rfl, h3, h4⟩
  · have J80 : ∀ q' : Nat, ∀ x : Int32, q' ≤ L → rN L ch q' = rN L ch p → (x = 1 ∧ q < q' ∨ x = 0 ∧ q' = q ∧ (q < L → ¬ (ch q = 42 ∧ bl ch q))) → Ok (s_M_skip_J80 (nI m) (nI n) (nI L) vw ve vt (nI q') vs vo v2 vnm vnn vnu vb tx x) (fun r => Sum.elim (fun st' : Int32 × Int32 => k < 302 ∧ ∃ q, q ≤ L ∧ st'.1 = nI q ∧ rN L ch q = rN L ch p ∧ ((st'.2 = 1 ∧ p + (k + 1) ≤ q) ∨ (st'.2 = 0 ∧ rN L ch q = q ∧ p + (k + 1) ≤ q + 1))) (fun v => v = nI (rN L ch p)) r) := by
      intro q' x hq' he hx
      have hge : q ≤ q' := by rcases hx with a | a <;> omega
      unfold s_M_skip_J80 s_M_skip_J98
      rw [e_here _ _ _ _ _ _ _ _ _ _ hL hq']
      simp only [Option.bind_some]
      by_cases hlt : q' < L
      · rw [if_pos hlt, ht q' hlt]
        by_cases c1 : ch q' = 32
        · rw [if_pos c1]
          exact Ok.mk ⟨by omega, q' + 1, by omega, nI_1 _, by rw [← rN_blank hlt (Or.inl c1)]; exact he, Or.inl ⟨rfl, by omega⟩⟩
        · rw [if_neg c1]
          by_cases c2 : ch q' = 10
          · rw [if_pos c2]
            exact Ok.mk ⟨by omega, q' + 1, by omega, nI_1 _, by rw [← rN_blank hlt (Or.inr c2)]; exact he, Or.inl ⟨rfl, by omega⟩⟩
          · rw [if_neg c2]
            rcases hx with ⟨rfl, hx⟩ | ⟨rfl, rfl, hx⟩
            · exact Ok.mk ⟨by omega, q', hq', rfl, he, Or.inl ⟨rfl, by omega⟩⟩
            · exact Ok.mk ⟨by omega, q', hq', rfl, he, Or.inr ⟨rfl, rN_stop fun _ => ⟨c1, c2, hx hlt⟩, by omega⟩⟩
      · rw [if_neg hlt, if_neg i32_m1.1, if_neg i32_m1.2.1]
        rcases hx with ⟨rfl, hx⟩ | ⟨rfl, rfl, hx⟩
        · exact Ok.mk ⟨by omega, q', hq', rfl, he, Or.inl ⟨rfl, by omega⟩⟩
        · exact Ok.mk ⟨by omega, q', hq', rfl, he, Or.inr ⟨rfl, rN_stop fun h => absurd h hlt, by omega⟩⟩
    have L40 : q < L → ch q = 42 → bl ch q → Ok (s_M_skip_L40 (nI m) (nI n) (nI L) vw ve vt (nI q) vs vo v2 vnm vnn vnu vb tx) (fun r => Sum.elim (fun st' : Int32 × Int32 => k < 302 ∧ ∃ q, q ≤ L ∧ st'.1 = nI q ∧ rN L ch q = rN L ch p ∧ ((st'.2 = 1 ∧ p + (k + 1) ≤ q) ∨ (st'.2 = 0 ∧ rN L ch q = q ∧ p + (k + 1) ≤ q + 1))) (fun v => v = nI (rN L ch p)) r) := by
      intro hlt c42 hb
      obtain ⟨d, hd1, hd2, hd3⟩ := ex_least (P := fun d => q + d = L ∨ ch (q + d) = 10) (L - q) (Or.inl (by omega))
      have hd0 : 0 < d := by
        refine Nat.pos_of_ne_zero fun h0 => ?_
        subst h0
        rcases hd3 with e | e
        · omega
        · rw [Nat.add_zero, c42] at e
          exact i32_ch.2.1 e
      have hn : ∀ i, q ≤ i → i < q + d → ¬ ch i = 10 := fun i i1 i2 e => hd2 (i - q) (by omega) (Or.inr (by rw [show q + (i - q) = i by omega]; exact e))
      unfold s_M_skip_L40
      refine Ok.bind (P := fun v => v = nI (q + d)) ?_ ?_
      · refine loop_ok d (fun i => nI (q + i)) _ rfl (by omega) (fun i hi => ?_) ?_
        · have hqi : q + i < L := by
            refine Nat.lt_of_not_le fun h => ?_
            exact hd2 i hi (Or.inl (by omega))
          have e1 : ¬ ch (q + i) = 10 := hn (q + i) (by omega) (by omega)
          simp (disch := omega) only [↓ite_le_t, ↓ite_le_f, ↓ite_lt_t, ↓ite_lt_f, li5, li8, nI_leI, nI_ltI, nI_eqI, if_pos, if_neg, ↓reduceIte, inb_nI, gd_t, nI_clamp, Option.bind_some, nI_1, isb_0, isb_1, lit13, lit14, lit40, nI_mul, nI_add, s_M_skip_B40, ht (q + i) hqi, e1]
          rfl
        · by_cases hqd : q + d < L
          · have e1 : ch (q + d) = 10 := hd3.resolve_left (by omega)
            simp (disch := omega) only [↓ite_le_t, ↓ite_le_f, ↓ite_lt_t, ↓ite_lt_f, li5, li8, nI_leI, nI_ltI, nI_eqI, if_pos, if_neg, ↓reduceIte, inb_nI, gd_t, nI_clamp, Option.bind_some, nI_1, isb_0, isb_1, lit13, lit14, lit40, nI_mul, nI_add, s_M_skip_B40, ht (q + d) hqd, e1]
          · simp (disch := omega) only [↓ite_le_t, ↓ite_le_f, ↓ite_lt_t, ↓ite_lt_f, li5, li8, nI_leI, nI_ltI, nI_eqI, if_pos, if_neg, ↓reduceIte, inb_nI, gd_t, nI_clamp, Option.bind_some, nI_1, isb_0, isb_1, lit13, lit14, lit40, nI_mul, nI_add, s_M_skip_B40]
      · rintro v rfl
        unfold s_M_skip_J78
        exact J80 (q + d) 1 (by omega) (by rw [← rN_line hlt c42 hb (by omega) (by omega) hn hd3]; exact h2) (Or.inl ⟨rfl, by omega⟩)
    unfold s_M_skip_B2
    rw [if_neg i32_10, e_here _ _ _ _ _ _ _ _ _ _ hL hq]
    simp only [Option.bind_some]
    by_cases hlt : q < L
    · rw [if_pos hlt, ht q hlt]
      by_cases c42 : ch q = 42
      · rw [if_pos c42]
        by_cases h0 : q = 0
        · rw [if_pos (by rw [h0]; rfl)]
          exact L40 hlt c42 (Or.inl h0)
        · obtain ⟨j, hj⟩ : ∃ j, q = j + 1 := ⟨q - 1, by omega⟩
          have e1 : nI q - 1 = nI j := by rw [hj]; exact nI_pred j
          rw [if_neg (nI_ne0 (by omega) (by omega)), e1]
          simp (disch := omega) only [↓ite_le_t, ↓ite_le_f, ↓ite_lt_t, ↓ite_lt_f, li5, li8, nI_leI, nI_ltI, nI_eqI, if_pos, if_neg, ↓reduceIte, inb_nI, gd_t, nI_clamp, Option.bind_some, nI_1, isb_0, isb_1, lit13, lit14, lit40, nI_mul, nI_add, ht j (by omega)]
          by_cases c10 : ch j = 10
          · rw [if_pos c10]
            exact L40 hlt c42 (Or.inr (by rw [hj, Nat.add_sub_cancel]; exact c10))
          · rw [if_neg c10]
            refine J80 q 0 hq h2 (Or.inr ⟨rfl, rfl, fun _ w => ?_⟩)
            rcases w.2 with w | w
            · exact h0 w
            · rw [hj, Nat.add_sub_cancel] at w
              exact c10 w
      · rw [if_neg c42]
        exact J80 q 0 hq h2 (Or.inr ⟨rfl, rfl, fun _ w => c42 w.1⟩)
    · rw [if_neg hlt, if_neg i32_m1.2.2.1]
      exact J80 q 0 hq h2 (Or.inr ⟨rfl, rfl, fun w => absurd w hlt⟩)
  · unfold s_M_skip_B2
    rw [if_pos rfl]
    exact Ok.mk (by show nI q = _; rw [← h2, h3])
