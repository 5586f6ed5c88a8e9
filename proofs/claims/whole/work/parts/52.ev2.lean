/-! stepping words -/
theorem li5 : (5 : Int32) = nI 5 := rfl
theorem li8 : (8 : Int32) = nI 8 := rfl
theorem ite_le_t {α : Type} {a b : Nat} [Decidable (nI a ≤ nI b)] {t e : α} (h : a ≤ b) (hb : b < 2 ^ 31) : (if nI a ≤ nI b then t else e) = t := if_pos (nI_le h hb)
theorem ite_le_f {α : Type} {a b : Nat} [Decidable (nI b ≤ nI a)] {t e : α} (h : a < b) (hb : b < 2 ^ 31) : (if nI b ≤ nI a then t else e) = e := if_neg (nI_ge h hb)
theorem ite_lt_t {α : Type} {a b : Nat} [Decidable (nI a < nI b)] {t e : α} (h : a < b) (hb : b < 2 ^ 31) : (if nI a < nI b then t else e) = t := if_pos (nI_lt h hb)
theorem ite_lt_f {α : Type} {a b : Nat} [Decidable (nI b < nI a)] {t e : α} (h : a ≤ b) (hb : b < 2 ^ 31) : (if nI b < nI a then t else e) = e := if_neg (nI_nlt h hb)
theorem isb_0 : isb 0 = true := rfl
theorem isb_1 : isb 1 = true := rfl
theorem nI_eqI {a b : Nat} (ha : a < 2 ^ 31) (hb : b < 2 ^ 31) : nI a = nI b ↔ a = b := nI_eq ha hb
theorem upd_at {α : Type} (f : Nat → α) (k : Nat) (v : α) : vf_upd f k v k = v := if_pos rfl
theorem upd_ne {α : Type} {f : Nat → α} {k j : Nat} {v : α} (h : ¬ j = k) : vf_upd f k v j = f j := if_neg h
theorem upd_upd {α : Type} (f : Nat → α) (k : Nat) (v w : α) : vf_upd (vf_upd f k v) k w = vf_upd f k w := by
  funext j
  unfold vf_upd
  by_cases h : j = k <;> simp [h]
theorem upd_self {α : Type} (f : Nat → α) (k : Nat) : vf_upd f k (f k) = f := by
  funext j
  unfold vf_upd
  by_cases h : j = k
  · subst h; simp
  · simp [h]
theorem gset_at (M : (Nat → Nat → UInt64)) (i : Nat) (r : (Nat → UInt64)) : gset M i r i = r := if_pos rfl
theorem gset_ne {M : (Nat → Nat → UInt64)} {i j : Nat} {r : (Nat → UInt64)} (h : ¬ j = i) : gset M i r j = M j := if_neg h
theorem gset_gset (M : (Nat → Nat → UInt64)) (i : Nat) (r r2 : (Nat → UInt64)) : gset (gset M i r) i r2 = gset M i r2 := by
  funext k
  unfold gset
  by_cases h : k = i <;> simp [h]
theorem gset_self (M : (Nat → Nat → UInt64)) (i : Nat) : gset M i (M i) = M := by
  funext k
  unfold gset
  by_cases h : k = i
  · subst h; simp
  · simp [h]
/-! Hoare triples of the printed functions -/
def Ok {α : Type} (o : Option α) (Q : α → Prop) : Prop := ∃ v, o = some v ∧ Q v
theorem Ok.mk {α : Type} {v : α} {Q : α → Prop} (h : Q v) : Ok (some v) Q := ⟨v, rfl, h⟩
theorem Ok.of {α : Type} {o : Option α} {v : α} {Q : α → Prop} (e : o = some v) (h : Q v) : Ok o Q := ⟨v, e, h⟩
theorem Ok.bind {α β : Type} {o : Option α} {f : α → Option β} {P : α → Prop} {Q : β → Prop} (h : Ok o P) (g : ∀ v, P v → Ok (f v) Q) : Ok (o.bind f) Q := by
  obtain ⟨v, rfl, hv⟩ := h
  exact g v hv
theorem Ok.imp {α : Type} {o : Option α} {P Q : α → Prop} (h : Ok o P) (g : ∀ v, P v → Q v) : Ok o Q := by
  obtain ⟨v, e, hv⟩ := h
  exact ⟨v, e, g v hv⟩
theorem Ok.gd {α : Type} {b : Bool} {o : Option α} {Q : α → Prop} (hb : b = true) (h : Ok o Q) : Ok (gd b o) Q := by
  rw [gd_eq hb]
  exact h
theorem Ok.eq {α : Type} {o : Option α} {v : α} (h : Ok o (fun w => w = v)) : o = some v := by
  obtain ⟨w, e, rfl⟩ := h
  exact e
/-- a loop with an invariant; it may leave at any turn -/
theorem Ok.loop {σ ε : Type} {body : σ → Option (σ ⊕ ε)} {Q : ε → Prop} (I : Nat → σ → Prop) (n : Nat) (step : ∀ k st, k ≤ n → I k st → Ok (body st) (fun r => Sum.elim (fun st' => k < n ∧ I (k + 1) st') Q r)) : ∀ (d k fuel : Nat) (st : σ), k + d = n → d < fuel → I k st → Ok (loopO body fuel st) Q := by
  intro d
  induction d with
  | zero =>
    intro k fuel st hk hf hI
    obtain ⟨m, rfl⟩ : ∃ m, fuel = m + 1 := ⟨fuel - 1, by omega⟩
    obtain ⟨r, e, hr⟩ := step k st (by omega) hI
    unfold loopO
    rw [e]
    cases r with
    | inl st' => exact absurd hr.1 (by omega)
    | inr e' => exact ⟨e', rfl, hr⟩
  | succ d ih =>
    intro k fuel st hk hf hI
    obtain ⟨m, rfl⟩ : ∃ m, fuel = m + 1 := ⟨fuel - 1, by omega⟩
    obtain ⟨r, e, hr⟩ := step k st (by omega) hI
    unfold loopO
    rw [e]
    cases r with
    | inl st' => exact ih (k + 1) m st' (by omega) (by omega) hr.2
    | inr e' => exact ⟨e', rfl, hr⟩
theorem Ok.for {σ ε : Type} {body : σ → Option (σ ⊕ ε)} {Q : ε → Prop} {st0 : σ} {fuel : Nat} (I : Nat → σ → Prop) (n : Nat) (hf : n < fuel) (h0 : I 0 st0) (step : ∀ k st, k < n → I k st → Ok (body st) (fun r => Sum.elim (fun st' => I (k + 1) st') Q r)) (last : ∀ st, I n st → Ok (body st) (fun r => Sum.elim (fun _ => False) Q r)) : Ok (loopO body fuel st0) Q := by
  refine Ok.loop I n (fun k st hk hI => ?_) n 0 fuel st0 (by omega) hf h0
  by_cases h : k < n
  · refine (step k st h hI).imp fun r hr => ?_
    cases r with
    | inl s => exact ⟨h, hr⟩
    | inr e => exact hr
  · have hk' : k = n := by omega
    subst hk'
    refine (last st hI).imp fun r hr => ?_
    cases r with
    | inl s => exact hr.elim
    | inr e => exact hr
/-! Problem, Point, Scales -/
def okS (f : (Nat → UInt64)) (n : Nat) (z : UInt64) : Prop := (∀ k, k < n → isn (f k) = true) ∧ ∀ k, k < n → isn (subR f (k + 1) z) = true
def okA (f : (Nat → UInt64)) (n : Nat) (z : UInt64) : Prop := (∀ k, k < n → isn (f k) = true) ∧ ∀ k, k < n → isn (sumR f (k + 1) z) = true
theorem e_lessRow2 {N n i : Nat} {A : (Nat → Nat → UInt64)} {x : (Nat → UInt64)} {z : UInt64} (R : Int32) (hN : n ≤ N) (hn : n ≤ 8) (hNN : N ≤ 300) (hi : i < 5) (h : okS (fun j => FP.dmul (A i j) (x j)) n z) : s_Pb_lessRow N R (nI n) A x z (nI i) = some (subR (fun j => FP.dmul (A i j) (x j)) n z) :=
  e_lessRow hN hn hNN hi h.1 h.2 _
theorem e_plusRow {N n i : Nat} {A : (Nat → Nat → UInt64)} {x : (Nat → UInt64)} {z : UInt64} (R : Int32) (hN : n ≤ N) (hn : n ≤ 8) (hNN : N ≤ 300) (hi : i < 5) (h : okA (fun j => FP.dmul (A i j) (x j)) n z) : s_Pb_plusRow N R (nI n) A x z (nI i) = some (sumR (fun j => FP.dmul (A i j) (x j)) n z) := by
  unfold s_Pb_plusRow s_Pb_plusRow_L6
  refine loop_b n (fun k => (sumR (fun j => FP.dmul (A i j) (x j)) k z, nI k)) _ rfl (by omega) (fun k hk => ?_) ?_ rfl
  · have h1 := h.1 k hk
    have h2 := h.2 k hk
    simp (disch := omega) only [↓ite_le_t, ↓ite_le_f, ↓ite_lt_t, ↓ite_lt_f, li5, li8, nI_leI, nI_ltI, nI_eqI, if_pos, if_neg, ↓reduceIte, inb_nI, gd_t, nI_clamp, Option.bind_some, nI_1, isb_0, isb_1, s_Pb_plusRow_B6, h1, ← sumR_s, h2]
  · simp (disch := omega) only [↓ite_le_t, ↓ite_le_f, ↓ite_lt_t, ↓ite_lt_f, li5, li8, nI_leI, nI_ltI, nI_eqI, if_pos, if_neg, ↓reduceIte, inb_nI, gd_t, nI_clamp, Option.bind_some, nI_1, isb_0, isb_1, s_Pb_plusRow_B6]
theorem e_lessColumn {N m j : Nat} {A : (Nat → Nat → UInt64)} {x : (Nat → UInt64)} {z : UInt64} (V : Int32) (hN : m ≤ N) (hm : m ≤ 5) (hNN : N ≤ 300) (hj : j < 8) (h : okS (fun i => FP.dmul (A i j) (x i)) m z) : s_Pb_lessColumn N (nI m) V A x z (nI j) = some (subR (fun i => FP.dmul (A i j) (x i)) m z) := by
  unfold s_Pb_lessColumn s_Pb_lessColumn_L6
  refine loop_b m (fun k => (subR (fun i => FP.dmul (A i j) (x i)) k z, nI k)) _ rfl (by omega) (fun k hk => ?_) ?_ rfl
  · have h1 := h.1 k hk
    have h2 := h.2 k hk
    simp (disch := omega) only [↓ite_le_t, ↓ite_le_f, ↓ite_lt_t, ↓ite_lt_f, li5, li8, nI_leI, nI_ltI, nI_eqI, if_pos, if_neg, ↓reduceIte, inb_nI, gd_t, nI_clamp, Option.bind_some, nI_1, isb_0, isb_1, s_Pb_lessColumn_B6, h1, ← subR_s, h2]
  · simp (disch := omega) only [↓ite_le_t, ↓ite_le_f, ↓ite_lt_t, ↓ite_lt_f, li5, li8, nI_leI, nI_ltI, nI_eqI, if_pos, if_neg, ↓reduceIte, inb_nI, gd_t, nI_clamp, Option.bind_some, nI_1, isb_0, isb_1, s_Pb_lessColumn_B6]
theorem e_plusColumn {N m j : Nat} {A : (Nat → Nat → UInt64)} {x : (Nat → UInt64)} {z : UInt64} (V : Int32) (hN : m ≤ N) (hm : m ≤ 5) (hNN : N ≤ 300) (hj : j < 8) (h : okA (fun i => FP.dmul (A i j) (x i)) m z) : s_Pb_plusColumn N (nI m) V A x z (nI j) = some (sumR (fun i => FP.dmul (A i j) (x i)) m z) := by
  unfold s_Pb_plusColumn s_Pb_plusColumn_L6
  refine loop_b m (fun k => (sumR (fun i => FP.dmul (A i j) (x i)) k z, nI k)) _ rfl (by omega) (fun k hk => ?_) ?_ rfl
  · have h1 := h.1 k hk
    have h2 := h.2 k hk
    simp (disch := omega) only [↓ite_le_t, ↓ite_le_f, ↓ite_lt_t, ↓ite_lt_f, li5, li8, nI_leI, nI_ltI, nI_eqI, if_pos, if_neg, ↓reduceIte, inb_nI, gd_t, nI_clamp, Option.bind_some, nI_1, isb_0, isb_1, s_Pb_plusColumn_B6, h1, ← sumR_s, h2]
  · simp (disch := omega) only [↓ite_le_t, ↓ite_le_f, ↓ite_lt_t, ↓ite_lt_f, li5, li8, nI_leI, nI_ltI, nI_eqI, if_pos, if_neg, ↓reduceIte, inb_nI, gd_t, nI_clamp, Option.bind_some, nI_1, isb_0, isb_1, s_Pb_plusColumn_B6]
theorem e_product {N1 N2 n : Nat} {v w : (Nat → UInt64)} (h1 : n ≤ N1) (h2 : n ≤ N2) (hN1 : N1 ≤ 300) (hN2 : N2 ≤ 300) (h : okA (fun k => FP.dmul (v k) (w k)) n FP.dconst0) : s_Pb_product N1 N2 v w (nI n) = some (sumR (fun k => FP.dmul (v k) (w k)) n FP.dconst0) := by
  unfold s_Pb_product s_Pb_product_L5
  refine loop_b n (fun k => (sumR (fun k => FP.dmul (v k) (w k)) k FP.dconst0, nI k)) _ rfl (by omega) (fun k hk => ?_) ?_ rfl
  · have g1 := h.1 k hk
    have g2 := h.2 k hk
    simp (disch := omega) only [↓ite_le_t, ↓ite_le_f, ↓ite_lt_t, ↓ite_lt_f, li5, li8, nI_leI, nI_ltI, nI_eqI, if_pos, if_neg, ↓reduceIte, inb_nI, gd_t, nI_clamp, Option.bind_some, nI_1, isb_0, isb_1, s_Pb_product_B5, g1, ← sumR_s, g2]
  · simp (disch := omega) only [↓ite_le_t, ↓ite_le_f, ↓ite_lt_t, ↓ite_lt_f, li5, li8, nI_leI, nI_ltI, nI_eqI, if_pos, if_neg, ↓reduceIte, inb_nI, gd_t, nI_clamp, Option.bind_some, nI_1, isb_0, isb_1, s_Pb_product_B5]
theorem e_costOf {N n : Nat} {c x : (Nat → UInt64)} (R : Int32) (hn : n ≤ 8) (hN : n ≤ N) (hNN : N ≤ 300) (h : okA (fun k => FP.dmul (c k) (x k)) n FP.dconst0) : s_Pb_costOf N R (nI n) c x = some (sumR (fun k => FP.dmul (c k) (x k)) n FP.dconst0) := by
  unfold s_Pb_costOf
  rw [e_product hn hN (by omega) hNN h]
  rfl
theorem e_worthOf {N m : Nat} {b y : (Nat → UInt64)} (V : Int32) (hm : m ≤ 5) (hN : m ≤ N) (hNN : N ≤ 300) (h : okA (fun k => FP.dmul (b k) (y k)) m FP.dconst0) : s_Pb_worthOf N (nI m) V b y = some (sumR (fun k => FP.dmul (b k) (y k)) m FP.dconst0) := by
  unfold s_Pb_worthOf
  rw [e_product hm hN (by omega) hNN h]
  rfl
theorem e_complementarity {n : Nat} {x s : (Nat → UInt64)} (hn : n ≤ 8) (h : okA (fun k => FP.dmul (x k) (s k)) n FP.dconst0) : s_Pt_complementarity x s (nI n) = some (sumR (fun k => FP.dmul (x k) (s k)) n FP.dconst0) := by
  unfold s_Pt_complementarity
  rw [e_product hn hn (by omega) (by omega) h]
  rfl
theorem e_clear (R V : Int32) (a : (Nat → Nat → UInt64)) (b c : (Nat → UInt64)) (m n : Int32) : s_Pb_clear R V a b c m n = some (m, n, wr 5 (fun i => wr 8 (fun _ => FP.dconst0) (a i)) a, wr 5 (fun _ => FP.dconst0) b, wr 8 (fun _ => FP.dconst0) c) := by
  unfold s_Pb_clear s_Pb_clear_L12
  refine loop_b 5 (fun k => (wr k (fun i => wr 8 (fun _ => FP.dconst0) (a i)) a, nI k)) (wr 5 (fun i => wr 8 (fun _ => FP.dconst0) (a i)) a) (by rw [wr_0]; rfl) (by omega) (fun k hk => ?_) ?_ ?_
  rotate_left
  · simp (disch := omega) only [↓ite_le_t, ↓ite_le_f, ↓ite_lt_t, ↓ite_lt_f, li5, li8, nI_leI, nI_ltI, nI_eqI, if_pos, if_neg, ↓reduceIte, inb_nI, gd_t, nI_clamp, Option.bind_some, nI_1, isb_0, isb_1, s_Pb_clear_B12]
  · rw [e_fill 5 (by omega), e_fill 8 (by omega)]
    rfl
  · simp (disch := omega) only [↓ite_le_t, ↓ite_le_f, ↓ite_lt_t, ↓ite_lt_f, li5, li8, nI_leI, nI_ltI, nI_eqI, if_pos, if_neg, ↓reduceIte, inb_nI, gd_t, nI_clamp, Option.bind_some, nI_1, isb_0, isb_1, s_Pb_clear_B12, wr_out, e_fill, wrg_s (F := fun i => wr 8 (fun _ => FP.dconst0) (a i))]
theorem cpy_wr (N : Nat) (f g : (Nat → UInt64)) : va_cpy f g 0 0 N = wr N f g := by
  funext k
  simp [va_cpy, wr]
theorem e_copy (R V : Int32) (a : (Nat → Nat → UInt64)) (b c : (Nat → UInt64)) (m n : Int32) (a1 : (Nat → Nat → UInt64)) (b1 c1 : (Nat → UInt64)) : s_Pb_copy R V a b c m n a1 b1 c1 = some (m, n, wr 5 (fun i => wr 8 (a1 i) (a i)) a, wr 5 b1 b, wr 8 c1 c) := by
  unfold s_Pb_copy s_Pb_copy_L18
  refine loop_b 5 (fun k => (wr k (fun i => wr 8 (a1 i) (a i)) a, nI k)) (wr 5 (fun i => wr 8 (a1 i) (a i)) a) (by rw [wr_0]; rfl) (by omega) (fun k hk => ?_) ?_ ?_
  rotate_left
  · simp (disch := omega) only [↓ite_le_t, ↓ite_le_f, ↓ite_lt_t, ↓ite_lt_f, li5, li8, nI_leI, nI_ltI, nI_eqI, if_pos, if_neg, ↓reduceIte, inb_nI, gd_t, nI_clamp, Option.bind_some, nI_1, isb_0, isb_1, s_Pb_copy_B18]
  · rw [show (0 : Int32).toNatClampNeg = 0 from rfl, show (5 : Int32).toNatClampNeg = 5 from rfl, show (8 : Int32).toNatClampNeg = 8 from rfl, cpy_wr, cpy_wr]
  · simp (disch := omega) only [↓ite_le_t, ↓ite_le_f, ↓ite_lt_t, ↓ite_lt_f, li5, li8, nI_leI, nI_ltI, nI_eqI, if_pos, if_neg, ↓reduceIte, inb_nI, gd_t, nI_clamp, Option.bind_some, nI_1, isb_0, isb_1, s_Pb_copy_B18, wr_out, show (0 : Int32).toNatClampNeg = 0 from rfl, cpy_wr, wrg_s (F := fun i => wr 8 (a1 i) (a i))]
theorem e_ptfill (x s y : (Nat → UInt64)) (u v : UInt64) : s_Pt_fill x s y u v = some (wr 8 (fun _ => u) x, wr 8 (fun _ => u) s, wr 5 (fun _ => v) y) := by
  unfold s_Pt_fill
  rw [e_fill 8 (by omega), e_fill 8 (by omega), e_fill 5 (by omega)]
  rfl
theorem nn_fd_max {f : (Nat → UInt64)} {n : Nat} {z : UInt64} (hz : nnan z) (h : ∀ k, k < n → nnan (f k)) : nnan (mxR f n z) := by
  induction n with
  | zero => exact hz
  | succ n ih => exact nn_max (ih (fun k hk => h k (by omega))) (nn_abs (h n (by omega)))
theorem mxR_s (f : (Nat → UInt64)) (n : Nat) (z : UInt64) : mxR f (n + 1) z = dmax (mxR f n z) (dabs (f n)) := rfl
theorem e_greatestOf {N n : Nat} {v : (Nat → UInt64)} (hn : n ≤ N) (hN : N ≤ 300) (h : ∀ k, k < n → nnan (v k)) : s_C_greatestOf N v (nI n) = some (mxR v n FP.dconst0) := by
  unfold s_C_greatestOf s_C_greatestOf_L5
  refine loop_b n (fun k => (mxR v k FP.dconst0, nI k)) _ rfl (by omega) (fun k hk => ?_) ?_ rfl
  · have h1 := e_greater (nn_fd_max (n := k) nn_0 (fun j hj => h j (by omega))) (nn_abs (h k hk))
    simp (disch := omega) only [↓ite_le_t, ↓ite_le_f, ↓ite_lt_t, ↓ite_lt_f, li5, li8, nI_leI, nI_ltI, nI_eqI, if_pos, if_neg, ↓reduceIte, inb_nI, gd_t, nI_clamp, Option.bind_some, nI_1, isb_0, isb_1, s_C_greatestOf_B5, e_absolute (h k hk), h1, ← mxR_s]
  · simp (disch := omega) only [↓ite_le_t, ↓ite_le_f, ↓ite_lt_t, ↓ite_lt_f, li5, li8, nI_leI, nI_ltI, nI_eqI, if_pos, if_neg, ↓reduceIte, inb_nI, gd_t, nI_clamp, Option.bind_some, nI_1, isb_0, isb_1, s_C_greatestOf_B5]
def dpR (x s : (Nat → UInt64)) (n : Nat) (z : UInt64) : UInt64 := fd (fun k a => dmax (dmax a (FP.dneg (x k))) (FP.dneg (s k))) n z
theorem nn_dpR {x s : (Nat → UInt64)} {n : Nat} (hx : ∀ k, k < n → nnan (x k)) (hs : ∀ k, k < n → nnan (s k)) : ∀ k, k ≤ n → nnan (dpR x s k FP.dconst0) := by
  intro k
  induction k with
  | zero => intro _; exact nn_0
  | succ k ih => intro hk; exact nn_max (nn_max (ih (by omega)) (nn_neg.mpr (hx k (by omega)))) (nn_neg.mpr (hs k (by omega)))
theorem e_deepest {n : Nat} {x s : (Nat → UInt64)} (hn : n ≤ 8) (hx : ∀ k, k < n → nnan (x k)) (hs : ∀ k, k < n → nnan (s k)) : s_Pt_deepest x s (nI n) = some (dpR x s n FP.dconst0) := by
  have hnn := nn_dpR hx hs
  unfold s_Pt_deepest s_Pt_deepest_L5
  refine loop_b n (fun k => (dpR x s k FP.dconst0, nI k)) _ rfl (by omega) (fun k hk => ?_) ?_ rfl
  · simp (disch := omega) only [↓ite_le_t, ↓ite_le_f, ↓ite_lt_t, ↓ite_lt_f, li5, li8, nI_leI, nI_ltI, nI_eqI, if_pos, if_neg, ↓reduceIte, inb_nI, gd_t, nI_clamp, Option.bind_some, nI_1, isb_0, isb_1, s_Pt_deepest_B5, e_greater (hnn k (by omega)) (nn_neg.mpr (hx k hk)), e_greater (nn_max (hnn k (by omega)) (nn_neg.mpr (hx k hk))) (nn_neg.mpr (hs k hk))]
    rfl
  · simp (disch := omega) only [↓ite_le_t, ↓ite_le_f, ↓ite_lt_t, ↓ite_lt_f, li5, li8, nI_leI, nI_ltI, nI_eqI, if_pos, if_neg, ↓reduceIte, inb_nI, gd_t, nI_clamp, Option.bind_some, nI_1, isb_0, isb_1, s_Pt_deepest_B5]
/-- applying the scales -/
theorem e_apply {m n : Nat} {r v : (Nat → UInt64)} {a : (Nat → Nat → UInt64)} {b c : (Nat → UInt64)} {R2 V2 : Int32} {a2 : (Nat → Nat → UInt64)} {b2 c2 : (Nat → UInt64)} (hm : m ≤ 5) (hn : n ≤ 8)
    (h1 : ∀ i, i < m → ∀ j, j < n → isn (FP.dmul (r i) (a i j)) = true) (h2 : ∀ i, i < m → ∀ j, j < n → isn (FP.dmul (FP.dmul (r i) (a i j)) (v j)) = true) (h3 : ∀ i, i < m → isn (FP.dmul (r i) (b i)) = true) (h4 : ∀ j, j < n → isn (FP.dmul (c j) (v j)) = true) :
    s_Sc_apply r v (nI m) (nI n) a b c R2 V2 a2 b2 c2 = some (nI m, nI n, wr m (fun i => wr n (fun j => FP.dmul (FP.dmul (r i) (a i j)) (v j)) ((wr 5 (fun i => wr 8 (fun _ => FP.dconst0) (a2 i)) a2) i)) (wr 5 (fun i => wr 8 (fun _ => FP.dconst0) (a2 i)) a2), wr m (fun i => FP.dmul (r i) (b i)) (wr 5 (fun _ => FP.dconst0) b2), wr n (fun j => FP.dmul (c j) (v j)) (wr 8 (fun _ => FP.dconst0) c2)) := by
  unfold s_Sc_apply
  rw [e_clear]
  generalize wr 5 (fun i => wr 8 (fun _ => FP.dconst0) (a2 i)) a2 = a3
  generalize wr 5 (fun _ => FP.dconst0) b2 = b3
  generalize wr 8 (fun _ => FP.dconst0) c2 = c3
  simp only [Option.bind_some]
  unfold s_Sc_apply_L14
  refine loop_b m (fun k => (wr k (fun i => wr n (fun j => FP.dmul (FP.dmul (r i) (a i j)) (v j)) (a3 i)) a3, wr k (fun i => FP.dmul (r i) (b i)) b3, nI k)) (wr m (fun i => wr n (fun j => FP.dmul (FP.dmul (r i) (a i j)) (v j)) (a3 i)) a3, wr m (fun i => FP.dmul (r i) (b i)) b3) (by rw [wr_0, wr_0]; rfl) (by omega) (fun i hi => ?_) ?_ ?_
  · have hM : wr i (fun i => wr n (fun j => FP.dmul (FP.dmul (r i) (a i j)) (v j)) (a3 i)) a3 i = a3 i := wr_out (by omega)
    have hg : gset (wr i (fun i => wr n (fun j => FP.dmul (FP.dmul (r i) (a i j)) (v j)) (a3 i)) a3) i (a3 i) = wr i (fun i => wr n (fun j => FP.dmul (FP.dmul (r i) (a i j)) (v j)) (a3 i)) a3 := by
      conv => lhs; rw [← hM]
      exact gset_self _ _
    simp (disch := omega) only [↓ite_le_t, ↓ite_le_f, ↓ite_lt_t, ↓ite_lt_f, li5, li8, nI_leI, nI_ltI, nI_eqI, if_pos, if_neg, ↓reduceIte, inb_nI, gd_t, nI_clamp, Option.bind_some, nI_1, isb_0, isb_1, s_Sc_apply_B14]
    unfold s_Sc_apply_L25
    refine loop_b n (fun j => (gset (wr i (fun i => wr n (fun j => FP.dmul (FP.dmul (r i) (a i j)) (v j)) (a3 i)) a3) i (wr j (fun j => FP.dmul (FP.dmul (r i) (a i j)) (v j)) (a3 i)), nI j)) (gset (wr i (fun i => wr n (fun j => FP.dmul (FP.dmul (r i) (a i j)) (v j)) (a3 i)) a3) i (wr n (fun j => FP.dmul (FP.dmul (r i) (a i j)) (v j)) (a3 i))) ?_ (by omega) (fun j hj => ?_) ?_ ?_
    · rw [wr_0, hg]
      rfl
    · have g1 := h1 i hi j hj
      have g2 := h2 i hi j hj
      simp (disch := omega) only [↓ite_le_t, ↓ite_le_f, ↓ite_lt_t, ↓ite_lt_f, li5, li8, nI_leI, nI_ltI, nI_eqI, if_pos, if_neg, ↓reduceIte, inb_nI, gd_t, nI_clamp, Option.bind_some, nI_1, isb_0, isb_1, s_Sc_apply_B25, g1, g2, gset_at, gset_gset, wr_s (F := fun j => FP.dmul (FP.dmul (r i) (a i j)) (v j))]
    · simp (disch := omega) only [↓ite_le_t, ↓ite_le_f, ↓ite_lt_t, ↓ite_lt_f, li5, li8, nI_leI, nI_ltI, nI_eqI, if_pos, if_neg, ↓reduceIte, inb_nI, gd_t, nI_clamp, Option.bind_some, nI_1, isb_0, isb_1, s_Sc_apply_B25]
    · have g3 := h3 i hi
      simp (disch := omega) only [↓ite_le_t, ↓ite_le_f, ↓ite_lt_t, ↓ite_lt_f, li5, li8, nI_leI, nI_ltI, nI_eqI, if_pos, if_neg, ↓reduceIte, inb_nI, gd_t, nI_clamp, Option.bind_some, nI_1, isb_0, isb_1, g3, wr_s (F := fun i => FP.dmul (r i) (b i)), wrg_s (F := fun i => wr n (fun j => FP.dmul (FP.dmul (r i) (a i j)) (v j)) (a3 i))]
  · simp (disch := omega) only [↓ite_le_t, ↓ite_le_f, ↓ite_lt_t, ↓ite_lt_f, li5, li8, nI_leI, nI_ltI, nI_eqI, if_pos, if_neg, ↓reduceIte, inb_nI, gd_t, nI_clamp, Option.bind_some, nI_1, isb_0, isb_1, s_Sc_apply_B14]
  · unfold s_Sc_apply_L100
    refine loop_b n (fun j => (wr j (fun j => FP.dmul (c j) (v j)) c3, nI j)) (wr n (fun j => FP.dmul (c j) (v j)) c3) (by rw [wr_0]; rfl) (by omega) (fun j hj => ?_) ?_ rfl
    · have g4 := h4 j hj
      simp (disch := omega) only [↓ite_le_t, ↓ite_le_f, ↓ite_lt_t, ↓ite_lt_f, li5, li8, nI_leI, nI_ltI, nI_eqI, if_pos, if_neg, ↓reduceIte, inb_nI, gd_t, nI_clamp, Option.bind_some, nI_1, isb_0, isb_1, s_Sc_apply_B100, g4, wr_s (F := fun j => FP.dmul (c j) (v j))]
    · simp (disch := omega) only [↓ite_le_t, ↓ite_le_f, ↓ite_lt_t, ↓ite_lt_f, li5, li8, nI_leI, nI_ltI, nI_eqI, if_pos, if_neg, ↓reduceIte, inb_nI, gd_t, nI_clamp, Option.bind_some, nI_1, isb_0, isb_1, s_Sc_apply_B100]
theorem e_unscale {r v x s y x2 s2 y2 : (Nat → UInt64)} (h1 : ∀ j, j < 8 → isn (FP.dmul (v j) (x j)) = true) (h2 : ∀ j, j < 8 → isn (FP.ddiv (s j) (v j)) = true) (h3 : ∀ i, i < 5 → isn (FP.dmul (r i) (y i)) = true) :
    s_Sc_unscale r v x s y x2 s2 y2 = some (wr 8 (fun j => FP.dmul (v j) (x j)) x2, wr 8 (fun j => FP.ddiv (s j) (v j)) s2, wr 5 (fun i => FP.dmul (r i) (y i)) y2) := by
  unfold s_Sc_unscale s_Sc_unscale_L2
  refine loop_b 8 (fun j => (wr j (fun j => FP.dmul (v j) (x j)) x2, wr j (fun j => FP.ddiv (s j) (v j)) s2, nI j)) (wr 8 (fun j => FP.dmul (v j) (x j)) x2, wr 8 (fun j => FP.ddiv (s j) (v j)) s2) (by rw [wr_0, wr_0]; rfl) (by omega) (fun j hj => ?_) ?_ ?_
  · have g1 := h1 j hj
    have g2 := h2 j hj
    simp (disch := omega) only [↓ite_le_t, ↓ite_le_f, ↓ite_lt_t, ↓ite_lt_f, li5, li8, nI_leI, nI_ltI, nI_eqI, if_pos, if_neg, ↓reduceIte, inb_nI, gd_t, nI_clamp, Option.bind_some, nI_1, isb_0, isb_1, s_Sc_unscale_B2, g1, g2, wr_s (F := fun j => FP.dmul (v j) (x j)), wr_s (F := fun j => FP.ddiv (s j) (v j))]
  · simp (disch := omega) only [↓ite_le_t, ↓ite_le_f, ↓ite_lt_t, ↓ite_lt_f, li5, li8, nI_leI, nI_ltI, nI_eqI, if_pos, if_neg, ↓reduceIte, inb_nI, gd_t, nI_clamp, Option.bind_some, nI_1, isb_0, isb_1, s_Sc_unscale_B2]
  · unfold s_Sc_unscale_L54
    refine loop_b 5 (fun i => (wr i (fun i => FP.dmul (r i) (y i)) y2, nI i)) (wr 5 (fun i => FP.dmul (r i) (y i)) y2) (by rw [wr_0]; rfl) (by omega) (fun i hi => ?_) ?_ rfl
    · have g3 := h3 i hi
      simp (disch := omega) only [↓ite_le_t, ↓ite_le_f, ↓ite_lt_t, ↓ite_lt_f, li5, li8, nI_leI, nI_ltI, nI_eqI, if_pos, if_neg, ↓reduceIte, inb_nI, gd_t, nI_clamp, Option.bind_some, nI_1, isb_0, isb_1, s_Sc_unscale_B54, g3, wr_s (F := fun i => FP.dmul (r i) (y i))]
    · simp (disch := omega) only [↓ite_le_t, ↓ite_le_f, ↓ite_lt_t, ↓ite_lt_f, li5, li8, nI_leI, nI_ltI, nI_eqI, if_pos, if_neg, ↓reduceIte, inb_nI, gd_t, nI_clamp, Option.bind_some, nI_1, isb_0, isb_1, s_Sc_unscale_B54]
