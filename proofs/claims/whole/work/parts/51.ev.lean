/-! the printed functions, evaluated: combinators -/
theorem cv_spec {a b : UInt64} {op : CmpOp} (ha : nnan a) (hb : nnan b) : (zv a < zv b ∧ Op.cmpValue (FP.dcmp a b) op = -1) ∨ (zv a = zv b ∧ Op.cmpValue (FP.dcmp a b) op = 0) ∨ (zv b < zv a ∧ Op.cmpValue (FP.dcmp a b) op = 1) := by
  have h : FP.dcmp a b = some (compare (zv a) (zv b)) := FP.Core.dcmp_zval ha hb
  rw [h]
  rcases Int.lt_trichotomy (zv a) (zv b) with h1 | h1 | h1
  · exact Or.inl ⟨h1, by rw [(FP.Core.compare_lt_iff _ _).mpr h1]; rfl⟩
  · exact Or.inr (Or.inl ⟨h1, by rw [(FP.Core.compare_eq_iff _ _).mpr h1]; rfl⟩)
  · exact Or.inr (Or.inr ⟨h1, by rw [(FP.Core.compare_gt_iff _ _).mpr h1]; rfl⟩)
theorem cv_lt {a b : UInt64} {op : CmpOp} (ha : nnan a) (hb : nnan b) : Op.cmpValue (FP.dcmp a b) op < 0 ↔ zv a < zv b := by
  rcases cv_spec (op := op) ha hb with ⟨h1, h2⟩ | ⟨h1, h2⟩ | ⟨h1, h2⟩ <;> rw [h2]
  · exact ⟨fun _ => h1, fun _ => by decide⟩
  · exact ⟨fun h => absurd h (by decide), fun h => by omega⟩
  · exact ⟨fun h => absurd h (by decide), fun h => by omega⟩
theorem cv_le {a b : UInt64} {op : CmpOp} (ha : nnan a) (hb : nnan b) : Op.cmpValue (FP.dcmp a b) op ≤ 0 ↔ zv a ≤ zv b := by
  rcases cv_spec (op := op) ha hb with ⟨h1, h2⟩ | ⟨h1, h2⟩ | ⟨h1, h2⟩ <;> rw [h2]
  · exact ⟨fun _ => by omega, fun _ => by decide⟩
  · exact ⟨fun _ => by omega, fun _ => by decide⟩
  · exact ⟨fun h => absurd h (by decide), fun h => by omega⟩
theorem cv_gt {a b : UInt64} {op : CmpOp} (ha : nnan a) (hb : nnan b) : 0 < Op.cmpValue (FP.dcmp a b) op ↔ zv b < zv a := by
  rcases cv_spec (op := op) ha hb with ⟨h1, h2⟩ | ⟨h1, h2⟩ | ⟨h1, h2⟩ <;> rw [h2]
  · exact ⟨fun h => absurd h (by decide), fun h => by omega⟩
  · exact ⟨fun h => absurd h (by decide), fun h => by omega⟩
  · exact ⟨fun _ => h1, fun _ => by decide⟩
theorem cv_ge {a b : UInt64} {op : CmpOp} (ha : nnan a) (hb : nnan b) : 0 ≤ Op.cmpValue (FP.dcmp a b) op ↔ zv b ≤ zv a := by
  rcases cv_spec (op := op) ha hb with ⟨h1, h2⟩ | ⟨h1, h2⟩ | ⟨h1, h2⟩ <;> rw [h2]
  · exact ⟨fun h => absurd h (by decide), fun h => by omega⟩
  · exact ⟨fun _ => by omega, fun _ => by decide⟩
  · exact ⟨fun _ => by omega, fun _ => by decide⟩
theorem cv_eq {a b : UInt64} {op : CmpOp} (ha : nnan a) (hb : nnan b) : Op.cmpValue (FP.dcmp a b) op = 0 ↔ zv a = zv b := by
  rcases cv_spec (op := op) ha hb with ⟨h1, h2⟩ | ⟨h1, h2⟩ | ⟨h1, h2⟩ <;> rw [h2]
  · exact ⟨fun h => absurd h (by decide), fun h => by omega⟩
  · exact ⟨fun _ => h1, fun _ => rfl⟩
  · exact ⟨fun h => absurd h (by decide), fun h => by omega⟩
theorem gd_t {α : Type} (x : Option α) : gd true x = x := rfl
theorem inb_nI {k N : Nat} (h : k < N) (hN : N < 2 ^ 31) : inb (nI k) N = true := decide_eq_true (nI_in h hN)
def fd {α : Type} (f : Nat → α → α) : Nat → α → α
  | 0, s => s
  | n + 1, s => f n (fd f n s)
def sumR (f : Nat → UInt64) (n : Nat) (z : UInt64) : UInt64 := fd (fun k a => FP.dadd a (f k)) n z
def subR (f : Nat → UInt64) (n : Nat) (z : UInt64) : UInt64 := fd (fun k a => FP.dsub a (f k)) n z
theorem sumR_s (f : Nat → UInt64) (n : Nat) (z : UInt64) : sumR f (n + 1) z = FP.dadd (sumR f n z) (f n) := rfl
theorem subR_s (f : Nat → UInt64) (n : Nat) (z : UInt64) : subR f (n + 1) z = FP.dsub (subR f n z) (f n) := rfl
theorem fd_congr {α : Type} {f g : Nat → α → α} {s : α} : ∀ {n : Nat}, (∀ k, k < n → ∀ a, f k a = g k a) → fd f n s = fd g n s := by
  intro n
  induction n with
  | zero => intro _; rfl
  | succ n ih =>
    intro h
    show f n (fd f n s) = g n (fd g n s)
    rw [ih (fun k hk => h k (by omega)), h n (by omega)]
theorem sumR_congr {f g : Nat → UInt64} {n : Nat} {z : UInt64} (h : ∀ k, k < n → f k = g k) : sumR f n z = sumR g n z := fd_congr (fun k hk a => by rw [h k hk])
theorem subR_congr {f g : Nat → UInt64} {n : Nat} {z : UInt64} (h : ∀ k, k < n → f k = g k) : subR f n z = subR g n z := fd_congr (fun k hk a => by rw [h k hk])
def wr {α : Type} (n : Nat) (F g : Nat → α) : Nat → α := fun k => if k < n then F k else g k
theorem wr_0 {α : Type} (F g : Nat → α) : wr 0 F g = g := by
  funext k
  simp [wr]
theorem wr_s {α : Type} (n : Nat) (F g : Nat → α) : vf_upd (wr n F g) n (F n) = wr (n + 1) F g := by
  funext k
  unfold vf_upd wr
  by_cases h : k = n
  · subst h; simp
  · by_cases h2 : k < n
    · simp [h, h2, Nat.lt_succ_of_lt h2]
    · simp [h, h2, show ¬ k < n + 1 by omega]
theorem wr_in {α : Type} {n k : Nat} {F g : Nat → α} (h : k < n) : wr n F g k = F k := if_pos h
theorem wr_out {α : Type} {n k : Nat} {F g : Nat → α} (h : ¬ k < n) : wr n F g k = g k := if_neg h
theorem wrg_s (n : Nat) (F g : Nat → Nat → UInt64) : gset (wr n F g) n (F n) = wr (n + 1) F g := by
  funext k
  unfold gset wr
  by_cases h : k = n
  · subst h; simp
  · by_cases h2 : k < n
    · simp [h, h2, Nat.lt_succ_of_lt h2]
    · simp [h, h2, show ¬ k < n + 1 by omega]
theorem for_up {σ ε : Type} {body : σ → Option (σ ⊕ ε)} {n : Nat} {f : Nat → σ} {e : ε} (hs : ∀ k, k < n → body (f k) = some (.inl (f (k + 1)))) (he : body (f n) = some (.inr e)) : ∀ (d k fuel : Nat), k + d = n → d < fuel → loopO body fuel (f k) = some e := by
  intro d
  induction d with
  | zero =>
    intro k fuel hk hf
    obtain ⟨m, rfl⟩ : ∃ m, fuel = m + 1 := ⟨fuel - 1, by omega⟩
    have : k = n := by omega
    subst this
    unfold loopO
    rw [he]
    rfl
  | succ d ih =>
    intro k fuel hk hf
    obtain ⟨m, rfl⟩ : ∃ m, fuel = m + 1 := ⟨fuel - 1, by omega⟩
    unfold loopO
    rw [hs k (by omega)]
    exact ih (k + 1) m (by omega) (by omega)
theorem loop_b {σ ε β : Type} {body : σ → Option (σ ⊕ ε)} {fuel : Nat} {s0 : σ} {g : ε → Option β} {r : Option β} (n : Nat) (f : Nat → σ) (e : ε) (h0 : f 0 = s0) (hf : n < fuel) (hs : ∀ k, k < n → body (f k) = some (.inl (f (k + 1)))) (he : body (f n) = some (.inr e)) (hr : g e = r) : (loopO body fuel s0).bind g = r := by
  rw [← h0, for_up hs he n 0 fuel (by omega) hf]
  exact hr
/-- a for loop that may leave early, at its turn j -/
theorem loop_x {σ ε β : Type} {body : σ → Option (σ ⊕ ε)} {fuel : Nat} {s0 : σ} {g : ε → Option β} {r : Option β} (j : Nat) (f : Nat → σ) (e : ε) (h0 : f 0 = s0) (hf : j < fuel) (hs : ∀ k, k < j → body (f k) = some (.inl (f (k + 1)))) (he : body (f j) = some (.inr e)) (hr : g e = r) : (loopO body fuel s0).bind g = r := loop_b j f e h0 hf hs he hr
/-! Java's own small functions -/
def dabs (v : UInt64) : UInt64 := if zv v < 0 then FP.dneg v else v
def dmax (v w : UInt64) : UInt64 := if zv v < zv w then w else v
def mxR (f : Nat → UInt64) (n : Nat) (z : UInt64) : UInt64 := fd (fun k a => dmax a (dabs (f k))) n z
theorem zv_0 : zv FP.dconst0 = 0 := by decide +kernel
theorem nn_0 : nnan FP.dconst0 := by unfold nnan; decide +kernel
theorem nn_1 : nnan FP.dconst1 := by unfold nnan; decide +kernel
theorem nn_abs {v : UInt64} (h : nnan v) : nnan (dabs v) := by
  unfold dabs
  split
  · exact nn_neg.mpr h
  · exact h
theorem nn_max {v w : UInt64} (h : nnan v) (h2 : nnan w) : nnan (dmax v w) := by
  unfold dmax
  split
  · exact h2
  · exact h
theorem zv_abs (v : UInt64) : zv (dabs v) = ((zv v).natAbs : Int) := by
  unfold dabs
  split
  · rw [zv_neg]; omega
  · omega
theorem zv_max (v w : UInt64) : zv (dmax v w) = max (zv v) (zv w) := by
  unfold dmax
  split <;> omega
theorem e_absolute {v : UInt64} (h : nnan v) : s_C_absolute v = some (dabs v) := by
  unfold s_C_absolute dabs
  simp only [cv_ge h nn_0, zv_0]
  by_cases h1 : zv v < 0
  · rw [if_neg (by omega), if_pos h1]
  · rw [if_pos (by omega), if_neg h1]
theorem e_greater {v w : UInt64} (h : nnan v) (h2 : nnan w) : s_C_greater v w = some (dmax v w) := by
  unfold s_C_greater dmax
  simp only [cv_lt h h2]
  split <;> rfl
theorem e_mabs {v : UInt64} (h : nnan v) : s_M_abs v = some (dabs v) := by
  unfold s_M_abs dabs
  simp only [cv_ge h nn_0, zv_0]
  by_cases h1 : zv v < 0
  · rw [if_neg (by omega), if_pos h1]
  · rw [if_pos (by omega), if_neg h1]
theorem e_mmax {v w : UInt64} (h : nnan v) (h2 : nnan w) : s_M_max v w = some (dmax v w) := by
  unfold s_M_max dmax
  simp only [cv_le h2 h]
  by_cases h1 : zv v < zv w
  · rw [if_neg (by omega), if_pos h1]
  · rw [if_pos (by omega), if_neg h1]
theorem e_fill (N : Nat) (hN : N ≤ 8) (q : Nat → UInt64) (v : UInt64) : s_Ar_fill N q v = some (wr N (fun _ => v) q) := by
  unfold s_Ar_fill s_Ar_fill_L6
  refine loop_b N (fun k => (wr k (fun _ => v) q, nI k)) (wr N (fun _ => v) q) (by rw [wr_0]; rfl) (by omega) (fun k hk => ?_) ?_ rfl
  · have h1 : ¬ Int32.ofNat N ≤ nI k := nI_ge hk (by omega)
    simp only [s_Ar_fill_B6, if_neg h1, inb_nI hk (by omega), gd_t, nI_clamp (show k < 2 ^ 31 by omega), wr_s (F := fun _ => v), nI_1]
  · have h1 : Int32.ofNat N ≤ nI N := nI_le (Nat.le_refl _) (by omega)
    simp only [s_Ar_fill_B6, if_pos h1]
/-! Problem -/
theorem e_lessRow {N n i : Nat} {A : Nat → Nat → UInt64} {x : Nat → UInt64} {z : UInt64} (hN : n ≤ N) (hn : n ≤ 8) (hNN : N ≤ 300) (hi : i < 5) (hm : ∀ j, j < n → isn (FP.dmul (A i j) (x j)) = true) (hs : ∀ k, k < n → isn (subR (fun j => FP.dmul (A i j) (x j)) (k + 1) z) = true) (R : Int32) :
    s_Pb_lessRow N R (nI n) A x z (nI i) = some (subR (fun j => FP.dmul (A i j) (x j)) n z) := by
  unfold s_Pb_lessRow s_Pb_lessRow_L6
  refine loop_b n (fun k => (subR (fun j => FP.dmul (A i j) (x j)) k z, nI k)) _ rfl (by omega) (fun k hk => ?_) ?_ rfl
  · simp only [s_Pb_lessRow_B6, if_neg (nI_ge hk (by omega)), inb_nI hi (by omega), inb_nI (show k < 8 by omega) (by omega), inb_nI (show k < N by omega) (by omega), gd_t, nI_clamp (show k < 2 ^ 31 by omega), nI_clamp (show i < 2 ^ 31 by omega), hm k hk, ← subR_s, hs k hk, nI_1]
  · simp only [s_Pb_lessRow_B6, if_pos (nI_le (Nat.le_refl n) (by omega))]
