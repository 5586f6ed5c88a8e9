/-! pure combinators of the printed functions -/
def gd {α : Type} (b : Bool) (x : Option α) : Option α := if b = true then x else none
theorem gd_some {α : Type} {b : Bool} {x : Option α} {r : α} (h : gd b x = some r) : b = true ∧ x = some r := by
  unfold gd at h
  by_cases hb : b = true
  · rw [if_pos hb] at h
    exact ⟨hb, h⟩
  · rw [if_neg hb] at h
    cases h
theorem gd_eq {α : Type} {b : Bool} {x : Option α} (h : b = true) : gd b x = x := if_pos h
theorem it_t {α : Type} {c : Prop} [Decidable c] {X Y : Option α} {r : α} (hc : c) (h : (if c then X else Y) = some r) : X = some r := by
  rw [if_pos hc] at h
  exact h
theorem it_f {α : Type} {c : Prop} [Decidable c] {X Y : Option α} {r : α} (hc : ¬ c) (h : (if c then X else Y) = some r) : Y = some r := by
  rw [if_neg hc] at h
  exact h
theorem bi_some {α β : Type} {x : Option α} {f : α → Option β} {r : β} (h : x.bind f = some r) : ∃ u, x = some u ∧ f u = some r := by
  cases x with
  | none => cases h
  | some u => exact ⟨u, rfl, h⟩
def loopO {σ ε : Type} (body : σ → Option (σ ⊕ ε)) : Nat → σ → Option ε
  | 0, _ => none
  | k + 1, s => (body s).bind fun r => Sum.elim (fun s' => loopO body k s') (fun e => some e) r
theorem loopO_W {σ ε : Type} {body : σ → Option (σ ⊕ ε)} {Wh : σ → Prop} {Wx : ε → Prop} (step : ∀ (s : σ) (r : σ ⊕ ε), body s = some r → (∀ s', r = .inl s' → Wh s') → (∀ e, r = .inr e → Wx e) → Wh s) :
    ∀ (n : Nat) (s : σ) (e : ε), loopO body n s = some e → Wx e → Wh s := by
  intro n
  induction n with
  | zero => intro s e h _; cases h
  | succ k ih =>
    intro s e h hx
    unfold loopO at h
    obtain ⟨r, hr, h⟩ := bi_some h
    refine step s r hr (fun s' e1 => ?_) (fun e' e1 => ?_)
    · subst e1
      exact ih s' e h hx
    · subst e1
      have h2 : e' = e := Option.some.inj h
      rw [h2]
      exact hx
def inb (i : Int32) (n : Nat) : Bool := decide (¬ (i < 0 ∨ n ≤ i.toNatClampNeg))
theorem inb_in {i : Int32} {n : Nat} (h : inb i n = true) : vp_in i n := by
  unfold vp_in
  exact of_decide_eq_true h
theorem inb_lt {i : Int32} {n : Nat} (h : inb i n = true) : i.toNatClampNeg < n := by
  have h1 : ¬ (i < 0 ∨ n ≤ i.toNatClampNeg) := of_decide_eq_true h
  exact Nat.not_le.mp fun q => h1 (Or.inr q)
def isn (r : UInt64) : Bool := decide (r &&& 0x7fffffffffffffff ≤ 0x7ff0000000000000)
theorem isn_n {r : UInt64} (h : isn r = true) : vf_n64 r := by
  unfold vf_n64
  exact of_decide_eq_true h
def isb (x : Int32) : Bool := decide (x = 0 ∨ x = 1)
theorem isb_or {x : Int32} (h : isb x = true) : x = 0 ∨ x = 1 := of_decide_eq_true h
theorem isb_n {x : Int32} (h : isb x = true) : narrow .boolean (.int x) = .int x := by
  rcases isb_or h with rfl | rfl <;> rfl
theorem isb_f {x : Int32} (h : isb x = true) : fits .boolean (.int x) = true := by
  rcases isb_or h with rfl | rfl <;> rfl
def nz (x : Int32) : Bool := decide (¬ x = 0)
theorem nz_n {x : Int32} (h : nz x = true) : ¬ x = 0 := of_decide_eq_true h
def gset (M : Nat → Nat → UInt64) (i : Nat) (r : Nat → UInt64) : Nat → Nat → UInt64 := fun a => if a = i then r else M a
theorem gk5 {P : Nat → Prop} (h0 : P 0) (h1 : P 1) (h2 : P 2) (h3 : P 3) (h4 : P 4) (k : Nat) (hk : k < 5) : P k := by
  match k, hk with
  | 0, _ => exact h0
  | 1, _ => exact h1
  | 2, _ => exact h2
  | 3, _ => exact h3
  | 4, _ => exact h4
/-! the worlds: a callee's cells by their places, what comes back laid there again -/
def cfSet : va_W → List Nat → va_W → va_W
  | ws, k :: ks, e :: es => cfSet (ws.set k e) ks es
  | ws, _, _ => ws
theorem cf_at {ws wc : va_W} {ks : List Nat} (h : ks.map (fun i => ws[i]?) = wc.map some) {k : Nat} {q : Nat × va_E} (hq : wc[k]? = some q) : ∃ i, ks[k]? = some i ∧ ws[i]? = some q := by
  have h1 : (ks.map (fun i => ws[i]?))[k]? = some (some q) := by rw [h, List.getElem?_map, hq]; rfl
  rw [List.getElem?_map] at h1
  cases hi : ks[k]? with
  | none => rw [hi] at h1; cases h1
  | some i => rw [hi] at h1; exact ⟨i, rfl, Option.some.inj h1⟩
theorem cf_sub {D : va_G} {cl : List vw_C} {ws wc : va_W} {ks : List Nat} {H : Heap} (h : ks.map (fun i => ws[i]?) = wc.map some) (hP : va_P D cl ws H) : va_P D cl wc H := by
  intro k q hq
  obtain ⟨i, -, h2⟩ := cf_at h hq
  exact hP i q h2
theorem cfSet_get : ∀ (ks : List Nat) (es ws : va_W) (i : Nat) (q : Nat × va_E), ks.length = es.length → (cfSet ws ks es)[i]? = some q → (∃ j : Nat, ks[j]? = some i ∧ es[j]? = some q) ∨ (i ∉ ks ∧ ws[i]? = some q) := by
  intro ks
  induction ks with
  | nil =>
    intro es ws i q hl h
    refine Or.inr ⟨List.not_mem_nil, ?_⟩
    have : cfSet ws [] es = ws := by unfold cfSet; rfl
    rw [this] at h
    exact h
  | cons k ks ih =>
    intro es ws i q hl h
    cases es with
    | nil => cases hl
    | cons e es =>
      have h' : (cfSet (ws.set k e) ks es)[i]? = some q := h
      have hl' : ks.length = es.length := by simpa using hl
      rcases ih es (ws.set k e) i q hl' h' with ⟨j, h1, h2⟩ | ⟨h1, h2⟩
      · exact Or.inl ⟨j + 1, by simpa using h1, by simpa using h2⟩
      · by_cases hik : k = i
        · subst hik
          refine Or.inl ⟨0, by simp, ?_⟩
          rw [List.getElem?_set] at h2
          simp only [if_true] at h2
          split at h2
          · simpa using h2
          · cases h2
        · rw [List.getElem?_set] at h2
          rw [if_neg hik] at h2
          refine Or.inr ⟨?_, h2⟩
          intro hm
          rcases List.mem_cons.mp hm with h3 | h3
          · exact hik h3.symm
          · exact h1 h3
theorem cf_join {A : Nat → Prop} {D : va_G} {cl : List vw_C} {ws wc wc' : va_W} {H H1 : Heap} (hP : va_P D cl ws H) (hD : va_D A ws) (ks : List Nat) (hks : ks.map (fun i => ws[i]?) = wc.map some) (hfst : wc'.map Prod.fst = wc.map Prod.fst)
    (hk : ∀ q : Nat, q < H.size → ¬ va_A wc H.size q → H1[q]? = H[q]?) (hP1 : va_P D cl wc' H1) : va_P D cl (cfSet ws ks wc') H1 ∧ va_D A (cfSet ws ks wc') := by
  have hlen : ks.length = wc'.length := by
    have h1 := congrArg List.length hks
    have h2 := congrArg List.length hfst
    simp at h1 h2
    omega
  have addr : ∀ (i : Nat) (q : Nat × va_E), (cfSet ws ks wc')[i]? = some q → ∃ q0 : Nat × va_E, ws[i]? = some q0 ∧ q0.1 = q.1 := by
    intro i q h
    rcases cfSet_get ks wc' ws i q hlen h with ⟨j, h1, h2⟩ | ⟨-, h2⟩
    · have h3 : (wc'.map Prod.fst)[j]? = some q.1 := by rw [List.getElem?_map, h2]; rfl
      rw [hfst, List.getElem?_map] at h3
      cases hc : wc[j]? with
      | none => rw [hc] at h3; cases h3
      | some q0 =>
        rw [hc] at h3
        obtain ⟨i', h4, h5⟩ := cf_at hks hc
        rw [h1] at h4
        cases h4
        exact ⟨q0, h5, Option.some.inj h3⟩
    · exact ⟨q, h2, rfl⟩
  refine ⟨fun i q h => ?_, ⟨fun i j x y hx hy hxy => ?_, fun i q h => ?_⟩⟩
  · rcases cfSet_get ks wc' ws i q hlen h with ⟨j, -, h2⟩ | ⟨h1, h2⟩
    · exact hP1 j q h2
    · refine (hP i q h2).kept (hk q.1 (hP i q h2).lt ?_)
      rintro (⟨k2, e, h3⟩ | h3)
      · obtain ⟨i', h4, h5⟩ := cf_at hks h3
        have := hD.1 i i' q (q.1, e) h2 h5 rfl
        subst this
        exact h1 (List.mem_of_getElem? h4)
      · have := (hP i q h2).lt
        omega
  · obtain ⟨x0, g1, g2⟩ := addr i x hx
    obtain ⟨y0, g3, g4⟩ := addr j y hy
    exact hD.1 i j x0 y0 g1 g3 (by rw [g2, g4, hxy])
  · obtain ⟨q0, g1, g2⟩ := addr i q h
    rw [← g2]
    exact hD.2 i q0 g1
