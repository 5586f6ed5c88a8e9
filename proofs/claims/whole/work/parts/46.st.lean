/-! what stands at the law's entry -/
theorem tb_ok {args : Array Value} {s : State} (hts : ∀ w ∈ lw_tbl, w.before args s = true) (hn : ∀ w ∈ XNAR, w.before args s = true) : ∀ (k : Nat) (w : Cond), w ∈ tb k → w.before args s = true := by
  have h0 : ∀ w ∈ tables_1, w.before args s = true := fun w h => hts w (List.mem_append_right _ h)
  intro k w hw
  match k, hw with
  | 0, hw => exact hts w (List.mem_append_left _ hw)
  | 1, hw => exact h0 w (List.mem_append_left _ hw)
  | 2, hw => exact h0 w (List.mem_append_right _ (List.mem_append_left _ hw))
  | 3, hw => exact h0 w (List.mem_append_right _ (List.mem_append_right _ (List.mem_append_left _ hw)))
  | 4, hw => exact h0 w (List.mem_append_right _ (List.mem_append_right _ (List.mem_append_right _ (List.mem_append_left _ hw))))
  | 5, hw => exact h0 w (List.mem_append_right _ (List.mem_append_right _ (List.mem_append_right _ (List.mem_append_right _ (List.mem_append_left _ hw)))))
  | 6, hw => exact h0 w (List.mem_append_right _ (List.mem_append_right _ (List.mem_append_right _ (List.mem_append_right _ (List.mem_append_right _ hw)))))
  | k + 7, hw => exact hn w hw
theorem ls_move {s V : State} {A A' : Array Value} (hW : s.WarmedH V.vm) (hk : ∀ q : Nat, q < s.heap.size → V.heap[q]? = s.heap[q]?) {O f d : String} (h : (Cond.laysStatic O f d).before A s = true) : (Cond.laysStatic O f d).before A' V = true := by
  have h1 := Cond.laysStatic_setVm hW.alike h
  obtain ⟨c, k, i, fl, a, cell, e1, e2, e3, e4, e5, e6, e7, e8, e9⟩ := Cond.laysStatic_spec h1
  have f1 : V.vm.findClass O = some c := e1
  have f2 : V.fieldFound? O f d = some (c, k, i, fl) := e2
  have e5' : s.heap[a]? = some cell := e5
  have f3 : V.heap[a]? = some cell := (hk a (Array.getElem?_eq_some_iff.mp e5').1).trans e5'
  simp [Cond.before, Cond.holds, Cond.value, f1, f2, e3, e4, f3, e6, e7, e8, e9]
theorem se_move {s V : State} {A A' : Array Value} (hW : s.WarmedH V.vm) (hk : ∀ q : Nat, q < s.heap.size → V.heap[q]? = s.heap[q]?) {O f d : String} {v : Value} (h : (Term.static O f d).eval A s none [] s = some v) : (Term.static O f d).eval A' V none [] V = some v := by
  have h1 := Term.static_setVm hW.alike h
  simp only [Term.eval] at h1 ⊢
  have e : (s.setVm V.vm).fieldNamed? O f d true = V.fieldNamed? O f d true := rfl
  have e2 : (s.setVm V.vm).heap = s.heap := rfl
  rw [e, e2] at h1
  cases hf : V.fieldNamed? O f d true with
  | none => rw [hf] at h1; cases h1
  | some x =>
    obtain ⟨c, k, slot⟩ := x
    rw [hf] at h1
    simp only [Option.bind_eq_bind, Option.bind_some] at h1 ⊢
    cases ha : k.statics with
    | none => rw [ha] at h1; cases h1
    | some a =>
      rw [ha] at h1
      simp only [Option.bind_some] at h1 ⊢
      cases hc : s.heap[a]? with
      | none => rw [hc] at h1; cases h1
      | some cell =>
        have f3 : V.heap[a]? = some cell := (hk a (Array.getElem?_eq_some_iff.mp hc).1).trans hc
        rw [hc] at h1
        rw [f3]
        exact h1
theorem ir_move {s V : State} {A A' : Array Value} (hW : s.WarmedH V.vm) (hk : ∀ q : Nat, q < s.heap.size → V.heap[q]? = s.heap[q]?) {O f d : String} (h : (Cond.isRef (.static O f d)).before A s = true) : (Cond.isRef (.static O f d)).before A' V = true := by
  simp only [Cond.before, Cond.holds, Cond.value] at h ⊢
  cases hev : (Term.static O f d).eval A s none [] s with
  | none => rw [hev] at h; simp at h
  | some v =>
    rw [hev] at h
    rw [se_move (A' := A') hW hk hev]
    exact h
def xkind : Cond → Bool
  | .declares _ => true
  | .castable _ _ => true
  | .laysStatic _ _ _ => true
  | .isRef (.static _ _ _) => true
  | _ => false
set_option maxRecDepth 100000 in
theorem XAT_kind : XAT.all (fun w => goodWord w || xkind w) = true := by decide +kernel
theorem xk_move {s V : State} {A A' : Array Value} (hW : s.WarmedH V.vm) (hk : ∀ q : Nat, q < s.heap.size → V.heap[q]? = s.heap[q]?) {w : Cond} (hg : xkind w = true) (h : w.before A s = true) : w.before A' V = true := by
  unfold xkind at hg
  split at hg
  · exact va_Nw.use rfl (va_Nw.warmD hW (va_Nw.of rfl h))
  · exact va_Nw.use rfl (va_Nw.warmC hW (va_Nw.of rfl h))
  · exact ls_move hW hk h
  · exact ir_move hW hk h
  · cases hg
theorem SX_of {args : Array Value} {s : State} {c : ClassId} (hx : ∀ w ∈ XAT, w.before args s = true) (hs : ∀ w ∈ XSR, w.before args s = true) (hc : s.vm.findClass "ConeForge" = some c) : SX (lwA s) s := by
  intro V hW hk hz
  have hk' : ∀ q : Nat, q < s.heap.size → V.heap[q]? = s.heap[q]? := fun q hq => hk q hq (fun h => Nat.lt_irrefl _ (Nat.lt_of_lt_of_le hq h))
  refine ⟨fun w hw a => ?_, fun q hq => ?_⟩
  · have h := hx w hw
    have hkind := List.all_eq_true.mp XAT_kind w hw
    rw [Bool.or_eq_true] at hkind
    rcases hkind with hg | hg
    · exact word_at hW (good_of_word hg) h
    · exact xk_move hW hk' hg h
  · have h := hs _ (List.mem_map_of_mem (f := fun q : Nat × String => Cond.stringRef "ConeForge" q.1 q.2) hq)
    obtain ⟨k, cf, i, a, -, -, -, -, -, hev⟩ := Cond.stringRef_spec hc h
    exact ⟨a, vk_R.warm hW (vk_R.of h hev)⟩
theorem nc_of {args : Array Value} {s : State} {a b : String} (h : (Cond.not (Cond.castable a b)).before args s = true) : ∃ ca cb : ClassId, s.vm.findClass a = some ca ∧ s.vm.findClass b = some cb ∧ s.vm.assignable ca cb = false := by
  simp only [Cond.before, Cond.holds, Cond.value] at h
  cases h1 : s.vm.findClass a with
  | none => simp [h1] at h
  | some ca =>
    cases h2 : s.vm.findClass b with
    | none => simp [h1, h2] at h
    | some cb =>
      refine ⟨ca, cb, rfl, rfl, ?_⟩
      simpa [h1, h2] using h
def lwNC : List Cond := XNL.map (fun q => Cond.not (Cond.castable q.1 q.2))
set_option maxRecDepth 100000 in
theorem lwNC_in : lwNC.all (fun w => decide (w ∈ flatC (Jvm.Cond.and given_1 narrow_1))) = true := by decide +kernel
set_option maxRecDepth 100000 in
theorem XNAR_in : XNAR.all (fun w => decide (w ∈ flatC (Jvm.Cond.and given_1 narrow_1))) = true := by decide +kernel
theorem XNC_of {args : Array Value} {s : State} (h : (Jvm.Cond.and given_1 narrow_1).before args s = true) : XNC s := fun q hq => by
  have h1 := List.all_eq_true.mp lwNC_in _ (List.mem_map_of_mem (f := fun q : String × String => Cond.not (Cond.castable q.1 q.2)) hq)
  exact nc_of (flat_of_before _ h _ (of_decide_eq_true h1))
theorem XNAR_of {args : Array Value} {s : State} (h : (Jvm.Cond.and given_1 narrow_1).before args s = true) : ∀ w ∈ XNAR, w.before args s = true := fun w hw =>
  flat_of_before _ h _ (of_decide_eq_true (List.all_eq_true.mp XNAR_in _ hw))
theorem at_of {args : Array Value} {s : State} {ty : FieldType} (h : (Cond.arrayClass ty).before args s = true) : ∃ c : ClassId, s.vm.findClass ("[" ++ ty.toString) = some c ∧ ArrOfT s c ty := by
  obtain ⟨c, k, comp, h1, h2, h3⟩ := Cond.arrayClass_spec h
  exact ⟨c, h1, fun n z => ⟨(fun q hq => by cases hq), k, h2, comp, h3⟩⟩
theorem ao_of {args : Array Value} {s : State} {ty : FieldType} (h : (Cond.arrayOver (.array ty)).before args s = true) : ∃ c : ClassId, s.vm.findClass ("[" ++ (FieldType.array ty).toString) = some c ∧ ArrOfT s c (.array ty) := by
  simp only [Cond.before, Cond.holds, Cond.value] at h
  cases hc : s.vm.findClass (FieldType.array ty).toString with
  | none => simp [hc] at h
  | some comp =>
    rw [hc, Option.bind_some] at h
    generalize s.vm.classes.findIdx? _ = oi at h
    cases oi with
    | none => simp at h
    | some c =>
      rw [Option.bind_some] at h
      cases hk : s.vm.classes[c]? with
      | none => simp [hk] at h
      | some k =>
        simp only [hk, Option.map_some] at h
        cases hkind : k.kind with
        | array comp2 t2 =>
          simp only [hkind, beq_iff_eq, Option.some.injEq, Bool.and_eq_true, decide_eq_true_eq] at h
          exact ⟨c, h.2, fun n z => ⟨(fun q hq => by cases hq), k, hk, comp2, by rw [hkind, h.1]⟩⟩
        | _ => simp [hkind] at h
