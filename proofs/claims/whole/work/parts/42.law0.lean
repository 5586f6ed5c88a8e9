/-! THE CLAIM OUT OF ONE WALK OF THE LAW'S BODY. Your part is whole_start (and what it stands on); all else here is the same for every law, but numbers. -/
def R_law : String := "ConeForgeLaw"
def lw_P (b : Addr) (xs : List Int32) (args : Array Value) (s : State) : Prop := args = #[.ref b] ∧ s.IntsAt b xs ∧ xs.length ≤ 2560 ∧ (Jvm.Cond.and given_1 narrow_1).before args s = true
def lw_Q (_ : Array Value) (s : State) (o : Outcome) (t : State) : Prop := o = .returned (some (.int 1)) ∧ Framed s o t [] 601024 7293034
def lw_Z (below : List Frame) (a : Array Value) (s : State) : State → Prop := fun t => ∃ o, t.status = .running ∧ Ended t below o ∧ lw_Q a s o t
/-- the law's own end, with 1 on the stack, nothing written that was there before, its room as the claim has it -/
theorem lw_ret {p : Program} {l : Launch} {e : Env} {s : State} {m : MethodId} {below : List Frame} {meth : Method} {c : Code} {b : Nat} (hx : p.tables.exec = Jvm.exec) (hb : c.code = code) (hr : meth.sig.returnType = ret) (hlocks : meth.locks = false) {pc : Nat} {H : Heap} {ls : Array Slot} (hdg : decode code pc = .ok (.ireturn, 1)) : W p l e room_1 s m #[Value.ref b] below meth c H [] 601024 7293034 (lw_Z below #[Value.ref b] s) (F0 m pc ls [.int 1]) := by
  intro T hT X
  obtain ⟨fs, hret, hrun, hended, hW, hframe⟩ := X.leave (v := some (.int 1)) (hlocks := hlocks) (fun h => by rw [hr] at h; cases h)
  have hmeth' : T.vm.method? m = some meth := X.method'
  refine ⟨T.setFrames fs, ?_, .returned (some (.int 1)), hrun, hended, rfl, ⟨_, rfl⟩, hW, hframe⟩
  jvm_step X.here [X.here.top, hx, hb, hdg, hmeth', hr, ret, narrow_b1]
  (try refine ⟨rfl, ?_⟩); (try refine ⟨rfl, ?_⟩)
  first | (intro acts; rw [hret _ acts rfl rfl rfl]) | rw [hret _ _ rfl rfl rfl]
  exact Steps.refl _
/-- what holds at the law's entry: the machine, the code, the tables' words (any of lw_tbl by 'hts w (by decide +kernel)'), the script of L ints xs at the cell b, what the Statement gives of the start (any of its parts by flat_of_before) -/
def lw_At (p : Program) (s : State) (m : MethodId) (meth : Method) (c : Code) (b L : Nat) (xs : Nat → Int32) : Prop :=
  p.tables.exec = Jvm.exec ∧ c.code = code ∧ meth.sig.returnType = ret ∧ c.maxLocals = 9 ∧ s.vm.findClass R_law = some m.cls ∧ (∀ w ∈ lw_tbl, w.before #[Value.ref b] s = true) ∧ va_X b L xs s s.heap ∧ b < s.heap.size ∧ meth.locks = false ∧ (Jvm.Cond.and given_1 narrow_1).before #[Value.ref b] s = true
def HW : List Cond := [Cond.codeWith y_L_begin method_3_code 5 (some .int) [(0, 10, 13, 13)], Cond.codeWith y_L_set method_4_code 8 (some .int) [(0, 13, 16, 13), (0, 13, 20, 19)], Cond.codeWith y_L_text method_5_code 5 (some .int) [(0, 9, 12, 13), (0, 9, 16, 25)], Cond.codeWith y_L_read method_6_code 3 (some .int) [(0, 8, 11, 13)], Cond.codeWith y_L_interior method_7_code 4 (some .int) [(0, 9, 12, 13), (0, 9, 15, 35)], Cond.codeWith y_L_told method_8_code 5 (some .int) [(0, 9, 12, 13), (0, 9, 16, 25), (0, 9, 20, 19)], Cond.codeWith y_L_gap method_9_code 4 (some .int) [(0, 8, 11, 13), (0, 8, 14, 25)], Cond.codeWith y_L_certifies method_10_code 6 (some .int) [(0, 18, 21, 13), (0, 18, 25, 25)], Cond.codeWith y_L_count method_11_code 4 (some .int) [(0, 9, 12, 13)], Cond.codeWith y_L_scale method_12_code 5 (some .int) [(0, 9, 12, 13), (0, 9, 16, 19)]]
theorem hw_begin : Cond.codeWith y_L_begin method_3_code 5 (some .int) [(0, 10, 13, 13)] ∈ HW := List.mem_of_getElem? (i := 0) rfl
theorem hw_set : Cond.codeWith y_L_set method_4_code 8 (some .int) [(0, 13, 16, 13), (0, 13, 20, 19)] ∈ HW := List.mem_of_getElem? (i := 1) rfl
theorem hw_text : Cond.codeWith y_L_text method_5_code 5 (some .int) [(0, 9, 12, 13), (0, 9, 16, 25)] ∈ HW := List.mem_of_getElem? (i := 2) rfl
theorem hw_read : Cond.codeWith y_L_read method_6_code 3 (some .int) [(0, 8, 11, 13)] ∈ HW := List.mem_of_getElem? (i := 3) rfl
theorem hw_interior : Cond.codeWith y_L_interior method_7_code 4 (some .int) [(0, 9, 12, 13), (0, 9, 15, 35)] ∈ HW := List.mem_of_getElem? (i := 4) rfl
theorem hw_told : Cond.codeWith y_L_told method_8_code 5 (some .int) [(0, 9, 12, 13), (0, 9, 16, 25), (0, 9, 20, 19)] ∈ HW := List.mem_of_getElem? (i := 5) rfl
theorem hw_gap : Cond.codeWith y_L_gap method_9_code 4 (some .int) [(0, 8, 11, 13), (0, 8, 14, 25)] ∈ HW := List.mem_of_getElem? (i := 6) rfl
theorem hw_certifies : Cond.codeWith y_L_certifies method_10_code 6 (some .int) [(0, 18, 21, 13), (0, 18, 25, 25)] ∈ HW := List.mem_of_getElem? (i := 7) rfl
theorem hw_count : Cond.codeWith y_L_count method_11_code 4 (some .int) [(0, 9, 12, 13)] ∈ HW := List.mem_of_getElem? (i := 8) rfl
theorem hw_scale : Cond.codeWith y_L_scale method_12_code 5 (some .int) [(0, 9, 12, 13), (0, 9, 16, 19)] ∈ HW := List.mem_of_getElem? (i := 9) rfl
abbrev lwA (s : State) : Nat → Prop := fun q => s.heap.size ≤ q
def LawCtx (p : Program) (l : Launch) (s : State) (m : MethodId) (meth : Method) (c : Code) (q0 L : Nat) (xs : Nat → Int32) (D : va_G) (T : Nat → ClassId) : Prop :=
  p.tables.exec = Jvm.exec ∧ c.code = code ∧ meth.sig.returnType = ret ∧ meth.locks = false ∧ c.maxLocals = 9 ∧ s.vm.findClass "ConeForgeLaw" = some m.cls ∧ (∀ w ∈ Cond.initialized "ConeForgeLaw" :: BIG, w.before #[Value.ref q0] s = true) ∧ (∀ w ∈ HW, w.before #[Value.ref q0] s = true) ∧ NW s ∧ va_K D CL (tyL T) s ∧ SX (lwA s) s ∧ XNC s ∧ l.stackTraces = false ∧ va_X q0 L xs s s.heap ∧ q0 < s.heap.size
theorem lw_end {p : Program} {l : Launch} {e : Env} {s : State} {m : MethodId} {below : List Frame} {meth : Method} {c : Code} {q0 pc cells slots : Nat} {H : Heap} {locs : List Loc} {ls : Array Slot} (hx : p.tables.exec = Jvm.exec) (hb : c.code = code) (hr : meth.sig.returnType = ret) (hlocks : meth.locks = false) (hS : va_S (lwA s) s.heap H locs) (hc : cells ≤ 601024) (hs : slots ≤ 7293034) (hdg : decode code pc = .ok (.ireturn, 1)) :
    W p l e room_1 s m #[Value.ref q0] below meth c H locs cells slots (lw_Z below #[Value.ref q0] s) (F0 m pc ls [.int 1]) :=
  va_forget (fun q hq => hS.2.2 q hq) (W.widen hc hs (lw_ret hx hb hr hlocks hdg))
