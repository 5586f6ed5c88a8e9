/-! a catch: the table's rows one by one, the classes cold or warm -/
section CX5
theorem fh_step {E : CtlPost} {e : Env} {d : Bool} {acts : List Action} {s : State} {f : JFrame} {a : Addr} {Q : Handler → Pre} {x : ExceptionTableEntry} {t : List ExceptionTableEntry} {c : ClassId} {cell : Cell} (hx : covers x f.pc = true) (h0 : x.catchType ≠ 0)
    (hcl : s.vm.ClassLinks e.platform f.method.cls x.catchType c) (hcell : s.heap[a]? = some cell) (hobj : ∀ k, cell.vm ≠ .statics k)
    (hk : ∃ k, (s.vm.noted f.method.cls x.catchType (.cls c)).classes[cell.cls]? = some k) (hc : ∃ k, (s.vm.noted f.method.cls x.catchType (.cls c)).classes[c]? = some k) :
    wp (findHandler.go f a (x :: t)) Q E e d acts s ↔
      if (s.vm.noted f.method.cls x.catchType (.cls c)).assignable cell.cls c = true then Q (.found x.handlerPc) d acts (s.setVm (s.vm.noted f.method.cls x.catchType (.cls c))) else wp (findHandler.go f a t) Q E e d acts (s.setVm (s.vm.noted f.method.cls x.catchType (.cls c))) := by
  simp only [covers] at hx
  obtain ⟨ha, ht⟩ := (resolveClass_links e.toSetting hcl).op (op := VmOp.resolveClass f.method.cls x.catchType) rfl
  have hsz : (s.vm.noted f.method.cls x.catchType (.cls c)).classes.size ≤ s.vm.classes.size := by rw [Vm.size_noted]; exact Nat.le_refl _
  cases hfit : (s.vm.noted f.method.cls x.catchType (.cls c)).assignable cell.cls c <;>
    simp [findHandler.go, hx, h0, ha, ht, hsz, hcell, hobj, hk, hc, hfit, VmOp.dirties, VmOp.acts]
/-- what the search gives, and the tables that it leaves -/
def FindsV (e : Env) (s : State) (f : JFrame) (a : Addr) (h : Handler) (vm' : Vm) : Prop :=
  ∀ (Q : Handler → Pre) (E : CtlPost) (d : Bool) (acts : List Action), wp (findHandler f a) Q E e d acts s ↔ Q h d acts (s.setVm vm')
theorem st_catch {e : Env} {s : State} {a : Addr} {f : JFrame} {r : List Frame} {pc : Nat} {vm' : Vm} (hfind : FindsV e s f a (.found pc) vm') :
    (stepThrowing e s a (.java f :: r)).Is ((s.setVm vm').setFrames (.java { f with pc := pc, stack := [.ref a] } :: r)) [] := by
  simp only [stepThrowing, searchFrame, vmDo]
  generalize hr : Sem.go _ e false [] s = res
  obtain ⟨as, rfl, ha⟩ := Sem.eq_ok_of hr (a := Handler.found pc) (s' := s.setVm vm') (acts' := []) (by simp [hfind _ _ _ _])
  exact ⟨rfl, ha⟩
theorem st_caught {tb : Tables} {e : Env} {s target : State} {g : JFrame} {c : Code} {below : List Frame} {a : Addr} (h : At s g.method c below) {pc : Nat} {vm' : Vm} (hfind : FindsV e ((s.setTop g).pushFrame (.throwing a)) g a (.found pc) vm')
    (hrest : Steps tb e below ((s.setVm vm').setTop { g with pc := pc, stack := [.ref a] }) target) :
    Steps tb e below ((s.setTop g).pushFrame (.throwing a)) target := by
  obtain ⟨hgo, hw⟩ := h.throwing a
  refine Steps.head hgo hw ?_
  rw [stepThread_throwing (frames_entered h.top _), (st_catch (s := (s.setTop g).pushFrame (.throwing a)) hfind).1]
  obtain ⟨g₀, hg⟩ := Option.isSome_iff_exists.mp h.top
  obtain ⟨r, hr⟩ := State.topJava?_eq_some.mp hg
  have hr' : (s.setVm vm').frames = .java g₀ :: r := hr
  rw [State.setTop_of_frames _ hr'] at hrest
  have e1 : (((s.setTop g).pushFrame (.throwing a)).setVm vm').setFrames (.java { g with pc := pc, stack := [.ref a] } :: s.frames.tail) = (s.setVm vm').setFrames (.java { g with pc := pc, stack := [.ref a] } :: r) := by
    have e2 : ((s.setTop g).pushFrame (.throwing a)).setVm vm' = ((s.setVm vm').setTop g).pushFrame (.throwing a) := rfl
    rw [e2, State.pushFrame, State.setFrames_setFrames, State.setTop_of_frames _ hr', State.setFrames_setFrames, hr]
    rfl
  rw [hr] at e1 ⊢
  rw [e1]
  exact hrest
end CX5
section CX6
variable {p : Program} {l : Launch} {e : Env} {R : Room} {s : State} {m : MethodId} {args : Array Value} {below : List Frame} {meth : Method} {c : Code} {H : Heap} {locs : List Loc} {cells slots : Nat} {Q : State → Prop}
/-- the rows from here on: what they give from the tables vm -/
def FV (e : Env) (s : State) (m : MethodId) (pc : Nat) (cell : Cell) (rows : List ExceptionTableEntry) (hp : Nat) : Prop :=
  ∀ (U : State) (g : JFrame) (a : Addr), s.WarmedH U.vm → g.method = m → g.pc = pc → U.heap[a]? = some cell → ∃ vm' : Vm, s.WarmedH vm' ∧ ∀ (Q : Handler → Pre) (E : CtlPost) (d : Bool) (acts : List Action), wp (findHandler.go g a rows) Q E e d acts U ↔ Q (.found hp) d acts (U.setVm vm')
variable {own : String} {pc hp : Nat} {cell : Cell} {x : ExceptionTableEntry} {t : List ExceptionTableEntry} {name : String} {cT : ClassId}
theorem fv_row (hpl : e.platform.magicAccessors = ({} : Platform).magicAccessors) (hown : s.vm.findClass own = some m.cls) (hlink : (Cond.classLink own x.catchType name).before args s = true) (hcT : s.vm.findClass name = some cT) (hk : ∃ k, s.vm.classes[cell.cls]? = some k) (hobj : ∀ k, cell.vm ≠ .statics k) (hx : covers x pc = true) (h0 : x.catchType ≠ 0)
    {U : State} {g : JFrame} {a : Addr} (hW : s.WarmedH U.vm) (hg : g.method = m) (hpc : g.pc = pc) (hcell : U.heap[a]? = some cell) :
    s.WarmedH (U.vm.noted m.cls x.catchType (.cls cT)) ∧ ∀ (Q : Handler → Pre) (E : CtlPost) (d : Bool) (acts : List Action), wp (findHandler.go g a (x :: t)) Q E e d acts U ↔
      if s.vm.assignable cell.cls cT = true then Q (.found x.handlerPc) d acts (U.setVm (U.vm.noted m.cls x.catchType (.cls cT))) else wp (findHandler.go g a t) Q E e d acts (U.setVm (U.vm.noted m.cls x.catchType (.cls cT))) := by
  obtain ⟨c', hc', hcl⟩ := Cond.classLink_spec hown hlink e.platform hpl
  cases hcT.symm.trans hc'
  obtain ⟨dk, _, _, kt, hd, _, _, _, _, hkt, _, hopen⟩ := hcl.here
  have hcl₀ := hW.classLinks hcl
  have hW' : s.WarmedH (U.vm.noted m.cls x.catchType (.cls cT)) := hW.noted hd hopen (State.rightAt_cls hcl)
  obtain ⟨ks, hks⟩ := hk
  obtain ⟨ks', hks', -⟩ := hW'.alike.2.2 _ _ hks
  obtain ⟨kt', hkt', -⟩ := hW'.alike.2.2 _ _ hkt
  refine ⟨hW', fun Q E d acts => ?_⟩
  subst hg
  rw [fh_step (by rw [hpc]; exact hx) h0 hcl₀ hcell hobj ⟨ks', hks'⟩ ⟨kt', hkt'⟩, hW'.alike.assignable]
theorem fv_hit (hpl : e.platform.magicAccessors = ({} : Platform).magicAccessors) (hown : s.vm.findClass own = some m.cls) (hlink : (Cond.classLink own x.catchType name).before args s = true) (hcT : s.vm.findClass name = some cT) (hk : ∃ k, s.vm.classes[cell.cls]? = some k) (hobj : ∀ k, cell.vm ≠ .statics k) (hx : covers x pc = true) (h0 : x.catchType ≠ 0)
    (hasg : s.vm.assignable cell.cls cT = true) : FV e s m pc cell (x :: t) x.handlerPc := fun U g a hW hg hpc hcell => by
  obtain ⟨hW', h⟩ := fv_row (t := t) hpl hown hlink hcT hk hobj hx h0 hW hg hpc hcell
  exact ⟨_, hW', fun Q E d acts => by rw [h, if_pos hasg]⟩
theorem fv_miss (hpl : e.platform.magicAccessors = ({} : Platform).magicAccessors) (hown : s.vm.findClass own = some m.cls) (hlink : (Cond.classLink own x.catchType name).before args s = true) (hcT : s.vm.findClass name = some cT) (hk : ∃ k, s.vm.classes[cell.cls]? = some k) (hobj : ∀ k, cell.vm ≠ .statics k) (hx : covers x pc = true) (h0 : x.catchType ≠ 0)
    (hasg : s.vm.assignable cell.cls cT = false) (h2 : FV e s m pc cell t hp) : FV e s m pc cell (x :: t) hp := fun U g a hW hg hpc hcell => by
  obtain ⟨hW', h⟩ := fv_row (t := t) hpl hown hlink hcT hk hobj hx h0 hW hg hpc hcell
  obtain ⟨vm', hW2, h3⟩ := h2 (U.setVm (U.vm.noted m.cls x.catchType (.cls cT))) g a hW' hg hpc hcell
  exact ⟨vm', hW2, fun Q E d acts => by rw [h, if_neg (by rw [hasg]; decide), h3]; rfl⟩
/-- the walk goes on at the handler -/
theorem xcatch {ls : Array Slot} {rest : List Value} {a : Addr} (hcell : H[a]? = some cell) (hf : FV e s m pc cell c.exceptionTable.toList hp) (kk : W p l e R s m args below meth c H locs cells slots Q (F0 m hp ls [.ref a])) :
    WT p l e R s m args below meth c H locs cells slots Q (F0 m pc ls rest) a := by
  intro T hT X
  obtain ⟨vm', hW, hfd⟩ := hf ((T.setTop (F0 m pc ls rest)).pushFrame (.throwing a)) (F0 m pc ls rest) a X.warmed rfl rfl (by show T.heap[a]? = _; rw [hT]; exact hcell)
  obtain ⟨t, a1, b1⟩ := kk (T.setVm vm') hT (X.noted hW)
  refine ⟨t, st_caught (g := F0 m pc ls rest) X.here (vm' := vm') (pc := hp) (fun Q E d acts => ?_) a1, b1⟩
  rw [W.findHandler_eq (show _ = some meth from X.method') X.code]
  exact hfd Q E d acts
/-- no class of the first list's is one of the second's -/
def XNL : List (String × String) := [("java/lang/IllegalArgumentException", "java/lang/IndexOutOfBoundsException"), ("java/lang/IllegalArgumentException", "java/lang/IllegalStateException"), ("java/lang/IllegalArgumentException", "java/lang/ArithmeticException"),
  ("java/lang/IndexOutOfBoundsException", "java/lang/IllegalArgumentException"), ("java/lang/IndexOutOfBoundsException", "java/lang/IllegalStateException"), ("java/lang/IndexOutOfBoundsException", "java/lang/ArithmeticException"),
  ("java/lang/IllegalStateException", "java/lang/IllegalArgumentException"), ("java/lang/IllegalStateException", "java/lang/IndexOutOfBoundsException"), ("java/lang/IllegalStateException", "java/lang/ArithmeticException"),
  ("java/lang/ArithmeticException", "java/lang/IllegalArgumentException"), ("java/lang/ArithmeticException", "java/lang/IndexOutOfBoundsException"), ("java/lang/ArithmeticException", "java/lang/IllegalStateException")]
def XNC (U : State) : Prop := ∀ q ∈ XNL, ∃ ca cb : ClassId, U.vm.findClass q.1 = some ca ∧ U.vm.findClass q.2 = some cb ∧ U.vm.assignable ca cb = false
theorem XNC.moved {u U : State} (hvm : u.vm.Alike U.vm) (h : XNC u) : XNC U := fun q hq => by
  obtain ⟨ca, cb, h1, h2, h3⟩ := h q hq
  exact ⟨ca, cb, by rw [hvm.findClass]; exact h1, by rw [hvm.findClass]; exact h2, by rw [hvm.assignable]; exact h3⟩
theorem XNC.find1 {U : State} (h : XNC U) {a b : String} (hq : (a, b) ∈ XNL) {c : ClassId} (hc : U.vm.findClass a = some c) : ∃ cb, U.vm.findClass b = some cb ∧ U.vm.assignable c cb = false := by
  obtain ⟨ca, cb, h1, h2, h3⟩ := h _ hq
  cases hc.symm.trans h1
  exact ⟨cb, h2, h3⟩
theorem vm_asg_self {vm : Vm} {c : ClassId} : vm.assignable c c = true := by
  show vm.assignableAux (255 + 1) c c = true
  rw [Vm.assignableAux]
  simp
theorem obj_ns {ce : Cell} (h : ce.vm = .none) : ∀ k, ce.vm ≠ .statics k := fun k hk => by rw [h] at hk; cases hk
/-- a table of one, two, three rows: a row of the exception's own class -/
theorem xc1 {E1 : String} {x1 : Nat × Nat × Nat × Nat} (hpl : e.platform.magicAccessors = ({} : Platform).magicAccessors) (hown : s.vm.findClass own = some m.cls) (htab : c.exceptionTable.toList.map (fun h => (h.startPc, h.endPc, h.handlerPc, h.catchType)) = [x1]) (hcl : s.vm.findClass E1 = some cell.cls) (hv : cell.vm = .none)
    (hk1 : (Cond.classLink own x1.2.2.2 E1).before args s = true) (h1 : (decide (x1.1 ≤ pc) && decide (pc < x1.2.1)) = true) (h01 : x1.2.2.2 ≠ 0) : FV e s m pc cell c.exceptionTable.toList x1.2.2.1 := by
  match hL : c.exceptionTable.toList, htab with
  | [x], htab =>
    cases htab
    exact fv_hit hpl hown hk1 hcl (Vm.classAt_of_findClass hcl) (obj_ns hv) h1 h01 vm_asg_self
theorem xc2a {E1 E2 : String} {x1 x2 : Nat × Nat × Nat × Nat} (hpl : e.platform.magicAccessors = ({} : Platform).magicAccessors) (hown : s.vm.findClass own = some m.cls) (htab : c.exceptionTable.toList.map (fun h => (h.startPc, h.endPc, h.handlerPc, h.catchType)) = [x1, x2]) (hcl : s.vm.findClass E1 = some cell.cls) (hv : cell.vm = .none)
    (hk1 : (Cond.classLink own x1.2.2.2 E1).before args s = true) (h1 : (decide (x1.1 ≤ pc) && decide (pc < x1.2.1)) = true) (h01 : x1.2.2.2 ≠ 0) : FV e s m pc cell c.exceptionTable.toList x1.2.2.1 := by
  match hL : c.exceptionTable.toList, htab with
  | [x, y], htab =>
    cases htab
    exact fv_hit hpl hown hk1 hcl (Vm.classAt_of_findClass hcl) (obj_ns hv) h1 h01 vm_asg_self
theorem xc2b {E1 E2 : String} {x1 x2 : Nat × Nat × Nat × Nat} (hpl : e.platform.magicAccessors = ({} : Platform).magicAccessors) (hown : s.vm.findClass own = some m.cls) (htab : c.exceptionTable.toList.map (fun h => (h.startPc, h.endPc, h.handlerPc, h.catchType)) = [x1, x2]) (hcl : s.vm.findClass E2 = some cell.cls) (hv : cell.vm = .none) (hNC : XNC s) (hq : (E2, E1) ∈ XNL)
    (hk1 : (Cond.classLink own x1.2.2.2 E1).before args s = true) (h1 : (decide (x1.1 ≤ pc) && decide (pc < x1.2.1)) = true) (h01 : x1.2.2.2 ≠ 0)
    (hk2 : (Cond.classLink own x2.2.2.2 E2).before args s = true) (h2 : (decide (x2.1 ≤ pc) && decide (pc < x2.2.1)) = true) (h02 : x2.2.2.2 ≠ 0) : FV e s m pc cell c.exceptionTable.toList x2.2.2.1 := by
  match hL : c.exceptionTable.toList, htab with
  | [x, y], htab =>
    cases htab
    obtain ⟨cb, hb1, hb2⟩ := hNC.find1 hq hcl
    exact fv_miss hpl hown hk1 hb1 (Vm.classAt_of_findClass hcl) (obj_ns hv) h1 h01 hb2 (fv_hit hpl hown hk2 hcl (Vm.classAt_of_findClass hcl) (obj_ns hv) h2 h02 vm_asg_self)
theorem xc3a {E1 : String} {x1 x2 x3 : Nat × Nat × Nat × Nat} (hpl : e.platform.magicAccessors = ({} : Platform).magicAccessors) (hown : s.vm.findClass own = some m.cls) (htab : c.exceptionTable.toList.map (fun h => (h.startPc, h.endPc, h.handlerPc, h.catchType)) = [x1, x2, x3]) (hcl : s.vm.findClass E1 = some cell.cls) (hv : cell.vm = .none)
    (hk1 : (Cond.classLink own x1.2.2.2 E1).before args s = true) (h1 : (decide (x1.1 ≤ pc) && decide (pc < x1.2.1)) = true) (h01 : x1.2.2.2 ≠ 0) : FV e s m pc cell c.exceptionTable.toList x1.2.2.1 := by
  match hL : c.exceptionTable.toList, htab with
  | [x, y, z], htab =>
    cases htab
    exact fv_hit hpl hown hk1 hcl (Vm.classAt_of_findClass hcl) (obj_ns hv) h1 h01 vm_asg_self
theorem xc3b {E1 E2 : String} {x1 x2 x3 : Nat × Nat × Nat × Nat} (hpl : e.platform.magicAccessors = ({} : Platform).magicAccessors) (hown : s.vm.findClass own = some m.cls) (htab : c.exceptionTable.toList.map (fun h => (h.startPc, h.endPc, h.handlerPc, h.catchType)) = [x1, x2, x3]) (hcl : s.vm.findClass E2 = some cell.cls) (hv : cell.vm = .none) (hNC : XNC s) (hq : (E2, E1) ∈ XNL)
    (hk1 : (Cond.classLink own x1.2.2.2 E1).before args s = true) (h1 : (decide (x1.1 ≤ pc) && decide (pc < x1.2.1)) = true) (h01 : x1.2.2.2 ≠ 0)
    (hk2 : (Cond.classLink own x2.2.2.2 E2).before args s = true) (h2 : (decide (x2.1 ≤ pc) && decide (pc < x2.2.1)) = true) (h02 : x2.2.2.2 ≠ 0) : FV e s m pc cell c.exceptionTable.toList x2.2.2.1 := by
  match hL : c.exceptionTable.toList, htab with
  | [x, y, z], htab =>
    cases htab
    obtain ⟨cb, hb1, hb2⟩ := hNC.find1 hq hcl
    exact fv_miss hpl hown hk1 hb1 (Vm.classAt_of_findClass hcl) (obj_ns hv) h1 h01 hb2 (fv_hit hpl hown hk2 hcl (Vm.classAt_of_findClass hcl) (obj_ns hv) h2 h02 vm_asg_self)
theorem xc3c {E1 E2 E3 : String} {x1 x2 x3 : Nat × Nat × Nat × Nat} (hpl : e.platform.magicAccessors = ({} : Platform).magicAccessors) (hown : s.vm.findClass own = some m.cls) (htab : c.exceptionTable.toList.map (fun h => (h.startPc, h.endPc, h.handlerPc, h.catchType)) = [x1, x2, x3]) (hcl : s.vm.findClass E3 = some cell.cls) (hv : cell.vm = .none) (hNC : XNC s) (hq : (E3, E1) ∈ XNL) (hq2 : (E3, E2) ∈ XNL)
    (hk1 : (Cond.classLink own x1.2.2.2 E1).before args s = true) (h1 : (decide (x1.1 ≤ pc) && decide (pc < x1.2.1)) = true) (h01 : x1.2.2.2 ≠ 0)
    (hk2 : (Cond.classLink own x2.2.2.2 E2).before args s = true) (h2 : (decide (x2.1 ≤ pc) && decide (pc < x2.2.1)) = true) (h02 : x2.2.2.2 ≠ 0)
    (hk3 : (Cond.classLink own x3.2.2.2 E3).before args s = true) (h3 : (decide (x3.1 ≤ pc) && decide (pc < x3.2.1)) = true) (h03 : x3.2.2.2 ≠ 0) : FV e s m pc cell c.exceptionTable.toList x3.2.2.1 := by
  match hL : c.exceptionTable.toList, htab with
  | [x, y, z], htab =>
    cases htab
    obtain ⟨cb, hb1, hb2⟩ := hNC.find1 hq hcl
    obtain ⟨cb2, hb3, hb4⟩ := hNC.find1 hq2 hcl
    exact fv_miss hpl hown hk1 hb1 (Vm.classAt_of_findClass hcl) (obj_ns hv) h1 h01 hb2 (fv_miss hpl hown hk2 hb3 (Vm.classAt_of_findClass hcl) (obj_ns hv) h2 h02 hb4 (fv_hit hpl hown hk3 hcl (Vm.classAt_of_findClass hcl) (obj_ns hv) h3 h03 vm_asg_self))
end CX6
