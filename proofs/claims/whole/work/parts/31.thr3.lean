/-! what a throw needs of the tables and of Throwable's statics, said of every later state -/
def xIAE : List String := ["java/lang/RuntimeException", "java/lang/Exception"]
def XAT : List Cond := Bundle.ownAtoms "ConeForge" 69 "java/lang/IllegalArgumentException" xIAE ++ (Bundle.ownAtoms "ConeForge" 121 "java/lang/IllegalStateException" xIAE ++ (Bundle.ownAtoms "ConeForge" 235 "java/lang/IndexOutOfBoundsException" xIAE ++ Bundle.ownAtoms "ConeForge" 164 "java/lang/ArithmeticException" xIAE))
def XST : List (Nat × String) := [(67, "m is 1 to 5, n is 1 to 8"), (76, "what is 0 to 2"), (82, "v is 0, or 1e-6 to 1000 in size"), (112, "a byte is 0, 10 or 32 to 126"), (119, "the text has at most 300 characters"), (130, "the text is no problem"), (142, "turns are 1 to 100"), (162, "the matrix is singular"), (178, "what is 0 to 4"), (199, "what is 0 to 3"), (205, "e is 0 to 1"), (216, "what is 0 to 5"), (221, "what is 0 or 1"), (229, "nothing solved is told"), (233, "no such row or variable")]
def SX (A : Nat → Prop) (U : State) : Prop := ∀ V : State, U.WarmedH V.vm → (∀ q : Nat, q < U.heap.size → ¬ A q → V.heap[q]? = U.heap[q]?) → U.heap.size ≤ V.heap.size → (∀ w ∈ XAT, ∀ a : Array Value, w.before a V = true) ∧ ∀ q ∈ XST, ∃ sa : Addr, vk_R "ConeForge" q.1 q.2 sa V
theorem SX.later {A B : Nat → Prop} {s U : State} (h : SX A s) (hW : s.WarmedH U.vm) (hk : ∀ q : Nat, q < s.heap.size → ¬ A q → U.heap[q]? = s.heap[q]?) (hz : s.heap.size ≤ U.heap.size) (hB : ∀ q : Nat, q < s.heap.size → B q → A q) : SX B U := by
  intro V hV h1 h2
  refine h V (State.WarmedH.trans hW hV) (fun q hq hA => ?_) (Nat.le_trans hz h2)
  rw [h1 q (Nat.lt_of_lt_of_le hq hz) (fun hb => hA (hB q hq hb))]
  exact hk q hq hA
def rmx (fr lo mc ms : Nat) : Room := { frames := fr, cells := mc, slots := ms, locals := lo }
def cxP (D : va_G) (T : Nat → ClassId) (sz : Nat) (ws : va_W) (U : State) : Prop := cfP D T sz ws U ∧ SX (va_A ws sz) U
theorem cxP_blind {av : List Value} {D : va_G} {T : Nat → ClassId} {sz : Nat} {ws : va_W} : FrameBlind (va_Pc av (cxP D T sz ws)) := by
  intro a U g mk q
  obtain ⟨q0, q1, q2⟩ := q
  obtain ⟨-, r⟩ := cfP_blind (av := av) (D := D) (T := T) (sz := sz) (ws := ws) a U g mk ⟨q0, q1⟩
  exact ⟨q0, r, fun V h1 h2 h3 => q2 V h1 h2 h3⟩
def cxQi {EX RT : Type} (D : va_G) (vr : RT → Int32) (wr : RT → va_W) (rm : EX ⊕ RT) (A : Nat → Prop) := va_Qi (fun q (_ : Unit) => ∃ y, rm = .inr y ∧ q = vr y) (fun _ t => ∃ y, rm = .inr y ∧ va_P D CL (wr y) t.heap) A
def cxQd {EX RT : Type} (D : va_G) (vr : RT → UInt64) (wr : RT → va_W) (rm : EX ⊕ RT) (A : Nat → Prop) := va_Qd (fun q (_ : Unit) => ∃ y, rm = .inr y ∧ q = vr y) (fun _ t => ∃ y, rm = .inr y ∧ va_P D CL (wr y) t.heap) A
def cxQv {EX RT : Type} (D : va_G) (wr : RT → va_W) (rm : EX ⊕ RT) (A : Nat → Prop) := va_Qv (fun (_ : Unit) => ∃ y, rm = .inr y) (fun _ t => ∃ y, rm = .inr y ∧ va_P D CL (wr y) t.heap) A
def cxX {EX RT : Type} (D : va_G) (ex : EX → String) (wx : EX → va_W) (rm : EX ⊕ RT) (A : Nat → Prop) : String → State → State → Prop := fun E st t => ∃ x, rm = .inl x ∧ ex x = E ∧ va_P D CL (wx x) t.heap ∧ va_F A st t
/-- what stands at the entry of a method that may throw -/
def cxBody (l : Launch) (y : MethodName) (wsY : List Cond) (cc : ByteArray) (nL : Nat) (ret : Option FieldType) (fr lo mc ms : Nat) (D : va_G) (T : Nat → ClassId) (av : List Value) (w : va_W) (Qc : (Nat → Prop) → Array Value → State → Outcome → State → Prop) (XC : (Nat → Prop) → String → State → State → Prop) : Prop :=
  ∀ (p : Program) (e : Env) (s : State) (m : MethodId) (args : Array Value) (below : List Frame) (meth : Method) (c : Code) (A : Nat → Prop) (Q : State → Prop) (H : Heap) (locs : List Loc) (ls : Array Slot),
    p.tables.exec = Jvm.exec → c.code = cc → meth.sig.returnType = ret → meth.locks = false → c.maxLocals = nL → s.vm.findClass y.cls = some m.cls → (∀ w ∈ wsY, w.before args s = true) → NW s → va_K D CL (tyL T) s →
    (∀ q : Nat, s.heap.size ≤ q → A q) → Q = MQX below (Qc A) (XC A) args s mc ms A → va_P D CL w H → va_D A w → va_S A s.heap H locs → lv_has ls nL (lv_args 0 av) → SX A s → (∀ x ∈ c.exceptionTable.toList, False) →
    W p l e (rmx fr lo mc ms) s m args below meth c H locs 0 0 Q (F0 m 0 ls [])
theorem cx_entry {l : Launch} {y : MethodName} {wsY ws' : List Cond} {cc : ByteArray} {nL : Nat} {ret : Option FieldType} {fr lo mc ms : Nat} {D : va_G} {T : Nat → ClassId} {av : List Value} {w : va_W} {Qc : (Nat → Prop) → Array Value → State → Outcome → State → Prop} {XC : (Nat → Prop) → String → State → State → Prop}
    (hy : plainName y.cls = true) (hw : wsY = Cond.code y cc nL ret :: ws') (hlen : (lg_sl av).length ≤ nL) (body : cxBody l y wsY cc nL ret fr lo mc ms D T av w Qc XC) (sz : Nat) :
    MetX l y wsY (rmx fr lo mc ms) (va_Pc av (cxP D T sz w)) (Qc (va_A w sz)) (XC (va_A w sz)) mc ms (va_A w sz) := by
  refine MetX.ofW (cc := cc) (maxL := nL) (ret := ret) hy hw ?_
  intro p e s m args below meth c s₁ B hml hno hv
  obtain ⟨rfl, ⟨hsz, hP, hK, hD0, hN⟩, hX⟩ := hv
  have hts := atoms_spec (ws := wsY) B.pre
  have hown : s.vm.findClass y.cls = some m.cls := findClass_of_methodNamed B.named
  subst hsz
  have hl := lv_entry av (n := nL) hlen
  rw [lg_entry_eq]
  exact body p e s m _ below meth c (va_A w s.heap.size) _ _ _ _ B.exec B.bytes B.returns B.notSynchronized hml hown hts hN hK (fun q h => Or.inr h) rfl hP (hD0.self (sz := s.heap.size)) va_S.rf hl hX hno
section CX3
variable {p : Program} {l : Launch} {e : Env} {R : Room} {s : State} {m : MethodId} {args : Array Value} {below : List Frame} {meth : Method} {c : Code} {H : Heap} {locs : List Loc} {cells slots mc ms : Nat} {Q : State → Prop}
variable {cc : ByteArray} {pc : Nat} {ls : Array Slot} {rest : List Value} {D : va_G} {T : Nat → ClassId} {A : Nat → Prop} {EX RT : Type} {ex : EX → String} {wx : EX → va_W} {rm : EX ⊕ RT}
theorem xrtI {vr : RT → Int32} {wr : RT → va_W} {res : RT} {v : Int32} {ww : va_W} (hx : p.tables.exec = Jvm.exec) (hb : c.code = cc) (hr : meth.sig.returnType = some .int) (hlocks : meth.locks = false)
    (hQ : Q = MQX below (cxQi D vr wr rm A) (cxX D ex wx rm A) args s mc ms A) (hres : .inr res = rm) (hP : va_P D CL ww H) (hS : va_S A s.heap H locs) (hdg : decode cc pc = .ok (.ireturn, 1)) (hv : v = vr res) (hw : ww = wr res) (hc : cells ≤ mc) (hs : slots ≤ ms) :
    W p l e R s m args below meth c H locs cells slots Q (F0 m pc ls [.int v]) := by
  subst hQ; subst hres; subst hv; subst hw
  refine W.widen hc hs (cx_weak (fun t h => cx_ret h) ?_)
  exact W.iret hx hb hr (fun t ht hW => ⟨⟨vr res, (), rfl, ⟨res, rfl, rfl⟩, ⟨res, rfl, by rw [ht]; exact hP⟩⟩, hS.F ht⟩) hS.2.2 hdg
theorem xrtZ {vr : RT → Int32} {wr : RT → va_W} {res : RT} {v : Int32} {ww : va_W} (hx : p.tables.exec = Jvm.exec) (hb : c.code = cc) (hr : meth.sig.returnType = some .boolean) (hlocks : meth.locks = false) (hg : isb v = true)
    (hQ : Q = MQX below (cxQi D vr wr rm A) (cxX D ex wx rm A) args s mc ms A) (hres : .inr res = rm) (hP : va_P D CL ww H) (hS : va_S A s.heap H locs) (hdg : decode cc pc = .ok (.ireturn, 1)) (hv : v = vr res) (hw : ww = wr res) (hc : cells ≤ mc) (hs : slots ≤ ms) :
    W p l e R s m args below meth c H locs cells slots Q (F0 m pc ls [.int v]) := by
  subst hQ; subst hres; subst hv; subst hw
  refine W.widen hc hs (cx_weak (fun t h => cx_ret h) ?_)
  exact W.zret hx hb hr (isb_n hg) (fun t ht hW => ⟨⟨vr res, (), rfl, ⟨res, rfl, rfl⟩, ⟨res, rfl, by rw [ht]; exact hP⟩⟩, hS.F ht⟩) hS.2.2 hdg
theorem xrtD {vr : RT → UInt64} {wr : RT → va_W} {res : RT} {v : UInt64} {ww : va_W} (hx : p.tables.exec = Jvm.exec) (hb : c.code = cc) (hr : meth.sig.returnType = some .double) (hlocks : meth.locks = false)
    (hQ : Q = MQX below (cxQd D vr wr rm A) (cxX D ex wx rm A) args s mc ms A) (hres : .inr res = rm) (hP : va_P D CL ww H) (hS : va_S A s.heap H locs) (hdg : decode cc pc = .ok (.dreturn, 1)) (hv : v = vr res) (hw : ww = wr res) (hc : cells ≤ mc) (hs : slots ≤ ms) :
    W p l e R s m args below meth c H locs cells slots Q (F0 m pc ls [.double v]) := by
  subst hQ; subst hres; subst hv; subst hw
  refine W.widen hc hs (cx_weak (fun t h => cx_ret h) ?_)
  exact W.dret hx hb hr (fun t ht hW => ⟨⟨vr res, (), rfl, ⟨res, rfl, rfl⟩, ⟨res, rfl, by rw [ht]; exact hP⟩⟩, hS.F ht⟩) hS.2.2 hdg
theorem xrtV {wr : RT → va_W} {res : RT} {ww : va_W} (hx : p.tables.exec = Jvm.exec) (hb : c.code = cc) (hr : meth.sig.returnType = none) (hlocks : meth.locks = false)
    (hQ : Q = MQX below (cxQv D wr rm A) (cxX D ex wx rm A) args s mc ms A) (hres : .inr res = rm) (hP : va_P D CL ww H) (hS : va_S A s.heap H locs) (hdg : decode cc pc = .ok (.return_, 1)) (hw : ww = wr res) (hc : cells ≤ mc) (hs : slots ≤ ms) :
    W p l e R s m args below meth c H locs cells slots Q (F0 m pc ls []) := by
  subst hQ; subst hres; subst hw
  refine W.widen hc hs (cx_weak (fun t h => cx_ret h) ?_)
  exact W.vret hx hb hr (fun t ht hW => ⟨⟨(), rfl, ⟨res, rfl⟩, ⟨res, rfl, by rw [ht]; exact hP⟩⟩, hS.F ht⟩) hS.2.2 hdg
theorem xF {st t : State} {H1 : Heap} (hS : va_S A st.heap H1 locs) (h1 : H1.size ≤ t.heap.size) (h2 : ∀ q : Nat, q < H1.size → t.heap[q]? = H1[q]?) : va_F A st t :=
  ⟨Nat.le_trans hS.1 h1, fun q hq hA => (h2 q (Nat.lt_of_lt_of_le hq hS.1)).trans (hS.2.1 q hq hA)⟩
theorem xthrow {Qc : Array Value → State → Outcome → State → Prop} {res : EX} {ww : va_W} (hx : p.tables.exec = Jvm.exec) (hb : c.code = cc) (htr : l.stackTraces = false) {cls text : String} {ik is ic : Nat}
    (hown : s.vm.findClass "ConeForge" = some m.cls) (hcls : Bundle.fit cls = true) (hk : (Cond.classLink "ConeForge" ik cls).before args s = true) (hini : (Cond.initialized cls).before args s = true) (hst : (is, text) ∈ XST) (hxa : ∀ w ∈ Bundle.ownAtoms "ConeForge" ic cls xIAE, w ∈ XAT) (hSX : SX A s)
    (hQ : Q = MQX below Qc (cxX D ex wx rm A) args s mc ms A) (hres : .inl res = rm) (hex : ex res = cls) (hP : va_P D CL ww H) (hS : va_S A s.heap H locs) (hw : ww = wx res) (hsize : ls.size = c.maxLocals) (hno : ∀ x ∈ c.exceptionTable.toList, False) (hlocks : meth.locks = false)
    (d0 : decode cc pc = .ok (.new ik, 3)) (d3 : decode cc (pc + 3) = .ok (.dup, 1)) (d4 : decode cc (pc + 4) = .ok (.ldc is, 2)) (d6 : decode cc (pc + 6) = .ok (.invokespecial ic, 3)) (d9 : decode cc (pc + 9) = .ok (.athrow, 1))
    (hRf : 5 < R.frames) (hRl : (rest.map fun v => v.category).sum + 82 ≤ R.locals) (hRc : cells + 1 ≤ R.cells) (hRs : slots + 6 ≤ R.slots) (hc : cells + 1 ≤ mc) (hs : slots + 6 ≤ ms) :
    W p l e R s m args below meth c H locs cells slots Q (F0 m pc ls rest) := by
  subst hQ; subst hres; subst hw
  obtain ⟨-, hS0⟩ := hSX s (State.WarmedH.refl s) (fun _ _ _ => rfl) (Nat.le_refl _)
  obtain ⟨sa, hsa⟩ := hS0 _ hst
  refine cx_throw hx hb htr (names := xIAE) hown hcls (by decide) hk hini hsa (fun U hU w hw => ?_) d0 d3 d4 d6 d9 hsize hno hlocks hRf hRl hRc hRs hc hs hS.2.2 (fun t h1 h2 => ⟨res, rfl, hex, hP.kept (fun k q hq => h2 q.1 (hP k q hq).lt), xF hS h1 h2⟩)
  exact (hSX (cxNow s U) (State.WarmedH.refl s) (fun q h1 h2 => by show U.heap[q]? = _; rw [hU]; exact hS.2.1 q h1 h2) (by show s.heap.size ≤ U.heap.size; rw [hU]; exact hS.1)).1 w (hxa w hw) args
/-- an exception lies over the frame -/
def WT (p : Program) (l : Launch) (e : Env) (R : Room) (s : State) (m : MethodId) (args : Array Value) (below : List Frame) (meth : Method) (c : Code) (H : Heap) (locs : List Loc) (cells slots : Nat) (Q : State → Prop) (g : JFrame) (x : Addr) : Prop :=
  ∀ T : State, T.heap = H → Stand p l e R s m args below meth c T locs cells slots → ∃ t, Steps p.tables e below ((T.setTop g).pushFrame (.throwing x)) t ∧ Q t
/-- it goes on to the caller -/
theorem xout {Qc : Array Value → State → Outcome → State → Prop} {res : EX} {ww : va_W} {x : Addr} {ce : Cell} {E : String} (hno : ∀ x ∈ c.exceptionTable.toList, False) (hlocks : meth.locks = false)
    (hQ : Q = MQX below Qc (cxX D ex wx rm A) args s mc ms A) (hres : .inl res = rm) (hex : ex res = E) (hP : va_P D CL ww H) (hS : va_S A s.heap H locs) (hw : ww = wx res) (hce : H[x]? = some ce) (hcv : ce.vm = .none) (hcl : s.vm.findClass E = some ce.cls) (hc : cells ≤ mc) (hs : slots ≤ ms) :
    WT p l e R s m args below meth c H locs cells slots Q (F0 m pc ls rest) x := by
  subst hQ; subst hres; subst hw
  intro T hT X
  obtain ⟨st1, hrun, hend, hW, hsm⟩ := X.leaveThrown x (g := F0 m pc ls rest) rfl rfl rfl (fun y hy => (hno y hy).elim) hlocks
  refine ⟨_, st1, .threw x, hrun, hend, Or.inr ⟨x, ce, E, locs, rfl, ?_, hcv, hcl, ⟨res, rfl, hex, ?_, ?_⟩, hW, hsm.mono hc hs, hS.2.2⟩⟩
  · show T.heap[x]? = some ce
    rw [hT]; exact hce
  · show va_P D CL (wx res) T.heap
    rw [hT]; exact hP
  · refine xF hS ?_ ?_
    · show H.size ≤ T.heap.size
      rw [hT]
      exact Nat.le_refl _
    · intro q hq
      show T.heap[q]? = H[q]?
      rw [hT]
end CX3
