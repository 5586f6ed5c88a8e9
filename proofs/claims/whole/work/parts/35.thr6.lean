/-! the law's own methods: they catch -/
def clP (D : va_G) (T : Nat → ClassId) (sz : Nat) (ws : va_W) (U : State) : Prop := cxP D T sz ws U ∧ XNC U
theorem clP_blind {av : List Value} {D : va_G} {T : Nat → ClassId} {sz : Nat} {ws : va_W} : FrameBlind (va_Pc av (clP D T sz ws)) := by
  intro a U g mk q
  obtain ⟨q0, q1, q2⟩ := q
  obtain ⟨-, r⟩ := cxP_blind (av := av) (D := D) (T := T) (sz := sz) (ws := ws) a U g mk ⟨q0, q1⟩
  exact ⟨q0, r, XNC.moved (u := U) (U := U.calling g mk a) (Vm.Alike.refl U.vm) q2⟩
def CwI {RT : Type} (l : Launch) (y : MethodName) (wsY : List Cond) (fr lo mc ms : Nat) (D : va_G) (T : Nat → ClassId) (av : List Value) (w : va_W) (vr : RT → Int32) (wr : RT → va_W) (rm : RT) : Prop :=
  ∀ sz : Nat, Met l y wsY (rmx fr lo mc ms) (va_Pc av (clP D T sz w)) (cfQi D vr wr rm (va_A w sz)) mc ms (va_A w sz)
def clBody (l : Launch) (y : MethodName) (wsY : List Cond) (cc : ByteArray) (nL : Nat) (ret : Option FieldType) (hh : List (Nat × Nat × Nat × Nat)) (fr lo mc ms : Nat) (D : va_G) (T : Nat → ClassId) (av : List Value) (w : va_W) (Qc : (Nat → Prop) → Array Value → State → Outcome → State → Prop) : Prop :=
  ∀ (p : Program) (e : Env) (s : State) (m : MethodId) (args : Array Value) (below : List Frame) (meth : Method) (c : Code) (A : Nat → Prop) (Q : State → Prop) (H : Heap) (locs : List Loc) (ls : Array Slot),
    p.tables.exec = Jvm.exec → c.code = cc → meth.sig.returnType = ret → meth.locks = false → c.maxLocals = nL → s.vm.findClass y.cls = some m.cls → (∀ w ∈ wsY, w.before args s = true) → NW s → va_K D CL (tyL T) s →
    (∀ q : Nat, s.heap.size ≤ q → A q) → Q = MQ below (Qc A) args s mc ms A → va_P D CL w H → va_D A w → va_S A s.heap H locs → lv_has ls nL (lv_args 0 av) → SX A s → XNC s → c.exceptionTable.toList.map (fun h => (h.startPc, h.endPc, h.handlerPc, h.catchType)) = hh →
    W p l e (rmx fr lo mc ms) s m args below meth c H locs 0 0 Q (F0 m 0 ls [])
theorem cl_entry {l : Launch} {y : MethodName} {wsY ws' : List Cond} {cc : ByteArray} {nL : Nat} {ret : Option FieldType} {hh : List (Nat × Nat × Nat × Nat)} {fr lo mc ms : Nat} {D : va_G} {T : Nat → ClassId} {av : List Value} {w : va_W} {Qc : (Nat → Prop) → Array Value → State → Outcome → State → Prop}
    (hy : plainName y.cls = true) (hw : wsY = Cond.codeWith y cc nL ret hh :: ws') (hlen : (lg_sl av).length ≤ nL) (body : clBody l y wsY cc nL ret hh fr lo mc ms D T av w Qc) (sz : Nat) :
    Met l y wsY (rmx fr lo mc ms) (va_Pc av (clP D T sz w)) (Qc (va_A w sz)) mc ms (va_A w sz) := by
  refine va_MetW (cc := cc) (maxL := nL) (ret := ret) (hh := hh) hy hw ?_
  intro p e s m args below meth c s₁ B hml hv
  obtain ⟨rfl, ⟨⟨hsz, hP, hK, hD0, hN⟩, hX⟩, hNC⟩ := hv
  have hts := atoms_spec (ws := wsY) B.pre
  have hown : s.vm.findClass y.cls = some m.cls := findClass_of_methodNamed B.named
  have htab : c.exceptionTable.toList.map (fun h => (h.startPc, h.endPc, h.handlerPc, h.catchType)) = hh := by
    obtain ⟨m9, meth9, c9, hn9, h1, h2, -, -, h5, -⟩ := Cond.codeWith_spec (hts _ (by rw [hw]; exact List.mem_cons_self))
    cases hn9.symm.trans B.named
    cases h1.symm.trans B.method
    cases h2.symm.trans (Stand.of_body B).code
    exact h5
  subst hsz
  have hl := lv_entry av (n := nL) hlen
  rw [lg_entry_eq]
  exact body p e s m _ below meth c (va_A w s.heap.size) _ _ _ _ B.exec B.bytes B.returns B.notSynchronized hml hown hts hN hK (fun q h => Or.inr h) rfl hP (hD0.self (sz := s.heap.size)) va_S.rf hl hX hNC htab
section CL1
variable {p : Program} {l : Launch} {e : Env} {R : Room} {s : State} {m : MethodId} {args : Array Value} {below : List Frame} {meth : Method} {c : Code} {H : Heap} {locs : List Loc} {cells slots mc ms : Nat} {Q : State → Prop}
variable {cc : ByteArray} {pc : Nat} {ls : Array Slot} {rest As st0 : List Value} {D : va_G} {T : Nat → ClassId} {A : Nat → Prop} {ws wc wc' : va_W} {a : Array Value}
theorem lrtI {RT : Type} {vr : RT → Int32} {wr : RT → va_W} {rm res : RT} {v : Int32} {ww : va_W} (hx : p.tables.exec = Jvm.exec) (hb : c.code = cc) (hr : meth.sig.returnType = some .int) (hlocks : meth.locks = false)
    (hQ : Q = MQ below (cfQi D vr wr rm A) args s mc ms A) (hres : res = rm) (hP : va_P D CL ww H) (hS : va_S A s.heap H locs) (hdg : decode cc pc = .ok (.ireturn, 1)) (hv : v = vr res) (hw : ww = wr res) (hc : cells ≤ mc) (hs : slots ≤ ms) :
    W p l e R s m args below meth c H locs cells slots Q (F0 m pc ls [.int v]) := by
  subst hQ; subst hres; subst hv; subst hw
  refine W.widen hc hs ?_
  exact W.iret hx hb hr (fun t ht hW => ⟨⟨vr res, (), rfl, rfl, by show va_P D CL (wr res) t.heap; rw [ht]; exact hP⟩, hS.F ht⟩) hS.2.2 hdg
theorem xcatch2 {cell : Cell} {hp : Nat} {x : Addr} (hcell : H[x]? = some cell) (hf : e.platform.magicAccessors = ({} : Platform).magicAccessors → FV e s m pc cell c.exceptionTable.toList hp) (kk : W p l e R s m args below meth c H locs cells slots Q (F0 m hp ls [.ref x])) :
    WT p l e R s m args below meth c H locs cells slots Q (F0 m pc ls rest) x := by
  intro T0 hT X
  exact xcatch hcell (hf (by rw [X.admits.platform])) kk T0 hT X
variable {cd : Cond} {own : String} {idx maxL fr lo n nL b : Nat} {y : MethodName} {bytes : ByteArray} {ret : Option FieldType} {hh : List (Nat × Nat × Nat × Nat)} {wsY : List Cond} {Qc : Array Value → State → Outcome → State → Prop} {free : Addr → Prop}
theorem cl_pre (hN : NW s) (hK : va_K D CL (tyL T) s) (hSX : SX A s) (hNC : XNC s) (hP : va_P D CL ws H) (hD : va_D A ws) (hS : va_S A s.heap H locs) (hA : ∀ q : Nat, s.heap.size ≤ q → A q) (ks : List Nat) (hks : ks.map (fun i => ws[i]?) = wc.map some) (hnd : va_nd ks = true) (av : List Value) :
    ∀ U : State, U.heap = H → s.WarmedH U.vm → va_Pc av (clP D T H.size wc) av.toArray U := fun U hU hW =>
  ⟨rfl, (cx_pre hN hK hSX hP hD hS hA ks hks hnd av U hU hW).2, hNC.moved hW.alike⟩
/-- a call of such a method -/
theorem runLS (hM : Met l y wsY (rmx fr lo mc ms) (va_Pc As (clP D T H.size wc)) Qc mc ms free) (S : CallFix p m c cc nL s args (cd :: BIG) own) (hw : wsY = Cond.codeWith y bytes maxL ret hh :: BIG)
    (m1 : Cond.methodLink own idx y ∈ BIG) (m2 : Cond.static y ∈ BIG) (m4 : Cond.initialized y.cls ∈ BIG) (hcw : (Cond.codeWith y bytes maxL ret hh).before args s = true)
    (hd : y.cls ≠ "java/lang/invoke/MethodHandle" ∧ y.cls ≠ "java/lang/invoke/VarHandle" ∧ (parseMethodDescriptor y.desc).map (fun d => d.parameters.length) = some n) (hRm : fr + 1 ≤ R.frames ∧ 8 + (maxL + 11) + lo ≤ R.locals)
    (hSX : SX A s) (hNC : XNC s) (hS : va_S A s.heap H locs) (hA : ∀ q : Nat, s.heap.size ≤ q → A q) (hN : NW s) (hK : va_K D CL (tyL T) s) (hP : va_P D CL ws H) (hD : va_D A ws) (ks : List Nat) (hks : ks.map (fun i => ws[i]?) = wc.map some) (hnd : va_nd ks = true)
    (hn : As.length = n) (hsize : ls.size = nL) (hstack : st0 = As.reverse ++ rest) (hW : 2 * (F0 m pc ls st0).monitorRoom + (rest.map fun v => v.category).sum ≤ 8) (hdg : decode cc pc = .ok (.invokestatic idx, 3)) (hf : cells + mc ≤ R.cells ∧ slots + ms ≤ R.slots) :
    va_Run p l e R s m args below meth c H locs cells slots mc ms (F0 m pc ls st0) rest (Qc As.toArray) free := by
  obtain ⟨hx, hb, hml, ho, hts⟩ := S
  have hgood : ∀ w ∈ wsY, ∀ (a' : Array Value) (U : State), s.WarmedH U.vm → w.before a' U = true := fun w h a' U hW => by
    rw [hw] at h
    rcases List.mem_cons.mp h with h | h
    · rw [h]
      exact word_at hW (Or.inl (by first | rfl | simp [Cond.onTables, Cond.keeps, Cond.steady])) hcw
    · exact word_at hW (good_of_word (List.all_eq_true.mp BIG_good w h)) (hts w (bgc h))
  have hini := hts _ (bgc m4)
  have hK9 : Back l R p e below s args y 3 8 (PreOf R mc ms (va_Pc As (clP D T H.size wc))) (PostOf Qc mc ms free) := va_backW (hh := hh) (bytes := bytes) (maxL := maxL) (ret := ret) hM clP_blind rfl rfl hRm.1 hRm.2 hgood (by rw [hw]; exact List.mem_cons_self) (fun a' U hW => word_at hW (Or.inl (by first | rfl | simp [Cond.onTables, Cond.keeps, Cond.steady])) hini)
  intro T0 hT X
  obtain ⟨mk, methM, cM, hnamed, hmethM, -, -, -, -, -, -, hsigM⟩ := Cond.codeWith_spec hcw
  have hstatic : methM.isStatic = true := Cond.static_spec hnamed hmethM (hts _ (bgc m2))
  obtain ⟨kP, hkP, -⟩ := className_of_methodNamed hnamed
  have hinitP : kP.init = .initialized := Cond.initialized_spec (findClass_of_methodNamed hnamed) hkP hini
  have hlen : As.length = methM.sig.parameters.length := by
    have h2 := hd.2.2
    rw [hsigM] at h2
    rw [hn]
    exact (Option.some.inj h2).symm
  obtain ⟨vm₁, X₁, hstep₁⟩ := X.invokestatic hx ho (hts _ (bgc m1)) hnamed hmethM hstatic hkP hinitP ⟨hd.1, hd.2.1⟩ (g := F0 m pc ls st0) rfl (argsL := As) (rest := rest) hlen hstack (by rw [hb]; exact hdg)
  obtain ⟨v, ⟨U', l2, c2, s2⟩, X', ⟨g', mk', t, L, e1, e2, hq, h1, hL, h2, h3⟩, hsteps⟩ := hK9 m meth c ⟨T0.setVm vm₁, locs, cells, slots⟩ (F0 m pc ls rest) (.invokestatic idx) mk As.toArray X₁ rfl (hsize.trans hml.symm) (by rw [hb]; exact hdg) hW (X₁.named hnamed)
    ⟨hf.1, hf.2, cl_pre hN hK hSX hNC hP hD hS hA ks hks hnd As (T0.setVm vm₁) hT X₁.warmed⟩
  dsimp only [Pt.U, Pt.locs, Pt.cells, Pt.slots] at X' e1 e2 h1 h2 h3 hsteps
  subst h1; subst h2; subst h3
  exact ⟨v, (T0.setVm vm₁).calling g' mk' As.toArray, t, U', L, hT, X', hL, e1, e2, hq, fun target h => hstep₁ _ fun acts => by rw [doInvoke_state]; exact hsteps.trans h⟩
theorem kI3 {v : Int32} (ws' : va_W) (hr : va_Run p l e R s m args below meth c H locs cells slots mc ms (F0 m pc ls st0) rest (va_Qi (fun q (_ : Unit) => q = v) (fun _ t => va_P D CL wc' t.heap) (va_A wc H.size) a) (va_A wc H.size)) (hP : va_P D CL ws H) (hD : va_D A ws) (hS : va_S A s.heap H locs) (hA : ∀ q : Nat, s.heap.size ≤ q → A q)
    (ks isR : List Nat) (hks : ks.map (fun i => ws[i]?) = wc.map some) (hks' : ks.map (fun i => ws'[i]?) = wc'.map some) (hR : isR.map (fun i => ws[i]?) = isR.map (fun i => ws'[i]?)) {N : Nat} (hlen : ws'.length = N) (hcov : (List.range N).all (fun i => ks.contains i || isR.contains i) = true) (hfst : wc'.map Prod.fst = wc.map Prod.fst)
    (kk : ∀ (H1 : Heap) (locs1 : List Loc), va_P D CL ws' H1 → va_D A ws' → va_S A s.heap H1 locs1 → W p l e R s m args below meth c H1 locs1 (cells + mc) (slots + ms) Q (F0 m (pc + 3) ls (.int v :: rest))) : W p l e R s m args below meth c H locs cells slots Q (F0 m pc ls st0) := by
  have hF := va_free hD hS hA ks hks
  refine va_calli hr hS (fun q _ h => hF q h) hF (fun r u t H1 locs1 ht hvm hw hB hz hk hS => ?_)
  subst hw
  rw [ht] at hB
  obtain ⟨hP', hD'⟩ := cf_join2 hP hD ks isR hks hks' hR hlen hcov hfst hk hB
  exact kk H1 locs1 hP' hD' hS
end CL1
