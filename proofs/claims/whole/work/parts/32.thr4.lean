/-! calls of methods that may throw -/
section CX4
variable {p : Program} {l : Launch} {e : Env} {R : Room} {s : State} {m : MethodId} {args : Array Value} {below : List Frame} {meth : Method} {c : Code} {H : Heap} {locs : List Loc} {cells slots mc ms : Nat} {Q : State → Prop}
variable {cc : ByteArray} {pc : Nat} {ls : Array Slot} {rest As st0 : List Value} {D : va_G} {T : Nat → ClassId} {A : Nat → Prop} {cd : Cond} {own : String} {idx maxL fr lo n nL b : Nat} {y : MethodName} {bytes : ByteArray} {ret : Option FieldType} {wsY : List Cond} {ws wc : va_W}
variable {Qc : Array Value → State → Outcome → State → Prop} {XC : String → State → State → Prop} {free : Addr → Prop}
def xRun (p : Program) (l : Launch) (e : Env) (R : Room) (s : State) (m : MethodId) (args : Array Value) (below : List Frame) (meth : Method) (c : Code) (H : Heap) (locs : List Loc) (cells slots mc ms : Nat) (g : JFrame) (rest : List Value) (Qa : State → Outcome → State → Prop) (Xa : String → State → State → Prop) (free : Addr → Prop) : Prop :=
  ∀ T : State, T.heap = H → Stand p l e R s m args below meth c T locs cells slots →
    (∃ (v : Option Value) (st₀ t T' : State) (L : List Loc), st₀.heap = H ∧ Stand p l e R s m args below meth c T' (locs ++ L) (cells + mc) (slots + ms) ∧ (∀ q ∈ L, free q.base) ∧ T'.heap = t.heap ∧ Qa st₀ (.returned v) t ∧
      ∀ target, Steps p.tables e below (T'.setTop { g with pc := g.pc + 3, stack := v.toList ++ rest }) target → Steps p.tables e below (T.setTop g) target) ∨
    ∃ (x : Addr) (ce : Cell) (E : String) (st₀ t T' : State) (L : List Loc), st₀.heap = H ∧ Stand p l e R s m args below meth c T' (locs ++ L) (cells + mc) (slots + ms) ∧ (∀ q ∈ L, free q.base) ∧ T'.heap = t.heap ∧ Xa E st₀ t ∧ t.heap[x]? = some ce ∧ ce.vm = .none ∧ s.vm.findClass E = some ce.cls ∧
      ∀ target, Steps p.tables e below ((T'.setTop { g with stack := rest }).pushFrame (.throwing x)) target → Steps p.tables e below (T.setTop g) target
theorem xwOV (m1 : Cond.methodLink own idx y ∈ BIG) (m2 : Cond.instanceMethod y ∈ BIG) (m3 : Cond.selects y.cls y y ∈ BIG) (m4 : Cond.initialized y.cls ∈ BIG) (m5 : Cond.code y bytes maxL ret ∈ BIG)
    (hd : y.cls ≠ "java/lang/invoke/MethodHandle" ∧ y.cls ≠ "java/lang/invoke/VarHandle" ∧ (parseMethodDescriptor y.desc).map (fun d => d.parameters.length) = some n) (ht : ∀ w ∈ cd :: BIG, w.before args s = true) (hR : fr + 1 ≤ R.frames ∧ 8 + (maxL + 11) + lo ≤ R.locals) :
    CallW R s args own y.cls idx y bytes maxL ret (Cond.code y bytes maxL ret :: BIG) (rmx fr lo mc ms) mc ms n :=
  ⟨callB_of n ht (good_cons m5) rfl rfl rfl (ht _ (bgc m4)) (ht _ (bgc m1)) hd hR, ht _ (bgc m2), ht _ (bgc m3)⟩
theorem xwOS (m1 : Cond.methodLink own idx y ∈ BIG) (m2 : Cond.static y ∈ BIG) (m4 : Cond.initialized y.cls ∈ BIG) (m5 : Cond.code y bytes maxL ret ∈ BIG)
    (hd : y.cls ≠ "java/lang/invoke/MethodHandle" ∧ y.cls ≠ "java/lang/invoke/VarHandle" ∧ (parseMethodDescriptor y.desc).map (fun d => d.parameters.length) = some n) (ht : ∀ w ∈ cd :: BIG, w.before args s = true) (hR : fr + 1 ≤ R.frames ∧ 8 + (maxL + 11) + lo ≤ R.locals) :
    CallB R s args own idx y bytes maxL ret (Cond.code y bytes maxL ret :: BIG) (rmx fr lo mc ms) mc ms n ∧ (Cond.static y).before args s = true :=
  ⟨callB_of n ht (good_cons m5) rfl rfl rfl (ht _ (bgc m4)) (ht _ (bgc m1)) hd hR, ht _ (bgc m2)⟩
theorem cx_pre (hN : NW s) (hK : va_K D CL (tyL T) s) (hSX : SX A s) (hP : va_P D CL ws H) (hD : va_D A ws) (hS : va_S A s.heap H locs) (hA : ∀ q : Nat, s.heap.size ≤ q → A q) (ks : List Nat) (hks : ks.map (fun i => ws[i]?) = wc.map some) (hnd : va_nd ks = true) (av : List Value) :
    ∀ U : State, U.heap = H → s.WarmedH U.vm → va_Pc av (cxP D T H.size wc) av.toArray U := fun U hU hW =>
  ⟨rfl, (cf_pre hN hK hP hD ks hks hnd av U hU hW).2, hSX.later hW (fun q h1 h2 => by rw [hU]; exact hS.2.1 q h1 h2) (by rw [hU]; exact hS.1) (fun q _ hq => va_free hD hS hA ks hks q hq)⟩
theorem xrunV (hM : MetX l y wsY (rmx fr lo mc ms) (va_Pc (.ref b :: As) (cxP D T H.size wc)) Qc XC mc ms free) (S : CallFix p m c cc nL s args (cd :: BIG) own) (cw : CallW R s args own y.cls idx y bytes maxL ret wsY (rmx fr lo mc ms) mc ms n)
    (rc : ∃ cellB : Cell, H[b]? = some cellB ∧ cellB.vm.isStatics = false ∧ s.vm.findClass y.cls = some cellB.cls) (hSX : SX A s) (hS : va_S A s.heap H locs) (hA : ∀ q : Nat, s.heap.size ≤ q → A q) (hN : NW s) (hK : va_K D CL (tyL T) s) (hP : va_P D CL ws H) (hD : va_D A ws) (ks : List Nat) (hks : ks.map (fun i => ws[i]?) = wc.map some) (hnd : va_nd ks = true)
    (hn : As.length = n) (hsize : ls.size = nL) (hstack : st0 = As.reverse ++ .ref b :: rest) (hW : 2 * (F0 m pc ls st0).monitorRoom + (rest.map fun v => v.category).sum ≤ 8) (hdg : decode cc pc = .ok (.invokevirtual idx, 3)) (hf : cells + mc ≤ R.cells ∧ slots + ms ≤ R.slots) :
    xRun p l e R s m args below meth c H locs cells slots mc ms (F0 m pc ls st0) rest (Qc (Value.ref b :: As).toArray) XC free := by
  obtain ⟨⟨hrc, hrs, hfr, hlo, hws, hcw, hcode, hini, hy, hlen, hl⟩, hin, hse⟩ := cw
  obtain ⟨hx, hb, hml, ho, -⟩ := S
  obtain ⟨cellB, hcB, hoB, hclB⟩ := rc
  intro T0 hT X
  obtain ⟨mk, methM, hnamed, hmethM, hstM, habM⟩ := Cond.instanceMethod_spec hin
  obtain ⟨methM', cM, hmethM', -, -, -, -, -, -, hsigM⟩ := Cond.code_spec hnamed hcode
  cases hmethM.symm.trans hmethM'
  obtain ⟨c2, r2, m2, q1, q2, q3, q4, kP, hkP, hkPi⟩ := Cond.selects_spec hse
  cases hclB.symm.trans q1
  cases (State.methodFound?_of_named hnamed hy).symm.trans q2
  cases hnamed.symm.trans q3
  have hselP : selectMethod e.platform s.vm cellB.cls mk = .method mk := by rw [Launch.admits_selectMethod X.admits]; exact q4
  obtain ⟨vm₁, X₁, hstep₁⟩ := X.invokevirtual hx ho hl hnamed hmethM hstM hkP hkPi hy (a := b) (cell := cellB) (by rw [hT]; exact hcB)
    (fun z h => by rw [h] at hoB; cases hoB) hselP hmethM habM hkP hkPi (g := F0 m pc ls st0) rfl (argsL := As) (rest := rest) (hn.trans (hlen _ hsigM)) hstack (by rw [hb]; exact hdg)
  have hpre := cx_pre hN hK hSX hP hD hS hA ks hks hnd (.ref b :: As) (T0.setVm vm₁) hT X₁.warmed
  rcases cx_core X₁ hM cxP_blind hrc hrs hfr hlo hws hcw hini (g := F0 m pc ls rest) rfl (hsize.trans hml.symm) (by rw [hb]; exact hdg) hW (X₁.named hnamed) hpre hf.1 hf.2 with ⟨v, t, L, X', hL, hq, st⟩ | ⟨x, ce, E, t, L, X', hL, hXC, hce, hcv, hcl, st⟩
  · exact Or.inl ⟨v, (T0.setVm vm₁).calling (F0 m pc ls rest) mk (Value.ref b :: As).toArray, t, _, L, hT, X', hL, rfl, hq, fun target h => hstep₁ _ fun acts => by rw [doInvoke_state]; exact st.trans h⟩
  · exact Or.inr ⟨x, ce, E, (T0.setVm vm₁).calling (F0 m pc ls rest) mk (Value.ref b :: As).toArray, t, _, L, hT, X', hL, rfl, hXC, hce, hcv, (X₁.warmed.alike.findClass E _).symm.trans hcl, fun target h => hstep₁ _ fun acts => by rw [doInvoke_state]; exact st.trans h⟩
theorem xrunS (hM : MetX l y wsY (rmx fr lo mc ms) (va_Pc As (cxP D T H.size wc)) Qc XC mc ms free) (S : CallFix p m c cc nL s args (cd :: BIG) own) (cw : CallB R s args own idx y bytes maxL ret wsY (rmx fr lo mc ms) mc ms n ∧ (Cond.static y).before args s = true)
    (hSX : SX A s) (hS : va_S A s.heap H locs) (hA : ∀ q : Nat, s.heap.size ≤ q → A q) (hN : NW s) (hK : va_K D CL (tyL T) s) (hP : va_P D CL ws H) (hD : va_D A ws) (ks : List Nat) (hks : ks.map (fun i => ws[i]?) = wc.map some) (hnd : va_nd ks = true)
    (hn : As.length = n) (hsize : ls.size = nL) (hstack : st0 = As.reverse ++ rest) (hW : 2 * (F0 m pc ls st0).monitorRoom + (rest.map fun v => v.category).sum ≤ 8) (hdg : decode cc pc = .ok (.invokestatic idx, 3)) (hf : cells + mc ≤ R.cells ∧ slots + ms ≤ R.slots) :
    xRun p l e R s m args below meth c H locs cells slots mc ms (F0 m pc ls st0) rest (Qc As.toArray) XC free := by
  obtain ⟨⟨hrc, hrs, hfr, hlo, hws, hcw, hcode, hini, hy, hlen, hl⟩, hst⟩ := cw
  obtain ⟨hx, hb, hml, ho, -⟩ := S
  intro T0 hT X
  obtain ⟨mk, hnamed⟩ := Cond.code_named hcode
  obtain ⟨methM, cM, hmethM, -, -, -, -, -, -, hsigM⟩ := Cond.code_spec hnamed hcode
  have hstatic : methM.isStatic = true := Cond.static_spec hnamed hmethM hst
  obtain ⟨kP, hkP, -⟩ := className_of_methodNamed hnamed
  have hinitP : kP.init = .initialized := Cond.initialized_spec (findClass_of_methodNamed hnamed) hkP hini
  obtain ⟨vm₁, X₁, hstep₁⟩ := X.invokestatic hx ho hl hnamed hmethM hstatic hkP hinitP hy (g := F0 m pc ls st0) rfl (argsL := As) (rest := rest) (hn.trans (hlen _ hsigM)) hstack (by rw [hb]; exact hdg)
  have hpre := cx_pre hN hK hSX hP hD hS hA ks hks hnd As (T0.setVm vm₁) hT X₁.warmed
  rcases cx_core X₁ hM cxP_blind hrc hrs hfr hlo hws hcw hini (g := F0 m pc ls rest) rfl (hsize.trans hml.symm) (by rw [hb]; exact hdg) hW (X₁.named hnamed) hpre hf.1 hf.2 with ⟨v, t, L, X', hL, hq, st⟩ | ⟨x, ce, E, t, L, X', hL, hXC, hce, hcv, hcl, st⟩
  · exact Or.inl ⟨v, (T0.setVm vm₁).calling (F0 m pc ls rest) mk As.toArray, t, _, L, hT, X', hL, rfl, hq, fun target h => hstep₁ _ fun acts => by rw [doInvoke_state]; exact st.trans h⟩
  · exact Or.inr ⟨x, ce, E, (T0.setVm vm₁).calling (F0 m pc ls rest) mk As.toArray, t, _, L, hT, X', hL, rfl, hXC, hce, hcv, (X₁.warmed.alike.findClass E _).symm.trans hcl, fun target h => hstep₁ _ fun acts => by rw [doInvoke_state]; exact st.trans h⟩
variable {EX RT : Type} {ex : EX → String} {wx : EX → va_W} {wr : RT → va_W} {yy : RT} {xx : EX} {a : Array Value}
theorem x_S {A1 : Nat → Prop} {H1 : Heap} {L : List Loc} (hS : va_S A s.heap H locs) (hz : H.size ≤ H1.size) (hk : ∀ q : Nat, q < H.size → ¬ A1 q → H1[q]? = H[q]?) (hA : ∀ q, A1 q → A q) (hL : ∀ q ∈ L, A1 q.base) : va_S A s.heap H1 (locs ++ L) :=
  ⟨Nat.le_trans hS.1 hz, fun q h1 h2 => by rw [hk q (Nat.lt_of_lt_of_le h1 hS.1) (fun z => h2 (hA q z))]; exact hS.2.1 q h1 h2, fun q hq => by
    rcases List.mem_append.mp hq with h | h
    · exact hS.2.2 q h
    · exact hA _ (hL q h)⟩
theorem xkV (ws' : va_W) (hr : xRun p l e R s m args below meth c H locs cells slots mc ms (F0 m pc ls st0) rest (cxQv D wr (.inr yy : EX ⊕ RT) (va_A wc H.size) a) (cxX D ex wx (.inr yy : EX ⊕ RT) (va_A wc H.size)) (va_A wc H.size)) (hP : va_P D CL ws H) (hD : va_D A ws) (hS : va_S A s.heap H locs) (hA : ∀ q : Nat, s.heap.size ≤ q → A q)
    (ks isR : List Nat) (hks : ks.map (fun i => ws[i]?) = wc.map some) (hks' : ks.map (fun i => ws'[i]?) = (wr yy).map some) (hR : isR.map (fun i => ws[i]?) = isR.map (fun i => ws'[i]?)) {N : Nat} (hlen : ws'.length = N) (hcov : (List.range N).all (fun i => ks.contains i || isR.contains i) = true) (hfst : (wr yy).map Prod.fst = wc.map Prod.fst)
    (kk : ∀ (H1 : Heap) (locs1 : List Loc), va_P D CL ws' H1 → va_D A ws' → va_S A s.heap H1 locs1 → W p l e R s m args below meth c H1 locs1 (cells + mc) (slots + ms) Q (F0 m (pc + 3) ls rest)) : W p l e R s m args below meth c H locs cells slots Q (F0 m pc ls st0) := by
  intro T0 hT X
  have hF := va_free hD hS hA ks hks
  rcases hr T0 hT X with ⟨v, st₀, t, T', L, h0, X', hL, e1, ⟨⟨u, hv, -, y0, hy0, hB⟩, hz, hk⟩, st⟩ | ⟨x, ce, E, st₀, t, T', L, h0, X', hL, e1, ⟨x0, hx0, -⟩, -⟩
  · cases hv
    cases hy0
    rw [h0, ← e1] at hz hk
    rw [← e1] at hB
    obtain ⟨hP', hD'⟩ := cf_join2 hP hD ks isR hks hks' hR hlen hcov hfst hk hB
    obtain ⟨t2, a1, b1⟩ := kk T'.heap (locs ++ L) hP' hD' (x_S hS hz hk hF hL) T' rfl X'
    exact ⟨t2, st t2 a1, b1⟩
  · cases hx0
theorem xkI {vr : RT → Int32} (ws' : va_W) (hr : xRun p l e R s m args below meth c H locs cells slots mc ms (F0 m pc ls st0) rest (cxQi D vr wr (.inr yy : EX ⊕ RT) (va_A wc H.size) a) (cxX D ex wx (.inr yy : EX ⊕ RT) (va_A wc H.size)) (va_A wc H.size)) (hP : va_P D CL ws H) (hD : va_D A ws) (hS : va_S A s.heap H locs) (hA : ∀ q : Nat, s.heap.size ≤ q → A q)
    (ks isR : List Nat) (hks : ks.map (fun i => ws[i]?) = wc.map some) (hks' : ks.map (fun i => ws'[i]?) = (wr yy).map some) (hR : isR.map (fun i => ws[i]?) = isR.map (fun i => ws'[i]?)) {N : Nat} (hlen : ws'.length = N) (hcov : (List.range N).all (fun i => ks.contains i || isR.contains i) = true) (hfst : (wr yy).map Prod.fst = wc.map Prod.fst)
    (kk : ∀ (H1 : Heap) (locs1 : List Loc), va_P D CL ws' H1 → va_D A ws' → va_S A s.heap H1 locs1 → W p l e R s m args below meth c H1 locs1 (cells + mc) (slots + ms) Q (F0 m (pc + 3) ls (.int (vr yy) :: rest))) : W p l e R s m args below meth c H locs cells slots Q (F0 m pc ls st0) := by
  intro T0 hT X
  have hF := va_free hD hS hA ks hks
  rcases hr T0 hT X with ⟨v, st₀, t, T', L, h0, X', hL, e1, ⟨⟨q, u, hv, ⟨y1, hy1, hq⟩, y0, hy0, hB⟩, hz, hk⟩, st⟩ | ⟨x, ce, E, st₀, t, T', L, h0, X', hL, e1, ⟨x0, hx0, -⟩, -⟩
  · cases hv
    cases hy0
    cases hy1
    subst hq
    rw [h0, ← e1] at hz hk
    rw [← e1] at hB
    obtain ⟨hP', hD'⟩ := cf_join2 hP hD ks isR hks hks' hR hlen hcov hfst hk hB
    obtain ⟨t2, a1, b1⟩ := kk T'.heap (locs ++ L) hP' hD' (x_S hS hz hk hF hL) T' rfl X'
    exact ⟨t2, st t2 a1, b1⟩
  · cases hx0
theorem xkD {vr : RT → UInt64} (ws' : va_W) (hr : xRun p l e R s m args below meth c H locs cells slots mc ms (F0 m pc ls st0) rest (cxQd D vr wr (.inr yy : EX ⊕ RT) (va_A wc H.size) a) (cxX D ex wx (.inr yy : EX ⊕ RT) (va_A wc H.size)) (va_A wc H.size)) (hP : va_P D CL ws H) (hD : va_D A ws) (hS : va_S A s.heap H locs) (hA : ∀ q : Nat, s.heap.size ≤ q → A q)
    (ks isR : List Nat) (hks : ks.map (fun i => ws[i]?) = wc.map some) (hks' : ks.map (fun i => ws'[i]?) = (wr yy).map some) (hR : isR.map (fun i => ws[i]?) = isR.map (fun i => ws'[i]?)) {N : Nat} (hlen : ws'.length = N) (hcov : (List.range N).all (fun i => ks.contains i || isR.contains i) = true) (hfst : (wr yy).map Prod.fst = wc.map Prod.fst)
    (kk : ∀ (H1 : Heap) (locs1 : List Loc), va_P D CL ws' H1 → va_D A ws' → va_S A s.heap H1 locs1 → W p l e R s m args below meth c H1 locs1 (cells + mc) (slots + ms) Q (F0 m (pc + 3) ls (.double (vr yy) :: rest))) : W p l e R s m args below meth c H locs cells slots Q (F0 m pc ls st0) := by
  intro T0 hT X
  have hF := va_free hD hS hA ks hks
  rcases hr T0 hT X with ⟨v, st₀, t, T', L, h0, X', hL, e1, ⟨⟨q, u, hv, ⟨y1, hy1, hq⟩, y0, hy0, hB⟩, hz, hk⟩, st⟩ | ⟨x, ce, E, st₀, t, T', L, h0, X', hL, e1, ⟨x0, hx0, -⟩, -⟩
  · cases hv
    cases hy0
    cases hy1
    subst hq
    rw [h0, ← e1] at hz hk
    rw [← e1] at hB
    obtain ⟨hP', hD'⟩ := cf_join2 hP hD ks isR hks hks' hR hlen hcov hfst hk hB
    obtain ⟨t2, a1, b1⟩ := kk T'.heap (locs ++ L) hP' hD' (x_S hS hz hk hF hL) T' rfl X'
    exact ⟨t2, st t2 a1, b1⟩
  · cases hx0
/-- it threw: with the exception over the frame it goes on -/
theorem xkX {Qr : Array Value → State → Outcome → State → Prop} (hno : ∀ a st o t, ¬ Qr a st o t) (ws' : va_W) (hr : xRun p l e R s m args below meth c H locs cells slots mc ms (F0 m pc ls st0) rest (Qr a) (cxX D ex wx (.inl xx : EX ⊕ RT) (va_A wc H.size)) (va_A wc H.size)) (hP : va_P D CL ws H) (hD : va_D A ws) (hS : va_S A s.heap H locs) (hA : ∀ q : Nat, s.heap.size ≤ q → A q)
    (ks isR : List Nat) (hks : ks.map (fun i => ws[i]?) = wc.map some) (hks' : ks.map (fun i => ws'[i]?) = (wx xx).map some) (hR : isR.map (fun i => ws[i]?) = isR.map (fun i => ws'[i]?)) {N : Nat} (hlen : ws'.length = N) (hcov : (List.range N).all (fun i => ks.contains i || isR.contains i) = true) (hfst : (wx xx).map Prod.fst = wc.map Prod.fst)
    (kk : ∀ (H1 : Heap) (locs1 : List Loc) (x : Addr) (ce : Cell), va_P D CL ws' H1 → va_D A ws' → va_S A s.heap H1 locs1 → H1[x]? = some ce → ce.vm = .none → s.vm.findClass (ex xx) = some ce.cls → WT p l e R s m args below meth c H1 locs1 (cells + mc) (slots + ms) Q (F0 m pc ls rest) x) : W p l e R s m args below meth c H locs cells slots Q (F0 m pc ls st0) := by
  intro T0 hT X
  have hF := va_free hD hS hA ks hks
  rcases hr T0 hT X with ⟨v, st₀, t, T', L, h0, X', hL, e1, hq, st⟩ | ⟨x, ce, E, st₀, t, T', L, h0, X', hL, e1, ⟨x0, hx0, hex, hB, hz, hk⟩, hce, hcv, hcl, st⟩
  · exact (hno _ _ _ _ hq).elim
  · cases hx0
    subst hex
    rw [h0, ← e1] at hz hk
    rw [← e1] at hB hce
    obtain ⟨hP', hD'⟩ := cf_join2 hP hD ks isR hks hks' hR hlen hcov hfst hk hB
    obtain ⟨t2, a1, b1⟩ := kk T'.heap (locs ++ L) x ce hP' hD' (x_S hS hz hk hF hL) hce hcv hcl T' rfl X'
    exact ⟨t2, st t2 a1, b1⟩
end CX4
theorem noQv {EX RT : Type} {D : va_G} {wr : RT → va_W} {xx : EX} {A : Nat → Prop} : ∀ a st o t, ¬ cxQv D wr (.inl xx : EX ⊕ RT) A a st o t := fun a st o t h => by
  obtain ⟨⟨u, -, ⟨y, hy⟩, -⟩, -⟩ := h
  cases hy
theorem noQi {EX RT : Type} {D : va_G} {vr : RT → Int32} {wr : RT → va_W} {xx : EX} {A : Nat → Prop} : ∀ a st o t, ¬ cxQi D vr wr (.inl xx : EX ⊕ RT) A a st o t := fun a st o t h => by
  obtain ⟨⟨q, u, -, ⟨y, hy, -⟩, -⟩, -⟩ := h
  cases hy
theorem noQd {EX RT : Type} {D : va_G} {vr : RT → UInt64} {wr : RT → va_W} {xx : EX} {A : Nat → Prop} : ∀ a st o t, ¬ cxQd D vr wr (.inl xx : EX ⊕ RT) A a st o t := fun a st o t h => by
  obtain ⟨⟨q, u, -, ⟨y, hy, -⟩, -⟩, -⟩ := h
  cases hy
def CxI {EX RT : Type} (l : Launch) (y : MethodName) (wsY : List Cond) (fr lo mc ms : Nat) (D : va_G) (T : Nat → ClassId) (av : List Value) (w : va_W) (vr : RT → Int32) (wr : RT → va_W) (ex : EX → String) (wx : EX → va_W) (rm : EX ⊕ RT) : Prop :=
  ∀ sz : Nat, MetX l y wsY (rmx fr lo mc ms) (va_Pc av (cxP D T sz w)) (cxQi D vr wr rm (va_A w sz)) (cxX D ex wx rm (va_A w sz)) mc ms (va_A w sz)
def CxD {EX RT : Type} (l : Launch) (y : MethodName) (wsY : List Cond) (fr lo mc ms : Nat) (D : va_G) (T : Nat → ClassId) (av : List Value) (w : va_W) (vr : RT → UInt64) (wr : RT → va_W) (ex : EX → String) (wx : EX → va_W) (rm : EX ⊕ RT) : Prop :=
  ∀ sz : Nat, MetX l y wsY (rmx fr lo mc ms) (va_Pc av (cxP D T sz w)) (cxQd D vr wr rm (va_A w sz)) (cxX D ex wx rm (va_A w sz)) mc ms (va_A w sz)
def CxV {EX RT : Type} (l : Launch) (y : MethodName) (wsY : List Cond) (fr lo mc ms : Nat) (D : va_G) (T : Nat → ClassId) (av : List Value) (w : va_W) (wr : RT → va_W) (ex : EX → String) (wx : EX → va_W) (rm : EX ⊕ RT) : Prop :=
  ∀ sz : Nat, MetX l y wsY (rmx fr lo mc ms) (va_Pc av (cxP D T sz w)) (cxQv D wr rm (va_A w sz)) (cxX D ex wx rm (va_A w sz)) mc ms (va_A w sz)
theorem xaIAE : ∀ w ∈ Bundle.ownAtoms "ConeForge" 69 "java/lang/IllegalArgumentException" xIAE, w ∈ XAT := fun w h => List.mem_append_left _ h
theorem xaISE : ∀ w ∈ Bundle.ownAtoms "ConeForge" 121 "java/lang/IllegalStateException" xIAE, w ∈ XAT := fun w h => List.mem_append_right _ (List.mem_append_left _ h)
theorem xaIOE : ∀ w ∈ Bundle.ownAtoms "ConeForge" 235 "java/lang/IndexOutOfBoundsException" xIAE, w ∈ XAT := fun w h => List.mem_append_right _ (List.mem_append_right _ (List.mem_append_left _ h))
theorem xaARE : ∀ w ∈ Bundle.ownAtoms "ConeForge" 164 "java/lang/ArithmeticException" xIAE, w ∈ XAT := fun w h => List.mem_append_right _ (List.mem_append_right _ (List.mem_append_right _ h))
