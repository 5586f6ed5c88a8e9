/-! contracts over the printed functions -/
def tyL (T : Nat → ClassId) : List (ClassId × FieldType) := [(T 0, .double), (T 1, .int), (T 2, .char), (T 3, .array .double), (T 4, .long), (T 5, .boolean)]
def nwOk : Cond → Bool
  | .fieldLinkNest .. => true
  | .methodLinkNest .. => true
  | _ => false
def NW (U : State) : Prop := ∀ w ∈ NEST, va_Nw w U
theorem NEST_ok : NEST.all nwOk = true := by decide +kernel
theorem nw_warm {w : Cond} (h : nwOk w = true) {s U : State} (hW : s.WarmedH U.vm) (hZ : va_Nw w s) : va_Nw w U := by
  cases w with
  | fieldLinkNest a i b n d hh => exact va_Nw.warmF hW hZ
  | methodLinkNest a i x hh => exact va_Nw.warmM hW hZ
  | _ => cases h
theorem nw_tab {w : Cond} (h : nwOk w = true) : w.onTables = true := by
  cases w with
  | fieldLinkNest a i b n d hh => rfl
  | methodLinkNest a i x hh => rfl
  | _ => cases h
theorem NW.warm {s U : State} (hW : s.WarmedH U.vm) (h : NW s) : NW U := fun w hw => nw_warm (List.all_eq_true.mp NEST_ok w hw) hW (h w hw)
theorem NW.same {s U : State} (hv : s.vm = U.vm) (h : NW s) : NW U := fun w hw => va_Nw.same (nw_tab (List.all_eq_true.mp NEST_ok w hw)) hv (h w hw)
theorem NW.use {s : State} {args : Array Value} (h : NW s) {w : Cond} (hw : w ∈ NEST) : w.before args s = true := va_Nw.use (nw_tab (List.all_eq_true.mp NEST_ok w hw)) (h w hw)
def rmk (fr lo : Nat) : Room := { frames := fr, cells := 0, slots := 0, locals := lo }
def cfP (D : va_G) (T : Nat → ClassId) (sz : Nat) (ws : va_W) (U : State) : Prop := U.heap.size = sz ∧ va_P D CL ws U.heap ∧ va_K D CL (tyL T) U ∧ va_D (fun _ => True) ws ∧ NW U
theorem cfP_blind {av : List Value} {D : va_G} {T : Nat → ClassId} {sz : Nat} {ws : va_W} : FrameBlind (va_Pc av (cfP D T sz ws)) := by
  intro a U g mk q
  obtain ⟨q0, q1, qP, qK, qD, qN⟩ := q
  exact ⟨q0, q1, qP, va_K.moved (u := U) (U := U.calling g mk a) (Vm.Alike.refl U.vm) qK, qD, NW.same (s := U) (U := U.calling g mk a) rfl qN⟩
def cfQi {RT : Type} (D : va_G) (vr : RT → Int32) (wr : RT → va_W) (rm : RT) (A : Nat → Prop) := va_Qi (fun q (_ : Unit) => q = vr rm) (fun _ t => va_P D CL (wr rm) t.heap) A
def cfQd {RT : Type} (D : va_G) (vr : RT → UInt64) (wr : RT → va_W) (rm : RT) (A : Nat → Prop) := va_Qd (fun q (_ : Unit) => q = vr rm) (fun _ t => va_P D CL (wr rm) t.heap) A
def cfQv {RT : Type} (D : va_G) (wr : RT → va_W) (rm : RT) (A : Nat → Prop) := va_Qv (fun (_ : Unit) => True) (fun _ t => va_P D CL (wr rm) t.heap) A
def CtI {RT : Type} (l : Launch) (y : MethodName) (wsY : List Cond) (fr lo : Nat) (D : va_G) (T : Nat → ClassId) (av : List Value) (w : va_W) (vr : RT → Int32) (wr : RT → va_W) (rm : RT) : Prop :=
  ∀ sz : Nat, Met l y wsY (rmk fr lo) (va_Pc av (cfP D T sz w)) (cfQi D vr wr rm (va_A w sz)) 0 0 (va_A w sz)
def CtD {RT : Type} (l : Launch) (y : MethodName) (wsY : List Cond) (fr lo : Nat) (D : va_G) (T : Nat → ClassId) (av : List Value) (w : va_W) (vr : RT → UInt64) (wr : RT → va_W) (rm : RT) : Prop :=
  ∀ sz : Nat, Met l y wsY (rmk fr lo) (va_Pc av (cfP D T sz w)) (cfQd D vr wr rm (va_A w sz)) 0 0 (va_A w sz)
def CtV {RT : Type} (l : Launch) (y : MethodName) (wsY : List Cond) (fr lo : Nat) (D : va_G) (T : Nat → ClassId) (av : List Value) (w : va_W) (wr : RT → va_W) (rm : RT) : Prop :=
  ∀ sz : Nat, Met l y wsY (rmk fr lo) (va_Pc av (cfP D T sz w)) (cfQv D wr rm (va_A w sz)) 0 0 (va_A w sz)
/-- what stands at a method's entry -/
def cfBody (l : Launch) (y : MethodName) (wsY : List Cond) (cc : ByteArray) (nL : Nat) (ret : Option FieldType) (fr lo : Nat) (D : va_G) (T : Nat → ClassId) (av : List Value) (w : va_W) (Qc : (Nat → Prop) → Array Value → State → Outcome → State → Prop) : Prop :=
  ∀ (p : Program) (e : Env) (s : State) (m : MethodId) (args : Array Value) (below : List Frame) (meth : Method) (c : Code) (A : Nat → Prop) (Q : State → Prop) (H : Heap) (locs : List Loc) (ls : Array Slot),
    p.tables.exec = Jvm.exec → c.code = cc → meth.sig.returnType = ret → meth.locks = false → c.maxLocals = nL → s.vm.findClass y.cls = some m.cls → (∀ w ∈ wsY, w.before args s = true) → NW s → va_K D CL (tyL T) s →
    (∀ q : Nat, s.heap.size ≤ q → A q) → Q = MQ below (Qc A) args s 0 0 A → va_P D CL w H → va_D A w → va_S A s.heap H locs → lv_has ls nL (lv_args 0 av) →
    W p l e (rmk fr lo) s m args below meth c H locs 0 0 Q (F0 m 0 ls [])
theorem cf_entry {l : Launch} {y : MethodName} {wsY ws' : List Cond} {cc : ByteArray} {nL : Nat} {ret : Option FieldType} {fr lo : Nat} {D : va_G} {T : Nat → ClassId} {av : List Value} {w : va_W} {Qc : (Nat → Prop) → Array Value → State → Outcome → State → Prop}
    (hy : plainName y.cls = true) (hw : wsY = Cond.code y cc nL ret :: ws') (hlen : (lg_sl av).length ≤ nL) (body : cfBody l y wsY cc nL ret fr lo D T av w Qc) (sz : Nat) :
    Met l y wsY (rmk fr lo) (va_Pc av (cfP D T sz w)) (Qc (va_A w sz)) 0 0 (va_A w sz) := by
  refine Met.ofW (cc := cc) (maxL := nL) (ret := ret) hy hw ?_
  intro p e s m args below meth c s₁ B hml hv
  obtain ⟨rfl, hsz, hP, hK, hD0, hN⟩ := hv
  have hts := atoms_spec (ws := wsY) B.pre
  have hown : s.vm.findClass y.cls = some m.cls := findClass_of_methodNamed B.named
  subst hsz
  have hl := lv_entry av (n := nL) hlen
  rw [lg_entry_eq]
  exact body p e s m _ below meth c (va_A w s.heap.size) _ _ _ _ B.exec B.bytes B.returns B.notSynchronized hml hown hts hN hK (fun q h => Or.inr h) rfl hP (hD0.self (sz := s.heap.size)) va_S.rf hl
section CFR
variable {p : Program} {l : Launch} {e : Env} {R : Room} {s : State} {m : MethodId} {args : Array Value} {below : List Frame} {meth : Method} {c : Code} {H : Heap} {locs : List Loc} {Q : State → Prop}
variable {cc : ByteArray} {pc : Nat} {ls : Array Slot} {rest : List Value} {D : va_G} {T : Nat → ClassId} {A : Nat → Prop}
theorem rtI {RT : Type} {vr : RT → Int32} {wr : RT → va_W} {rm res : RT} {v : Int32} {ww : va_W} (hx : p.tables.exec = Jvm.exec) (hb : c.code = cc) (hr : meth.sig.returnType = some .int) (hlocks : meth.locks = false)
    (hQ : Q = MQ below (cfQi D vr wr rm A) args s 0 0 A) (hres : res = rm) (hP : va_P D CL ww H) (hS : va_S A s.heap H locs) (hdg : decode cc pc = .ok (.ireturn, 1)) (hv : v = vr res) (hw : ww = wr res) :
    W p l e R s m args below meth c H locs 0 0 Q (F0 m pc ls [.int v]) := by
  subst hQ; subst hres; subst hv; subst hw
  exact W.iret hx hb hr (fun t ht hW => ⟨⟨vr res, (), rfl, rfl, by show va_P D CL (wr res) t.heap; rw [ht]; exact hP⟩, hS.F ht⟩) hS.2.2 hdg
theorem rtZ {RT : Type} {vr : RT → Int32} {wr : RT → va_W} {rm res : RT} {v : Int32} {ww : va_W} (hx : p.tables.exec = Jvm.exec) (hb : c.code = cc) (hr : meth.sig.returnType = some .boolean) (hlocks : meth.locks = false) (hg : isb v = true)
    (hQ : Q = MQ below (cfQi D vr wr rm A) args s 0 0 A) (hres : res = rm) (hP : va_P D CL ww H) (hS : va_S A s.heap H locs) (hdg : decode cc pc = .ok (.ireturn, 1)) (hv : v = vr res) (hw : ww = wr res) :
    W p l e R s m args below meth c H locs 0 0 Q (F0 m pc ls [.int v]) := by
  subst hQ; subst hres; subst hv; subst hw
  exact W.zret hx hb hr (isb_n hg) (fun t ht hW => ⟨⟨vr res, (), rfl, rfl, by show va_P D CL (wr res) t.heap; rw [ht]; exact hP⟩, hS.F ht⟩) hS.2.2 hdg
theorem rtD {RT : Type} {vr : RT → UInt64} {wr : RT → va_W} {rm res : RT} {v : UInt64} {ww : va_W} (hx : p.tables.exec = Jvm.exec) (hb : c.code = cc) (hr : meth.sig.returnType = some .double) (hlocks : meth.locks = false)
    (hQ : Q = MQ below (cfQd D vr wr rm A) args s 0 0 A) (hres : res = rm) (hP : va_P D CL ww H) (hS : va_S A s.heap H locs) (hdg : decode cc pc = .ok (.dreturn, 1)) (hv : v = vr res) (hw : ww = wr res) :
    W p l e R s m args below meth c H locs 0 0 Q (F0 m pc ls [.double v]) := by
  subst hQ; subst hres; subst hv; subst hw
  exact W.dret hx hb hr (fun t ht hW => ⟨⟨vr res, (), rfl, rfl, by show va_P D CL (wr res) t.heap; rw [ht]; exact hP⟩, hS.F ht⟩) hS.2.2 hdg
theorem rtV {RT : Type} {wr : RT → va_W} {rm res : RT} {ww : va_W} (hx : p.tables.exec = Jvm.exec) (hb : c.code = cc) (hr : meth.sig.returnType = none) (hlocks : meth.locks = false)
    (hQ : Q = MQ below (cfQv D wr rm A) args s 0 0 A) (hres : res = rm) (hP : va_P D CL ww H) (hS : va_S A s.heap H locs) (hdg : decode cc pc = .ok (.return_, 1)) (hw : ww = wr res) :
    W p l e R s m args below meth c H locs 0 0 Q (F0 m pc ls []) := by
  subst hQ; subst hres; subst hw
  exact W.vret hx hb hr (fun t ht hW => ⟨⟨(), rfl, trivial, by show va_P D CL (wr res) t.heap; rw [ht]; exact hP⟩, hS.F ht⟩) hS.2.2 hdg
/-- an element of an array of arrays: a row's address -/
theorem va_aldg {tys : List (ClassId × FieldType)} {cl : List vw_C} {ws : va_W} {a cells slots : Nat} (hexec : p.tables.exec = Jvm.exec) (hb : c.code = cc) (hK : va_K D cl tys s) (hP : va_P D cl ws H) (q0 t0 : Nat) {cA : ClassId} {ty : FieldType} {n : Nat} {f : Nat → Nat} (ha : ws[q0]? = some (a, .inl (cA, n, .inr (.inr (.inr (.inr (fun i => some (f i)))))))) (ht : tys[t0]? = some (cA, .array ty)) {i : Int32} (hin : vp_in i n) (hdg : decode cc pc = .ok (.aaload, 1))
    (kk : W p l e R s m args below meth c H locs cells slots Q (F0 m (pc + 1) ls (.ref (f i.toNatClampNeg) :: rest))) : W p l e R s m args below meth c H locs cells slots Q (F0 m pc ls (.int i :: .ref a :: rest)) := by
  have hlt : i.toNatClampNeg < n := Nat.not_le.mp fun q => hin (Or.inr q)
  exact W.aald (v := .ref (f i.toNatClampNeg)) (ty := .array ty) hexec hb (hP q0 _ ha) ((hK.2 t0 _ ht).1 n (fun j => va_rf (some (f j)))) rfl (fun q => by cases q) (by show ¬ (i < 0 ∨ (arrV _ _ _).slots.size ≤ _); rw [arrV_size]; exact hin) (by show (arrV _ _ _).slots[_]? = _; rw [arrV_read _ _ hlt]; rfl) rfl rfl hdg kk
variable {cells slots : Nat} {ws wc wc' : va_W} {st0 : List Value} {a : Array Value}
theorem kI {v : Int32} (hr : va_Run p l e R s m args below meth c H locs cells slots 0 0 (F0 m pc ls st0) rest (va_Qi (fun q (_ : Unit) => q = v) (fun _ t => va_P D CL wc' t.heap) (va_A wc H.size) a) (va_A wc H.size)) (hP : va_P D CL ws H) (hD : va_D A ws) (hS : va_S A s.heap H locs) (hA : ∀ q : Nat, s.heap.size ≤ q → A q)
    (ks : List Nat) (hks : ks.map (fun i => ws[i]?) = wc.map some) (hfst : wc'.map Prod.fst = wc.map Prod.fst)
    (kk : ∀ (H1 : Heap) (locs1 : List Loc), va_P D CL (cfSet ws ks wc') H1 → va_D A (cfSet ws ks wc') → va_S A s.heap H1 locs1 → W p l e R s m args below meth c H1 locs1 cells slots Q (F0 m (pc + 3) ls (.int v :: rest))) : W p l e R s m args below meth c H locs cells slots Q (F0 m pc ls st0) := by
  have hF := va_free hD hS hA ks hks
  refine va_calli hr hS (fun q _ h => hF q h) hF (fun r u t H1 locs1 ht hvm hw hB hz hk hS => ?_)
  subst hw
  rw [ht] at hB
  obtain ⟨hP', hD'⟩ := cf_join hP hD ks hks hfst hk hB
  exact kk H1 locs1 hP' hD' hS
theorem kD {v : UInt64} (hr : va_Run p l e R s m args below meth c H locs cells slots 0 0 (F0 m pc ls st0) rest (va_Qd (fun q (_ : Unit) => q = v) (fun _ t => va_P D CL wc' t.heap) (va_A wc H.size) a) (va_A wc H.size)) (hP : va_P D CL ws H) (hD : va_D A ws) (hS : va_S A s.heap H locs) (hA : ∀ q : Nat, s.heap.size ≤ q → A q)
    (ks : List Nat) (hks : ks.map (fun i => ws[i]?) = wc.map some) (hfst : wc'.map Prod.fst = wc.map Prod.fst)
    (kk : ∀ (H1 : Heap) (locs1 : List Loc), va_P D CL (cfSet ws ks wc') H1 → va_D A (cfSet ws ks wc') → va_S A s.heap H1 locs1 → W p l e R s m args below meth c H1 locs1 cells slots Q (F0 m (pc + 3) ls (.double v :: rest))) : W p l e R s m args below meth c H locs cells slots Q (F0 m pc ls st0) := by
  have hF := va_free hD hS hA ks hks
  refine va_calld hr hS (fun q _ h => hF q h) hF (fun r u t H1 locs1 ht hvm hw hB hz hk hS => ?_)
  subst hw
  rw [ht] at hB
  obtain ⟨hP', hD'⟩ := cf_join hP hD ks hks hfst hk hB
  exact kk H1 locs1 hP' hD' hS
theorem kV (hr : va_Run p l e R s m args below meth c H locs cells slots 0 0 (F0 m pc ls st0) rest (va_Qv (fun (_ : Unit) => True) (fun _ t => va_P D CL wc' t.heap) (va_A wc H.size) a) (va_A wc H.size)) (hP : va_P D CL ws H) (hD : va_D A ws) (hS : va_S A s.heap H locs) (hA : ∀ q : Nat, s.heap.size ≤ q → A q)
    (ks : List Nat) (hks : ks.map (fun i => ws[i]?) = wc.map some) (hfst : wc'.map Prod.fst = wc.map Prod.fst)
    (kk : ∀ (H1 : Heap) (locs1 : List Loc), va_P D CL (cfSet ws ks wc') H1 → va_D A (cfSet ws ks wc') → va_S A s.heap H1 locs1 → W p l e R s m args below meth c H1 locs1 cells slots Q (F0 m (pc + 3) ls rest)) : W p l e R s m args below meth c H locs cells slots Q (F0 m pc ls st0) := by
  have hF := va_free hD hS hA ks hks
  refine va_callv hr hS (fun q _ h => hF q h) hF (fun u t H1 locs1 ht hvm hw hB hz hk hS => ?_)
  rw [ht] at hB
  obtain ⟨hP', hD'⟩ := cf_join hP hD ks hks hfst hk hB
  exact kk H1 locs1 hP' hD' hS
end CFR
/-! a call: words by their places in BIG, the run, what goes on behind it -/
theorem good_cons {cd : Cond} {y : MethodName} {bytes : ByteArray} {maxL : Nat} {ret : Option FieldType} (h : Cond.code y bytes maxL ret ∈ BIG) : GoodIn (cd :: BIG) (Cond.code y bytes maxL ret :: BIG) := by
  intro w hw
  rcases List.mem_cons.mp hw with rfl | hw
  · exact ⟨bgc h, Or.inl rfl⟩
  · exact ⟨bgc hw, good_of_word (List.all_eq_true.mp BIG_good w hw)⟩
section CFC
variable {p : Program} {l : Launch} {e : Env} {R : Room} {s : State} {m : MethodId} {args : Array Value} {below : List Frame} {meth : Method} {c : Code} {H : Heap} {locs : List Loc} {Q : State → Prop}
variable {cc : ByteArray} {pc : Nat} {ls : Array Slot} {rest As st0 : List Value} {D : va_G} {T : Nat → ClassId} {A : Nat → Prop} {cd : Cond} {own host : String} {idx maxL fr lo n nL b cells slots : Nat} {y : MethodName} {bytes : ByteArray} {ret : Option FieldType} {wsY : List Cond} {ws wc : va_W} {Qc : Array Value → State → Outcome → State → Prop} {free : Addr → Prop}
theorem cwOV (m1 : Cond.methodLink own idx y ∈ BIG) (m2 : Cond.instanceMethod y ∈ BIG) (m3 : Cond.selects y.cls y y ∈ BIG) (m4 : Cond.initialized y.cls ∈ BIG) (m5 : Cond.code y bytes maxL ret ∈ BIG)
    (hd : y.cls ≠ "java/lang/invoke/MethodHandle" ∧ y.cls ≠ "java/lang/invoke/VarHandle" ∧ (parseMethodDescriptor y.desc).map (fun d => d.parameters.length) = some n) (ht : ∀ w ∈ cd :: BIG, w.before args s = true) (hR : fr + 1 ≤ R.frames ∧ 8 + (maxL + 11) + lo ≤ R.locals) :
    CallW R s args own y.cls idx y bytes maxL ret (Cond.code y bytes maxL ret :: BIG) (rmk fr lo) 0 0 n :=
  ⟨callB_of n ht (good_cons m5) rfl rfl rfl (ht _ (bgc m4)) (ht _ (bgc m1)) hd hR, ht _ (bgc m2), ht _ (bgc m3)⟩
theorem cwOS (m1 : Cond.methodLink own idx y ∈ BIG) (m2 : Cond.static y ∈ BIG) (m4 : Cond.initialized y.cls ∈ BIG) (m5 : Cond.code y bytes maxL ret ∈ BIG)
    (hd : y.cls ≠ "java/lang/invoke/MethodHandle" ∧ y.cls ≠ "java/lang/invoke/VarHandle" ∧ (parseMethodDescriptor y.desc).map (fun d => d.parameters.length) = some n) (ht : ∀ w ∈ cd :: BIG, w.before args s = true) (hR : fr + 1 ≤ R.frames ∧ 8 + (maxL + 11) + lo ≤ R.locals) :
    CallB R s args own idx y bytes maxL ret (Cond.code y bytes maxL ret :: BIG) (rmk fr lo) 0 0 n ∧ (Cond.static y).before args s = true :=
  ⟨callB_of n ht (good_cons m5) rfl rfl rfl (ht _ (bgc m4)) (ht _ (bgc m1)) hd hR, ht _ (bgc m2)⟩
theorem cwNV (m1 : Cond.methodLinkNest own idx y host ∈ NEST) (m2 : Cond.instanceMethod y ∈ BIG) (m3 : Cond.selects y.cls y y ∈ BIG) (m4 : Cond.initialized y.cls ∈ BIG) (m5 : Cond.code y bytes maxL ret ∈ BIG)
    (hd : y.cls ≠ "java/lang/invoke/MethodHandle" ∧ y.cls ≠ "java/lang/invoke/VarHandle" ∧ (parseMethodDescriptor y.desc).map (fun d => d.parameters.length) = some n) (ht : ∀ w ∈ cd :: BIG, w.before args s = true) (hN : NW s) (hR : fr + 1 ≤ R.frames ∧ 8 + (maxL + 11) + lo ≤ R.locals) :
    va_CN R s args own idx y host bytes maxL ret (Cond.code y bytes maxL ret :: BIG) (rmk fr lo) 0 0 n ∧ (Cond.instanceMethod y).before args s = true ∧ (Cond.selects y.cls y y).before args s = true :=
  ⟨va_cnB n ht (good_cons m5) rfl rfl rfl (hN _ m1) (ht _ (bgc m4)) hd hR, ht _ (bgc m2), ht _ (bgc m3)⟩
theorem cwNS (m1 : Cond.methodLinkNest own idx y host ∈ NEST) (m2 : Cond.static y ∈ BIG) (m4 : Cond.initialized y.cls ∈ BIG) (m5 : Cond.code y bytes maxL ret ∈ BIG)
    (hd : y.cls ≠ "java/lang/invoke/MethodHandle" ∧ y.cls ≠ "java/lang/invoke/VarHandle" ∧ (parseMethodDescriptor y.desc).map (fun d => d.parameters.length) = some n) (ht : ∀ w ∈ cd :: BIG, w.before args s = true) (hN : NW s) (hR : fr + 1 ≤ R.frames ∧ 8 + (maxL + 11) + lo ≤ R.locals) :
    va_CN R s args own idx y host bytes maxL ret (Cond.code y bytes maxL ret :: BIG) (rmk fr lo) 0 0 n ∧ (Cond.static y).before args s = true ∧ True :=
  ⟨va_cnB n ht (good_cons m5) rfl rfl rfl (hN _ m1) (ht _ (bgc m4)) hd hR, ht _ (bgc m2), trivial⟩
theorem cf_pre (hN : NW s) (hK : va_K D CL (tyL T) s) (hP : va_P D CL ws H) (hD : va_D A ws) (ks : List Nat) (hks : ks.map (fun i => ws[i]?) = wc.map some) (hnd : va_nd ks = true) (av : List Value) : ∀ U : State, U.heap = H → s.WarmedH U.vm → va_Pc av (cfP D T H.size wc) av.toArray U :=
  fun U hU hW => ⟨rfl, by rw [hU], by rw [hU]; exact cf_sub hks hP, va_K.moved hW.alike hK, (hD.sub ks hnd hks).weaken (fun _ _ _ _ => trivial), hN.warm hW⟩
theorem runOV (hM : Met l y wsY (rmk fr lo) (va_Pc (.ref b :: As) (cfP D T H.size wc)) Qc 0 0 free) (S : CallFix p m c cc nL s args (cd :: BIG) own) (cw : CallW R s args own y.cls idx y bytes maxL ret wsY (rmk fr lo) 0 0 n)
    (rc : ∃ cellB : Cell, H[b]? = some cellB ∧ cellB.vm.isStatics = false ∧ s.vm.findClass y.cls = some cellB.cls) (hN : NW s) (hK : va_K D CL (tyL T) s) (hP : va_P D CL ws H) (hD : va_D A ws) (ks : List Nat) (hks : ks.map (fun i => ws[i]?) = wc.map some) (hnd : va_nd ks = true)
    (hn : As.length = n) (hsize : ls.size = nL) (hstack : st0 = As.reverse ++ .ref b :: rest) (hW : 2 * (F0 m pc ls st0).monitorRoom + (rest.map fun v => v.category).sum ≤ 8) (hdg : decode cc pc = .ok (.invokevirtual idx, 3)) (hf : cells + 0 ≤ R.cells ∧ slots + 0 ≤ R.slots) :
    va_Run p l e R s m args below meth c H locs cells slots 0 0 (F0 m pc ls st0) rest (Qc (Value.ref b :: As).toArray) free :=
  va_runV S hM cw ⟨cfP_blind, rc, cf_pre hN hK hP hD ks hks hnd _⟩ rfl hn hsize hstack hW hdg hf
theorem runNV (hM : Met l y wsY (rmk fr lo) (va_Pc (.ref b :: As) (cfP D T H.size wc)) Qc 0 0 free) (S : CallFix p m c cc nL s args (cd :: BIG) own) (cw : va_CN R s args own idx y host bytes maxL ret wsY (rmk fr lo) 0 0 n ∧ (Cond.instanceMethod y).before args s = true ∧ (Cond.selects y.cls y y).before args s = true)
    (rc : ∃ cellB : Cell, H[b]? = some cellB ∧ cellB.vm.isStatics = false ∧ s.vm.findClass y.cls = some cellB.cls) (hN : NW s) (hK : va_K D CL (tyL T) s) (hP : va_P D CL ws H) (hD : va_D A ws) (ks : List Nat) (hks : ks.map (fun i => ws[i]?) = wc.map some) (hnd : va_nd ks = true)
    (hn : As.length = n) (hsize : ls.size = nL) (hstack : st0 = As.reverse ++ .ref b :: rest) (hW : 2 * (F0 m pc ls st0).monitorRoom + (rest.map fun v => v.category).sum ≤ 8) (hdg : decode cc pc = .ok (.invokevirtual idx, 3)) (hf : cells + 0 ≤ R.cells ∧ slots + 0 ≤ R.slots) :
    va_Run p l e R s m args below meth c H locs cells slots 0 0 (F0 m pc ls st0) rest (Qc (Value.ref b :: As).toArray) free :=
  va_runVN S hM cw ⟨cfP_blind, rc, cf_pre hN hK hP hD ks hks hnd _⟩ rfl hn hsize hstack hW hdg hf
theorem runOS (hM : Met l y wsY (rmk fr lo) (va_Pc As (cfP D T H.size wc)) Qc 0 0 free) (S : CallFix p m c cc nL s args (cd :: BIG) own) (cw : CallB R s args own idx y bytes maxL ret wsY (rmk fr lo) 0 0 n ∧ (Cond.static y).before args s = true)
    (hN : NW s) (hK : va_K D CL (tyL T) s) (hP : va_P D CL ws H) (hD : va_D A ws) (ks : List Nat) (hks : ks.map (fun i => ws[i]?) = wc.map some) (hnd : va_nd ks = true)
    (hn : As.length = n) (hsize : ls.size = nL) (hstack : st0 = As.reverse ++ rest) (hW : 2 * (F0 m pc ls st0).monitorRoom + (rest.map fun v => v.category).sum ≤ 8) (hdg : decode cc pc = .ok (.invokestatic idx, 3)) (hf : cells + 0 ≤ R.cells ∧ slots + 0 ≤ R.slots) :
    va_Run p l e R s m args below meth c H locs cells slots 0 0 (F0 m pc ls st0) rest (Qc As.toArray) free :=
  va_runS S hM cw ⟨cfP_blind, cf_pre hN hK hP hD ks hks hnd _⟩ rfl hn hsize hstack hW hdg hf
theorem runNS (hM : Met l y wsY (rmk fr lo) (va_Pc As (cfP D T H.size wc)) Qc 0 0 free) (S : CallFix p m c cc nL s args (cd :: BIG) own) (cw : va_CN R s args own idx y host bytes maxL ret wsY (rmk fr lo) 0 0 n ∧ (Cond.static y).before args s = true ∧ True)
    (hN : NW s) (hK : va_K D CL (tyL T) s) (hP : va_P D CL ws H) (hD : va_D A ws) (ks : List Nat) (hks : ks.map (fun i => ws[i]?) = wc.map some) (hnd : va_nd ks = true)
    (hn : As.length = n) (hsize : ls.size = nL) (hstack : st0 = As.reverse ++ rest) (hW : 2 * (F0 m pc ls st0).monitorRoom + (rest.map fun v => v.category).sum ≤ 8) (hdg : decode cc pc = .ok (.invokestatic idx, 3)) (hf : cells + 0 ≤ R.cells ∧ slots + 0 ≤ R.slots) :
    va_Run p l e R s m args below meth c H locs cells slots 0 0 (F0 m pc ls st0) rest (Qc As.toArray) free :=
  va_runSN S hM cw ⟨cfP_blind, cf_pre hN hK hP hD ks hks hnd _⟩ rfl hn hsize hstack hW hdg hf
end CFC
theorem cf_join2 {A : Nat → Prop} {D : va_G} {cl : List vw_C} {ws ws' wc wc' : va_W} {H H1 : Heap} (hP : va_P D cl ws H) (hD : va_D A ws) (ks isR : List Nat) (hks : ks.map (fun i => ws[i]?) = wc.map some) (hks' : ks.map (fun i => ws'[i]?) = wc'.map some) (hR : isR.map (fun i => ws[i]?) = isR.map (fun i => ws'[i]?))
    {N : Nat} (hlen : ws'.length = N) (hcov : (List.range N).all (fun i => ks.contains i || isR.contains i) = true) (hfst : wc'.map Prod.fst = wc.map Prod.fst)
    (hk : ∀ q : Nat, q < H.size → ¬ va_A wc H.size q → H1[q]? = H[q]?) (hP1 : va_P D cl wc' H1) : va_P D cl ws' H1 ∧ va_D A ws' := by
  have inK : ∀ (i : Nat) (q : Nat × va_E), i ∈ ks → ws'[i]? = some q → ∃ (j : Nat) (q0 : Nat × va_E), wc'[j]? = some q ∧ wc[j]? = some q0 ∧ ws[i]? = some q0 ∧ q0.1 = q.1 := by
    intro i q hi h
    obtain ⟨j, hj⟩ := List.getElem?_of_mem hi
    have h1 : (ks.map (fun i => ws'[i]?))[j]? = some (some q) := by rw [List.getElem?_map, hj]; simp [h]
    rw [hks', List.getElem?_map] at h1
    cases hc : wc'[j]? with
    | none => rw [hc] at h1; cases h1
    | some q1 =>
      rw [hc] at h1
      have e1 : q1 = q := Option.some.inj (Option.some.inj h1)
      subst e1
      have h3 : (wc'.map Prod.fst)[j]? = some q1.1 := by rw [List.getElem?_map, hc]; rfl
      rw [hfst, List.getElem?_map] at h3
      cases hc2 : wc[j]? with
      | none => rw [hc2] at h3; cases h3
      | some q0 =>
        rw [hc2] at h3
        obtain ⟨i', h4, h5⟩ := cf_at hks hc2
        rw [hj] at h4
        cases h4
        exact ⟨j, q0, hc, hc2, h5, Option.some.inj h3⟩
  have inR : ∀ (i : Nat) (q : Nat × va_E), i ∉ ks → ws'[i]? = some q → ws[i]? = some q := by
    intro i q hi h
    have hl : i < N := by rw [← hlen]; exact (List.getElem?_eq_some_iff.mp h).1
    have h1 := List.all_eq_true.mp hcov i (List.mem_range.mpr hl)
    rw [Bool.or_eq_true] at h1
    rcases h1 with h1 | h1
    · exact absurd (List.contains_iff_mem.mp h1) hi
    · obtain ⟨j, hj⟩ := List.getElem?_of_mem (List.contains_iff_mem.mp h1)
      have h2 := congrArg (fun l => l[j]?) hR
      simp only [List.getElem?_map, hj, Option.map_some] at h2
      rw [Option.some.inj h2]
      exact h
  have addr : ∀ (i : Nat) (q : Nat × va_E), ws'[i]? = some q → ∃ q0 : Nat × va_E, ws[i]? = some q0 ∧ q0.1 = q.1 := by
    intro i q h
    by_cases hi : i ∈ ks
    · obtain ⟨_, q0, -, -, h3, h4⟩ := inK i q hi h
      exact ⟨q0, h3, h4⟩
    · exact ⟨q, inR i q hi h, rfl⟩
  refine ⟨fun i q h => ?_, ⟨fun i j x y hx hy hxy => ?_, fun i q h => ?_⟩⟩
  · by_cases hi : i ∈ ks
    · obtain ⟨j, _, h1, -⟩ := inK i q hi h
      exact hP1 j q h1
    · have h2 := inR i q hi h
      refine (hP i q h2).kept (hk q.1 (hP i q h2).lt ?_)
      rintro (⟨k2, e, h3⟩ | h3)
      · obtain ⟨i', h4, h5⟩ := cf_at hks h3
        have := hD.1 i i' q (q.1, e) h2 h5 rfl
        subst this
        exact hi (List.mem_of_getElem? h4)
      · have := (hP i q h2).lt
        omega
  · obtain ⟨x0, g1, g2⟩ := addr i x hx
    obtain ⟨y0, g3, g4⟩ := addr j y hy
    exact hD.1 i j x0 y0 g1 g3 (by rw [g2, g4, hxy])
  · obtain ⟨q0, g1, g2⟩ := addr i q h
    rw [← g2]
    exact hD.2 i q0 g1
section CFJ
variable {p : Program} {l : Launch} {e : Env} {R : Room} {s : State} {m : MethodId} {args : Array Value} {below : List Frame} {meth : Method} {c : Code} {H : Heap} {locs : List Loc} {Q : State → Prop}
variable {pc : Nat} {ls : Array Slot} {rest : List Value} {D : va_G} {A : Nat → Prop} {cells slots : Nat} {ws wc wc' : va_W} {st0 : List Value} {a : Array Value}
theorem kI2 {v : Int32} (ws' : va_W) (hr : va_Run p l e R s m args below meth c H locs cells slots 0 0 (F0 m pc ls st0) rest (va_Qi (fun q (_ : Unit) => q = v) (fun _ t => va_P D CL wc' t.heap) (va_A wc H.size) a) (va_A wc H.size)) (hP : va_P D CL ws H) (hD : va_D A ws) (hS : va_S A s.heap H locs) (hA : ∀ q : Nat, s.heap.size ≤ q → A q)
    (ks isR : List Nat) (hks : ks.map (fun i => ws[i]?) = wc.map some) (hks' : ks.map (fun i => ws'[i]?) = wc'.map some) (hR : isR.map (fun i => ws[i]?) = isR.map (fun i => ws'[i]?)) {N : Nat} (hlen : ws'.length = N) (hcov : (List.range N).all (fun i => ks.contains i || isR.contains i) = true) (hfst : wc'.map Prod.fst = wc.map Prod.fst)
    (kk : ∀ (H1 : Heap) (locs1 : List Loc), va_P D CL ws' H1 → va_D A ws' → va_S A s.heap H1 locs1 → W p l e R s m args below meth c H1 locs1 cells slots Q (F0 m (pc + 3) ls (.int v :: rest))) : W p l e R s m args below meth c H locs cells slots Q (F0 m pc ls st0) := by
  have hF := va_free hD hS hA ks hks
  refine va_calli hr hS (fun q _ h => hF q h) hF (fun r u t H1 locs1 ht hvm hw hB hz hk hS => ?_)
  subst hw
  rw [ht] at hB
  obtain ⟨hP', hD'⟩ := cf_join2 hP hD ks isR hks hks' hR hlen hcov hfst hk hB
  exact kk H1 locs1 hP' hD' hS
theorem kD2 {v : UInt64} (ws' : va_W) (hr : va_Run p l e R s m args below meth c H locs cells slots 0 0 (F0 m pc ls st0) rest (va_Qd (fun q (_ : Unit) => q = v) (fun _ t => va_P D CL wc' t.heap) (va_A wc H.size) a) (va_A wc H.size)) (hP : va_P D CL ws H) (hD : va_D A ws) (hS : va_S A s.heap H locs) (hA : ∀ q : Nat, s.heap.size ≤ q → A q)
    (ks isR : List Nat) (hks : ks.map (fun i => ws[i]?) = wc.map some) (hks' : ks.map (fun i => ws'[i]?) = wc'.map some) (hR : isR.map (fun i => ws[i]?) = isR.map (fun i => ws'[i]?)) {N : Nat} (hlen : ws'.length = N) (hcov : (List.range N).all (fun i => ks.contains i || isR.contains i) = true) (hfst : wc'.map Prod.fst = wc.map Prod.fst)
    (kk : ∀ (H1 : Heap) (locs1 : List Loc), va_P D CL ws' H1 → va_D A ws' → va_S A s.heap H1 locs1 → W p l e R s m args below meth c H1 locs1 cells slots Q (F0 m (pc + 3) ls (.double v :: rest))) : W p l e R s m args below meth c H locs cells slots Q (F0 m pc ls st0) := by
  have hF := va_free hD hS hA ks hks
  refine va_calld hr hS (fun q _ h => hF q h) hF (fun r u t H1 locs1 ht hvm hw hB hz hk hS => ?_)
  subst hw
  rw [ht] at hB
  obtain ⟨hP', hD'⟩ := cf_join2 hP hD ks isR hks hks' hR hlen hcov hfst hk hB
  exact kk H1 locs1 hP' hD' hS
theorem kV2 (ws' : va_W) (hr : va_Run p l e R s m args below meth c H locs cells slots 0 0 (F0 m pc ls st0) rest (va_Qv (fun (_ : Unit) => True) (fun _ t => va_P D CL wc' t.heap) (va_A wc H.size) a) (va_A wc H.size)) (hP : va_P D CL ws H) (hD : va_D A ws) (hS : va_S A s.heap H locs) (hA : ∀ q : Nat, s.heap.size ≤ q → A q)
    (ks isR : List Nat) (hks : ks.map (fun i => ws[i]?) = wc.map some) (hks' : ks.map (fun i => ws'[i]?) = wc'.map some) (hR : isR.map (fun i => ws[i]?) = isR.map (fun i => ws'[i]?)) {N : Nat} (hlen : ws'.length = N) (hcov : (List.range N).all (fun i => ks.contains i || isR.contains i) = true) (hfst : wc'.map Prod.fst = wc.map Prod.fst)
    (kk : ∀ (H1 : Heap) (locs1 : List Loc), va_P D CL ws' H1 → va_D A ws' → va_S A s.heap H1 locs1 → W p l e R s m args below meth c H1 locs1 cells slots Q (F0 m (pc + 3) ls rest)) : W p l e R s m args below meth c H locs cells slots Q (F0 m pc ls st0) := by
  have hF := va_free hD hS hA ks hks
  refine va_callv hr hS (fun q _ h => hF q h) hF (fun u t H1 locs1 ht hvm hw hB hz hk hS => ?_)
  rw [ht] at hB
  obtain ⟨hP', hD'⟩ := cf_join2 hP hD ks isR hks hks' hR hlen hcov hfst hk hB
  exact kk H1 locs1 hP' hD' hS
end CFJ
