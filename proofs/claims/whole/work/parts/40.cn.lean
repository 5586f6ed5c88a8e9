/-! constructors: what they stand on -/
def va_AOA (t : FieldType) (U : State) : Prop := (Cond.arrayOver (.array t)).before #[] U = true
theorem va_AOA.use {t : FieldType} {A : Array Value} {U : State} (h : va_AOA t U) : (Cond.arrayOver (.array t)).before A U = true := h
theorem va_AOA.moved {t : FieldType} {u U : State} (hvm : u.vm.Alike U.vm) (h : va_AOA t u) : va_AOA t U := by
  have h1 : (Cond.arrayOver (.array t)).before #[] (u.setVm U.vm) = true := by
    unfold va_AOA at h
    unfold Cond.before Cond.holds at h ⊢
    simp only [Cond.value] at h ⊢
    have e1 : (u.setVm U.vm).vm.findClass (FieldType.array t).toString = u.vm.findClass (FieldType.array t).toString := hvm.findClass _ _
    have e2 : (u.setVm U.vm).vm.findClass ("[" ++ (FieldType.array t).toString) = u.vm.findClass ("[" ++ (FieldType.array t).toString) := hvm.findClass _ _
    rw [e1]
    cases hc : u.vm.findClass (FieldType.array t).toString with
    | none => rw [hc] at h; exact h
    | some comp =>
      rw [hc] at h
      rw [Option.bind_some] at h ⊢
      have e0 : (u.setVm U.vm).vm = U.vm := rfl
      have key : ∀ P : Class → Bool, (∀ vm : Vm, vm.bare.classes.findIdx? P = vm.classes.findIdx? P) → U.vm.classes.findIdx? P = u.vm.classes.findIdx? P := fun P hP => by
        rw [← hP U.vm, ← hP u.vm]
        first | rw [hvm.bare_eq] | rw [← hvm.bare_eq]
      rw [e0] at e2 ⊢
      rw [key _ ?_]
      rotate_left
      · intro vm
        simp only [Vm.bare, Array.findIdx?_map]
        rfl
      generalize u.vm.classes.findIdx? _ = oi at h ⊢
      cases oi with
      | none => exact h
      | some c =>
        rw [Option.bind_some] at h ⊢
        cases hk : u.vm.classes[c]? with
        | none => rw [hk] at h; simp at h
        | some k =>
          obtain ⟨k', hk', he⟩ := hvm.2.2 _ _ hk
          have hkk : k'.kind = k.kind := by rw [he]
          rw [hk] at h
          rw [hk']
          simp only [Option.map_some, hkk, e2] at h ⊢
          exact h
  exact h1
/-! ===== BEGIN new T[n][m]: the outer array a place, the inner ones among the pooled ===== -/
/-- f, but v at every address of l -/
def vr_up {α : Type} (f : Nat → α) (l : List Nat) (v : α) : Nat → α := fun a => if a ∈ l then v else f a
theorem vr_up_in {α : Type} {f : Nat → α} {l : List Nat} {v : α} {a : Nat} (h : a ∈ l) : vr_up f l v a = v := if_pos h
theorem vr_up_ne {α : Type} {f : Nat → α} {l : List Nat} {v : α} {a : Nat} (h : a ∉ l) : vr_up f l v a = f a := if_neg h
theorem vr_rows {L l : List Nat} {f : Nat → va_E} {e : va_E} (h : ∀ a, a ∈ l → a ∉ L) : va_pl L f ++ l.map (fun a => (a, e)) = va_pl (L ++ l) (vr_up f l e) := by
  unfold va_pl
  rw [List.map_append]
  congr 1
  · apply List.map_congr_left
    intro a ha
    rw [vr_up_ne (fun q => h a q ha)]
  · apply List.map_congr_left
    intro a ha
    rw [vr_up_in ha]
theorem vr_lay {X rows : va_W} {x : Nat × va_E} {pl : va_W} {D : va_G} {cl : List vw_C} {H : Heap} (hP : va_P D cl (((X ++ pl) ++ [x]) ++ rows) H) : va_P D cl ((X ++ [x]) ++ (pl ++ rows)) H := by
  rw [List.append_assoc (X ++ pl)] at hP
  have h := va_P.swap hP
  rw [← List.append_assoc X] at h
  have h2 := va_P.swap h
  rw [List.append_assoc (X ++ [x])] at h2
  exact h2
theorem vr_layD {X rows : va_W} {x : Nat × va_E} {pl : va_W} {A : Nat → Prop} (hD : va_D A (((X ++ pl) ++ [x]) ++ rows)) : va_D A ((X ++ [x]) ++ (pl ++ rows)) := by
  rw [List.append_assoc (X ++ pl)] at hD
  have h := va_D.swap hD
  rw [← List.append_assoc X] at h
  have h2 := va_D.swap h
  rw [List.append_assoc (X ++ [x])] at h2
  exact h2
theorem vr_outer (c : ClassId) (N h0 : Nat) : ∀ i : Nat, Jvm.Free.Multi.outerC c N h0 i = arrV c N (fun j => va_rf (if j < i then some (h0 + 1 + j) else none))
  | 0 => by
    show ({ cls := c, slots := Array.replicate N .null, vm := .none } : Cell) = _
    rw [arrV_new]
    refine congrArg (arrV c N) (funext fun j => ?_)
    simp [va_rf]
  | i + 1 => by
    show (Jvm.Free.Multi.outerC c N h0 i).setSlot i (.ref (h0 + 1 + i)) = _
    rw [vr_outer c N h0 i, arrV_store]
    refine congrArg (arrV c N) (funext fun j => ?_)
    by_cases e : j = i
    · subst e
      simp [updV, va_rf]
    · by_cases h : j < i
      · simp [updV, e, h, Nat.lt_succ_of_lt h]
      · simp [updV, e, h, show ¬ j < i + 1 by omega]
section VGM
variable {p : Program} {l : Launch} {e : Env} {R : Room} {s : State} {m : MethodId} {args : Array Value} {below : List Frame} {meth : Method} {c : Code} {H : Heap} {locs : List Loc} {cells slots : Nat} {Q : State → Prop}
variable {cc : ByteArray} {pc : Nat} {ls : Array Slot} {rest : List Value} {D : va_G} {cl : List vw_C} {A : Nat → Prop} {a : Nat} {tys : List (ClassId × FieldType)} {ws : va_W} {H0 : Heap}
theorem va_mna {X : va_W} {L : List Nat} {f : Nat → va_E} {cc : ByteArray} (hexec : p.tables.exec = Jvm.exec) (hb : c.code = cc) {own : String} {index : Nat} {ty : FieldType} {cy : ClassId} (hown : s.vm.findClass own = some m.cls) (hclink : (Cond.classLink own index ("[" ++ (FieldType.array ty).toString)).before args s = true) (hover : va_AOA ty s) (harr : (Cond.arrayClass ty).before args s = true) (hcy : s.vm.findClass (FieldType.array ty).toString = some cy)
    (hK : va_K D cl tys s) (hP : va_P D cl (X ++ va_pl L f) H) (hD : va_D A (X ++ va_pl L f)) (hS : va_S A H0 H locs) (hA : ∀ q, H0.size ≤ q → A q) {n k : Int32} {N' K' : Nat} {z : vp_A} (hn : ¬ n < 0) (hk : ¬ k < 0) (hN : n.toNatClampNeg = N') (hM : k.toNatClampNeg = K')
    (hb1 : N' * 4 ≤ 536870912) (hb2 : K' * componentBytes ty ≤ 536870912) (hb3 : K' ≤ 536870912) (hdf : fits ty (defaultValue ty) = true) (hdd : (defaultValue ty).isDefault = true) (hcells : cells + (1 + N') ≤ R.cells) (hslots : slots + (N' + N' * K') ≤ R.slots) (hz : ∀ c : ClassId, Jvm.Free.Multi.innerC c K' (defaultValue ty) = vp_cell c z) (hdg : decode cc pc = .ok (.multianewarray index 2, 4))
    (kk : ∀ (q : Nat) (r : Nat → Nat) (cA : ClassId) (H1 : Heap), (∀ i j : Nat, i < N' → j < N' → r i = r j → i = j) → (∀ i : Nat, i < N' → r i ∉ L) → va_K D cl (tys ++ [(cA, .array ty)]) s →
      va_P D cl ((X ++ [(q, .inl (cA, N', .inr (.inr (.inr (.inr (fun i => if i < N' then some (r i) else none))))))]) ++ va_pl (L ++ (List.range N').map r) (vr_up f ((List.range N').map r) (.inl (cy, z)))) H1 → va_D A ((X ++ [(q, .inl (cA, N', .inr (.inr (.inr (.inr (fun i => if i < N' then some (r i) else none))))))]) ++ va_pl (L ++ (List.range N').map r) (vr_up f ((List.range N').map r) (.inl (cy, z)))) → va_S A H0 H1 locs →
      W p l e R s m args below meth c H1 locs (cells + 1 + N') (slots + N' + N' * K') Q (F0 m (pc + 4) ls (.ref q :: rest))) : W p l e R s m args below meth c H locs cells slots Q (F0 m pc ls (.int k :: .int n :: rest)) := by
  subst hN
  subst hM
  intro T hT Xs
  obtain ⟨vm₁, cA, comp, -, fA, fC, hO, -, X', step⟩ := Xs.multianewarray2F hexec hown hclink (va_AOA.use hover) harr (g := F0 m pc ls (.int k :: .int n :: rest)) rfl (by rw [hb]; exact hdg) rfl hn hk hb1 hb2 hb3 hdf hdd hcells hslots
  have ec : some cy = some comp := hcy.symm.trans fC
  cases ec
  generalize hF : Jvm.Free.Multi.fill (T.setVm vm₁) cA cy n.toNatClampNeg k.toNatClampNeg (defaultValue ty) n.toNatClampNeg = F at X' step
  have hTh : (T.setVm vm₁).heap = H := hT
  obtain ⟨f1, f2, -, -⟩ := Jvm.Free.Multi.fill_facts (T.setVm vm₁) cA cy n.toNatClampNeg k.toNatClampNeg (defaultValue ty) n.toNatClampNeg
  rw [hF, hTh] at f1 f2
  have hold : ∀ x : Nat, x < H.size → F.heap[x]? = H[x]? := fun x hx => by
    have := Jvm.Free.Multi.fill_old (T.setVm vm₁) cA cy n.toNatClampNeg k.toNatClampNeg (defaultValue ty) (a := x) (by rw [hTh]; exact hx) n.toNatClampNeg
    rw [hF, hTh] at this
    exact this
  have hrow : ∀ j : Nat, j < n.toNatClampNeg → F.heap[H.size + 1 + j]? = some (vp_cell cy z) := fun j hj => by
    have := Jvm.Free.Multi.fill_inner (T.setVm vm₁) cA cy n.toNatClampNeg k.toNatClampNeg (defaultValue ty) n.toNatClampNeg j hj
    rw [hF, hTh, hz] at this
    exact this
  have hout : Jvm.Free.Multi.outerC cA n.toNatClampNeg H.size n.toNatClampNeg = vp_cell cA (n.toNatClampNeg, .inr (.inr (.inr (.inr (fun i => if i < n.toNatClampNeg then some (H.size + 1 + i) else none))))) := by
    rw [vp_cell_q]
    exact vr_outer cA n.toNatClampNeg H.size n.toNatClampNeg
  rw [hout] at f2
  have hlt : ∀ a, a ∈ L → a < H.size := fun a ha => by
    obtain ⟨k9, hk9⟩ := va_pl_get (X := X) (f := f) ha
    exact (hP k9 _ hk9).lt
  have hnl : ∀ i : Nat, i < n.toNatClampNeg → H.size + 1 + i ∉ L := fun i _ h => by
    have := hlt _ h
    omega
  have hnm : ∀ a, a ∈ (List.range n.toNatClampNeg).map (fun i => H.size + 1 + i) → a ∉ L := fun a ha h => by
    obtain ⟨i, -, rfl⟩ := List.mem_map.mp ha
    have := hlt _ h
    omega
  have hP0 : va_P D cl (X ++ va_pl L f) F.heap := hP.kept (fun k9 x hx => hold x.1 ((hP k9 x hx).lt))
  have hP1 : va_P D cl ((X ++ va_pl L f) ++ [(H.size, .inl (cA, n.toNatClampNeg, .inr (.inr (.inr (.inr (fun i => if i < n.toNatClampNeg then some (H.size + 1 + i) else none))))))]) F.heap := hP0.app (fun k9 x hx => by
    have h0 : k9 < 1 := (List.getElem?_eq_some_iff.mp hx).1
    rw [show k9 = 0 by omega] at hx
    cases hx
    exact f2)
  have hP2 : va_P D cl (((X ++ va_pl L f) ++ [(H.size, .inl (cA, n.toNatClampNeg, .inr (.inr (.inr (.inr (fun i => if i < n.toNatClampNeg then some (H.size + 1 + i) else none))))))]) ++ ((List.range n.toNatClampNeg).map (fun i => H.size + 1 + i)).map (fun a => (a, .inl (cy, z)))) F.heap := hP1.app (fun k9 x hx => by
    obtain ⟨a, ha, rfl⟩ := List.mem_map.mp (List.mem_of_getElem? hx)
    obtain ⟨i, hi, rfl⟩ := List.mem_map.mp ha
    exact hrow i (List.mem_range.mp hi))
  have hD2 : va_D A (((X ++ va_pl L f) ++ [(H.size, .inl (cA, n.toNatClampNeg, .inr (.inr (.inr (.inr (fun i => if i < n.toNatClampNeg then some (H.size + 1 + i) else none))))))]) ++ ((List.range n.toNatClampNeg).map (fun i => H.size + 1 + i)).map (fun a => (a, .inl (cy, z)))) := by
    have hD1 := hD.push (e := .inl (cA, n.toNatClampNeg, .inr (.inr (.inr (.inr (fun i => if i < n.toNatClampNeg then some (H.size + 1 + i) else none)))))) hP rfl (hA _ hS.1)
    generalize hW1 : (X ++ va_pl L f) ++ [(H.size, .inl (cA, n.toNatClampNeg, .inr (.inr (.inr (.inr (fun i => if i < n.toNatClampNeg then some (H.size + 1 + i) else none))))))] = W1 at hD1 hP1 ⊢
    have hle : ∀ (k9 : Nat) (x : Nat × va_E), W1[k9]? = some x → x.1 ≤ H.size := fun k9 x hx => by
      rw [← hW1] at hx
      by_cases hl : k9 < (X ++ va_pl L f).length
      · rw [List.getElem?_append_left hl] at hx
        exact Nat.le_of_lt ((hP k9 x hx).lt)
      · rw [List.getElem?_append_right (by omega)] at hx
        have h0 : k9 - (X ++ va_pl L f).length < 1 := (List.getElem?_eq_some_iff.mp hx).1
        rw [show k9 - (X ++ va_pl L f).length = 0 by omega] at hx
        cases hx
        exact Nat.le_refl _
    have hr : ∀ (k9 : Nat) (x : Nat × va_E), (((List.range n.toNatClampNeg).map (fun i => H.size + 1 + i)).map (fun a => ((a, .inl (cy, z)) : Nat × va_E)))[k9]? = some x → x.1 = H.size + 1 + k9 := fun k9 x hx => by
      rw [List.getElem?_map, List.getElem?_map] at hx
      by_cases h9 : k9 < n.toNatClampNeg
      · rw [List.getElem?_range h9] at hx
        cases hx
        rfl
      · have hn0 : (List.range n.toNatClampNeg)[k9]? = none := List.getElem?_eq_none (by rw [List.length_range]; omega)
        rw [hn0] at hx
        cases hx
    refine ⟨fun i j x y hi hj hxy => ?_, fun k9 x hx => ?_⟩
    · by_cases h1 : i < W1.length <;> by_cases h2 : j < W1.length
      · rw [List.getElem?_append_left h1] at hi
        rw [List.getElem?_append_left h2] at hj
        exact hD1.1 i j x y hi hj hxy
      · rw [List.getElem?_append_left h1] at hi
        rw [List.getElem?_append_right (by omega)] at hj
        have := hle _ _ hi
        have := hr _ _ hj
        omega
      · rw [List.getElem?_append_right (by omega)] at hi
        rw [List.getElem?_append_left h2] at hj
        have := hle _ _ hj
        have := hr _ _ hi
        omega
      · rw [List.getElem?_append_right (by omega)] at hi hj
        have := hr _ _ hi
        have := hr _ _ hj
        omega
    · by_cases h1 : k9 < W1.length
      · rw [List.getElem?_append_left h1] at hx
        exact hD1.2 k9 x hx
      · rw [List.getElem?_append_right (by omega)] at hx
        have := hr _ _ hx
        exact hA _ (by have := hS.1; omega)
  have hAr : ArrOfT s cA (.array ty) := fun N9 z9 => by
    obtain ⟨-, k9, hk9, cm9, hkk9⟩ := (hO 0 0 0).1
    exact ⟨(fun q hq => by cases hq), k9, hk9, cm9, hkk9⟩
  have hK2 : va_K D cl (tys ++ [(cA, .array ty)]) s := ⟨hK.1, fun k9 x hx => by
    by_cases hl : k9 < tys.length
    · rw [List.getElem?_append_left hl] at hx
      exact hK.2 k9 x hx
    · rw [List.getElem?_append_right (by omega)] at hx
      have h0 : k9 - tys.length < 1 := (List.getElem?_eq_some_iff.mp hx).1
      rw [show k9 - tys.length = 0 by omega] at hx
      cases hx
      exact ⟨hAr, fA⟩⟩
  obtain ⟨t, a1, b1⟩ := kk H.size (fun i => H.size + 1 + i) cA F.heap (fun i j _ _ h => by have h9 : H.size + 1 + i = H.size + 1 + j := h; omega) hnl hK2 (by rw [← vr_rows hnm]; exact vr_lay hP2) (by rw [← vr_rows hnm]; exact vr_layD hD2) ⟨by rw [f1]; have := hS.1; omega, fun x h1 h2 => (hold x (Nat.lt_of_lt_of_le h1 hS.1)).trans (hS.2.1 x h1 h2), hS.2.2⟩ F rfl X'
  refine ⟨t, step t ?_, b1⟩
  have e : T.heap.size = H.size := by rw [hT]
  rw [e]
  exact a1
end VGM
/-! ===== END ===== -/
def ciP (D : va_G) (T : Nat → ClassId) (sz : Nat) (ws : va_W) (U : State) : Prop := cfP D T sz ws U ∧ va_AOA .double U
theorem ciP_blind {av : List Value} {D : va_G} {T : Nat → ClassId} {sz : Nat} {ws : va_W} : FrameBlind (va_Pc av (ciP D T sz ws)) := by
  intro a U g mk q
  obtain ⟨q0, q1, q2⟩ := q
  obtain ⟨-, r⟩ := cfP_blind (av := av) (D := D) (T := T) (sz := sz) (ws := ws) a U g mk ⟨q0, q1⟩
  exact ⟨q0, r, va_AOA.moved (u := U) (U := U.calling g mk a) (Vm.Alike.refl U.vm) q2⟩
def cnQ {S : Type} (D : va_G) (w : S → va_W) (A : Nat → Prop) := va_Qv (fun (_ : S) => True) (fun (u : S) t => va_P D CL (w u) t.heap ∧ va_D A (w u)) A
def CtN {S : Type} (l : Launch) (y : MethodName) (wsY : List Cond) (fr lo mc ms : Nat) (D : va_G) (T : Nat → ClassId) (q0 : Nat) (w0 : va_W) (w : S → va_W) : Prop :=
  ∀ sz : Nat, Met l y wsY (rmx fr lo mc ms) (va_Pc [.ref q0] (ciP D T sz w0)) (cnQ D w (va_A w0 sz)) mc ms (va_A w0 sz)
def cnBody {S : Type} (l : Launch) (y : MethodName) (wsY : List Cond) (cc : ByteArray) (fr lo mc ms : Nat) (D : va_G) (T : Nat → ClassId) (q0 : Nat) (w0 : va_W) (w : S → va_W) : Prop :=
  ∀ (p : Program) (e : Env) (s : State) (m : MethodId) (args : Array Value) (below : List Frame) (meth : Method) (c : Code) (A : Nat → Prop) (Q : State → Prop) (H : Heap) (locs : List Loc) (ls : Array Slot),
    p.tables.exec = Jvm.exec → c.code = cc → meth.sig.returnType = none → meth.locks = false → c.maxLocals = 1 → s.vm.findClass y.cls = some m.cls → (∀ w ∈ wsY, w.before args s = true) → NW s → va_K D CL (tyL T) s →
    (∀ q : Nat, s.heap.size ≤ q → A q) → Q = MQ below (cnQ D w A) args s mc ms A → va_P D CL w0 H → va_D A w0 → va_S A s.heap H locs → lv_has ls 1 [(0, .ref q0)] → va_AOA .double s → meth.name = y.name →
    W p l e (rmx fr lo mc ms) s m args below meth c H locs 0 0 Q (F0 m 0 ls [])
theorem cn_entry {S : Type} {l : Launch} {y : MethodName} {wsY ws' : List Cond} {cc : ByteArray} {fr lo mc ms : Nat} {D : va_G} {T : Nat → ClassId} {q0 : Nat} {w0 : va_W} {w : S → va_W}
    (hy : plainName y.cls = true) (hw : wsY = Cond.code y cc 1 none :: ws') (body : cnBody l y wsY cc fr lo mc ms D T q0 w0 w) : CtN l y wsY fr lo mc ms D T q0 w0 w := by
  intro sz
  refine Met.ofW (cc := cc) (maxL := 1) (ret := none) hy hw ?_
  intro p e s m args below meth c s₁ B hml hv
  obtain ⟨rfl, ⟨hsz, hP, hK, hD0, hN⟩, hAO⟩ := hv
  have hts := atoms_spec (ws := wsY) B.pre
  have hown : s.vm.findClass y.cls = some m.cls := findClass_of_methodNamed B.named
  have hin : meth.name = y.name := (name_of_methodNamed B.named B.method).1
  subst hsz
  have hl := lv_entry [.ref q0] (n := 1) (Nat.le_of_ble_eq_true rfl)
  rw [lg_entry_eq]
  exact body p e s m _ below meth c (va_A w0 s.heap.size) _ _ _ _ B.exec B.bytes B.returns B.notSynchronized hml hown hts hN hK (fun q h => Or.inr h) rfl hP (hD0.self (sz := s.heap.size)) va_S.rf hl hAO hin
section CN1
variable {p : Program} {l : Launch} {e : Env} {R : Room} {s : State} {m : MethodId} {args : Array Value} {below : List Frame} {meth : Method} {c : Code} {H : Heap} {locs : List Loc} {cells slots mc ms : Nat} {Q : State → Prop}
variable {cc : ByteArray} {pc : Nat} {ls : Array Slot} {rest As st0 : List Value} {D : va_G} {T : Nat → ClassId} {A : Nat → Prop} {ws wc wc' : va_W} {a : Array Value}
theorem cn_ret {S : Type} {w : S → va_W} (u : S) {ww : va_W} (hx : p.tables.exec = Jvm.exec) (hb : c.code = cc) (hr : meth.sig.returnType = none) (hlocks : meth.locks = false) (hQ : Q = MQ below (cnQ D w A) args s mc ms A) (hP : va_P D CL ww H) (hD : va_D A ww) (hS : va_S A s.heap H locs) (hdg : decode cc pc = .ok (.return_, 1)) (hw : ww = w u) (hc : cells ≤ mc) (hs : slots ≤ ms) :
    W p l e R s m args below meth c H locs cells slots Q (F0 m pc ls []) := by
  subst hQ; subst hw
  refine W.widen hc hs ?_
  exact W.vret hx hb hr (fun t ht hW => ⟨⟨u, rfl, trivial, by rw [ht]; exact hP, hD⟩, hS.F ht⟩) hS.2.2 hdg
theorem cn_newa (hx : p.tables.exec = Jvm.exec) (hb : c.code = cc) {atype : ArrayType} (harr : (Cond.arrayClass (newarray.typeOf atype)).before args s = true) {ty : FieldType} (hty : newarray.typeOf atype = ty) (j : Nat) (hj : (tyL T)[j]? = some (T j, ty)) {nm : String} (hRA : ∀ cA, va_RA s cA ty → s.vm.findClass nm = some cA) (hK : va_K D CL (tyL T) s) (hP : va_P D CL ws H) (hD : va_D A ws) (hS : va_S A s.heap H locs) (hA : ∀ q : Nat, s.heap.size ≤ q → A q)
    {n : Int32} {N' : Nat} {a0 : vp_A} (ha : ∀ cA : ClassId, vp_cell cA a0 = arrV cA N' (fun _ => defaultValue ty)) (hn : ¬ n < 0) (hN : n.toNatClampNeg = N') (hbytes : N' * componentBytes ty ≤ 536870912) (hcells : cells + 1 ≤ R.cells) (hslots : slots + N' ≤ R.slots) (hdg : decode cc pc = .ok (.newarray atype, 2))
    (kk : ∀ (q : Nat) (H1 : Heap), va_P D CL (ws ++ [(q, .inl (T j, a0))]) H1 → va_D A (ws ++ [(q, .inl (T j, a0))]) → va_S A s.heap H1 locs → W p l e R s m args below meth c H1 locs (cells + 1) (slots + N') Q (F0 m (pc + 2) ls (.ref q :: rest))) : W p l e R s m args below meth c H locs cells slots Q (F0 m pc ls (.int n :: rest)) := by
  refine va_newa hx hb harr hty hK hP hD hS hA ha hn hN hbytes hcells hslots hdg (fun q cA H1 hK1 hP1 hD1 hS1 => ?_)
  have e1 : cA = T j := by
    have h1 := hRA _ (hK1.2 6 (cA, ty) rfl).2
    have h2 := hRA _ (hK.2 j _ hj).2
    exact Option.some.inj (h1.symm.trans h2)
  subst e1
  exact kk q H1 hP1 hD1 hS1
theorem cn_grid {cA : ClassId} {N' : Nat} {f g : Nat → Option Nat} (h : ∀ i, i < N' → f i = g i) : vp_cell cA (N', .inr (.inr (.inr (.inr f)))) = vp_cell cA (N', .inr (.inr (.inr (.inr g)))) := by
  show ({ cls := cA, slots := Array.ofFn (n := N') fun j => va_rf (f j.val), vm := .none } : Cell) = { cls := cA, slots := Array.ofFn (n := N') fun j => va_rf (g j.val), vm := .none }
  have e1 : (fun j : Fin N' => va_rf (f j.val)) = (fun j : Fin N' => va_rf (g j.val)) := funext fun j => by rw [h j.val j.isLt]
  rw [e1]
theorem cn_mna (hx : p.tables.exec = Jvm.exec) (hb : c.code = cc) {own : String} {index : Nat} (hown : s.vm.findClass own = some m.cls) (hclink : (Cond.classLink own index ("[" ++ (FieldType.array .double).toString)).before args s = true) (hover : va_AOA .double s) (harr : (Cond.arrayClass .double).before args s = true)
    (hK : va_K D CL (tyL T) s) (hP : va_P D CL ws H) (hD : va_D A ws) (hS : va_S A s.heap H locs) (hA : ∀ q : Nat, s.heap.size ≤ q → A q) {k : Int32} {K' : Nat} (hk : ¬ k < 0) (hM : k.toNatClampNeg = K') (hb2 : K' * componentBytes .double ≤ 536870912) (hb3 : K' ≤ 536870912) (hcells : cells + 6 ≤ R.cells) (hslots : slots + (5 + 5 * K') ≤ R.slots) (hdg : decode cc pc = .ok (.multianewarray index 2, 4))
    (kk : ∀ (q : Nat) (r : Nat → Nat) (H1 : Heap), va_P D CL (ws ++ [(q, .inl (T 3, 5, .inr (.inr (.inr (.inr (fun i => some (r i))))))), (r 0, .inl (T 0, K', .inr (.inr (.inr (.inl (fun _ => 0)))))), (r 1, .inl (T 0, K', .inr (.inr (.inr (.inl (fun _ => 0)))))), (r 2, .inl (T 0, K', .inr (.inr (.inr (.inl (fun _ => 0)))))), (r 3, .inl (T 0, K', .inr (.inr (.inr (.inl (fun _ => 0)))))), (r 4, .inl (T 0, K', .inr (.inr (.inr (.inl (fun _ => 0))))))]) H1 →
      va_D A (ws ++ [(q, .inl (T 3, 5, .inr (.inr (.inr (.inr (fun i => some (r i))))))), (r 0, .inl (T 0, K', .inr (.inr (.inr (.inl (fun _ => 0)))))), (r 1, .inl (T 0, K', .inr (.inr (.inr (.inl (fun _ => 0)))))), (r 2, .inl (T 0, K', .inr (.inr (.inr (.inl (fun _ => 0)))))), (r 3, .inl (T 0, K', .inr (.inr (.inr (.inl (fun _ => 0)))))), (r 4, .inl (T 0, K', .inr (.inr (.inr (.inl (fun _ => 0))))))]) → va_S A s.heap H1 locs →
      W p l e R s m args below meth c H1 locs (cells + 6) (slots + (5 + 5 * K')) Q (F0 m (pc + 4) ls (.ref q :: rest))) : W p l e R s m args below meth c H locs cells slots Q (F0 m pc ls (.int k :: .int 5 :: rest)) := by
  have hcy : s.vm.findClass (FieldType.array .double).toString = some (T 0) := (hK.2 0 (T 0, .double) rfl).2
  refine va_mna (X := ws) (L := []) (f := fun _ => .inl (T 0, 0, .inl (fun _ => 0))) (z := (K', .inr (.inr (.inr (.inl (fun _ => 0)))))) (N' := 5) hx hb hown hclink hover harr hcy hK (by rw [show va_pl ([] : List Nat) (fun _ => (.inl (T 0, 0, .inl (fun _ => 0)) : va_E)) = [] from rfl, List.append_nil]; exact hP) (by rw [show va_pl ([] : List Nat) (fun _ => (.inl (T 0, 0, .inl (fun _ => 0)) : va_E)) = [] from rfl, List.append_nil]; exact hD) hS hA (by decide) hk (by decide) hM (by decide) hb2 hb3 rfl rfl (by omega) (by omega) (fun cI => ?_) hdg (fun q r cA H1 hinj hnl hK1 hP1 hD1 hS1 => ?_)
  · show ({ cls := cI, slots := Array.replicate K' _, vm := .none } : Cell) = _
    rw [arrV_new]
    rfl
  · have e1 : cA = T 3 := by
      have h1 : s.vm.findClass ("[" ++ (FieldType.array .double).toString) = some cA := (hK1.2 6 (cA, .array .double) rfl).2
      have h2 : s.vm.findClass ("[" ++ (FieldType.array .double).toString) = some (T 3) := (hK.2 3 (T 3, .array .double) rfl).2
      exact Option.some.inj (h1.symm.trans h2)
    subst e1
    have e2 : (ws ++ [(q, (.inl (T 3, 5, .inr (.inr (.inr (.inr (fun i => if i < 5 then some (r i) else none))))) : va_E))]) ++ va_pl ([] ++ (List.range 5).map r) (vr_up (fun _ => .inl (T 0, 0, .inl (fun _ => 0))) ((List.range 5).map r) (.inl (T 0, K', .inr (.inr (.inr (.inl (fun _ => 0)))))))
        = ws ++ [(q, .inl (T 3, 5, .inr (.inr (.inr (.inr (fun i => if i < 5 then some (r i) else none)))))), (r 0, .inl (T 0, K', .inr (.inr (.inr (.inl (fun _ => 0)))))), (r 1, .inl (T 0, K', .inr (.inr (.inr (.inl (fun _ => 0)))))), (r 2, .inl (T 0, K', .inr (.inr (.inr (.inl (fun _ => 0)))))), (r 3, .inl (T 0, K', .inr (.inr (.inr (.inl (fun _ => 0)))))), (r 4, .inl (T 0, K', .inr (.inr (.inr (.inl (fun _ => 0))))))] := by
      rw [List.append_assoc]
      congr 1
      show _ :: [(r 0, vr_up _ _ _ (r 0)), (r 1, vr_up _ _ _ (r 1)), (r 2, vr_up _ _ _ (r 2)), (r 3, vr_up _ _ _ (r 3)), (r 4, vr_up _ _ _ (r 4))] = _
      rw [vr_up_in (show r 0 ∈ (List.range 5).map r from List.mem_map_of_mem (by decide)), vr_up_in (show r 1 ∈ (List.range 5).map r from List.mem_map_of_mem (by decide)), vr_up_in (show r 2 ∈ (List.range 5).map r from List.mem_map_of_mem (by decide)), vr_up_in (show r 3 ∈ (List.range 5).map r from List.mem_map_of_mem (by decide)), vr_up_in (show r 4 ∈ (List.range 5).map r from List.mem_map_of_mem (by decide))]
    rw [e2] at hP1 hD1
    have eg := cn_grid (cA := T 3) (N' := 5) (f := fun i => if i < 5 then some (r i) else none) (g := fun i => some (r i)) (fun i hi => if_pos hi)
    have swap : ∀ (i : Nat) (x : Nat × va_E), (ws ++ [(q, .inl (T 3, 5, .inr (.inr (.inr (.inr (fun i => some (r i))))))), (r 0, .inl (T 0, K', .inr (.inr (.inr (.inl (fun _ => 0)))))), (r 1, .inl (T 0, K', .inr (.inr (.inr (.inl (fun _ => 0)))))), (r 2, .inl (T 0, K', .inr (.inr (.inr (.inl (fun _ => 0)))))), (r 3, .inl (T 0, K', .inr (.inr (.inr (.inl (fun _ => 0)))))), (r 4, .inl (T 0, K', .inr (.inr (.inr (.inl (fun _ => 0))))))])[i]? = some x →
        ∃ y : Nat × va_E, (ws ++ [(q, .inl (T 3, 5, .inr (.inr (.inr (.inr (fun i => if i < 5 then some (r i) else none)))))), (r 0, .inl (T 0, K', .inr (.inr (.inr (.inl (fun _ => 0)))))), (r 1, .inl (T 0, K', .inr (.inr (.inr (.inl (fun _ => 0)))))), (r 2, .inl (T 0, K', .inr (.inr (.inr (.inl (fun _ => 0)))))), (r 3, .inl (T 0, K', .inr (.inr (.inr (.inl (fun _ => 0)))))), (r 4, .inl (T 0, K', .inr (.inr (.inr (.inl (fun _ => 0))))))])[i]? = some y ∧ y.1 = x.1 ∧ (va_at D CL y H1 → va_at D CL x H1) := by
      intro i x hx
      by_cases hl : i < ws.length
      · rw [List.getElem?_append_left hl] at hx ⊢
        exact ⟨x, hx, rfl, id⟩
      · rw [List.getElem?_append_right (by omega)] at hx ⊢
        generalize hi : i - ws.length = i' at hx ⊢
        match i', hx with
        | 0, hx =>
          cases hx
          refine ⟨_, rfl, rfl, fun h => ?_⟩
          have h9 : H1[q]? = some (vp_cell (T 3) (5, .inr (.inr (.inr (.inr (fun i => if i < 5 then some (r i) else none)))))) := h
          show H1[q]? = some (vp_cell (T 3) (5, .inr (.inr (.inr (.inr (fun i => some (r i)))))))
          rw [h9, eg]
        | i'' + 1, hx => exact ⟨x, hx, rfl, id⟩
    refine W.eq (g2 := F0 m (pc + 4) ls (.ref q :: rest)) rfl ?_
    have kk2 := kk q r H1 (fun i x hx => by obtain ⟨y, h1, -, h3⟩ := swap i x hx; exact h3 (hP1 i y h1)) ⟨fun i j x y hx hy hxy => by obtain ⟨x', g1, g2, -⟩ := swap i x hx; obtain ⟨y', g3, g4, -⟩ := swap j y hy; exact hD1.1 i j x' y' g1 g3 (by rw [g2, g4, hxy]), fun i x hx => by obtain ⟨y, h1, h2, -⟩ := swap i x hx; rw [← h2]; exact hD1.2 i y h1⟩ hS1
    exact W.widen (by omega) (by omega) kk2
variable {cd : Cond} {own host : String} {idx maxL fr lo n nL b : Nat} {y : MethodName} {bytes : ByteArray} {wsY : List Cond}
theorem ci_pre (hN : NW s) (hK : va_K D CL (tyL T) s) (hAO : va_AOA .double s) (hP : va_P D CL ws H) (hD : va_D A ws) (ks : List Nat) (hks : ks.map (fun i => ws[i]?) = wc.map some) (hnd : va_nd ks = true) (av : List Value) : ∀ U : State, U.heap = H → s.WarmedH U.vm → va_Pc av (ciP D T H.size wc) av.toArray U :=
  fun U hU hW => ⟨rfl, (cf_pre hN hK hP hD ks hks hnd av U hU hW).2, hAO.moved hW.alike⟩
/-- behind a constructor: what it made comes last -/
theorem cn_call {S : Type} {w : S → va_W} {wr : va_W} (hr : va_Run p l e R s m args below meth c H locs cells slots mc ms (F0 m pc ls st0) rest (cnQ D w (va_A wc H.size) a) (va_A wc H.size)) (hP : va_P D CL ws H) (hD : va_D A ws) (hS : va_S A s.heap H locs) (hA : ∀ q : Nat, s.heap.size ≤ q → A q)
    (ks isR : List Nat) (hks : ks.map (fun i => ws[i]?) = wc.map some) (hR : isR.map (fun i => ws[i]?) = wr.map some) (hn : va_nd isR = true) (hdis : ∀ i ∈ isR, i ∉ ks)
    (kk : ∀ (u : S) (H1 : Heap) (locs1 : List Loc), va_P D CL (wr ++ w u) H1 → va_D A (wr ++ w u) → va_S A s.heap H1 locs1 → W p l e R s m args below meth c H1 locs1 (cells + mc) (slots + ms) Q (F0 m (pc + 3) ls rest)) : W p l e R s m args below meth c H locs cells slots Q (F0 m pc ls st0) := by
  have hF := va_free hD hS hA ks hks
  refine va_callv hr hS (fun q _ h => hF q h) hF (fun u t H1 locs1 ht hvm hw hB hz hk hS => ?_)
  obtain ⟨hB, hDB⟩ := hB
  rw [ht] at hB
  obtain ⟨hP', hD'⟩ := va_join hP hD ks isR hks hR hn hdis hk hF hB hDB
  exact kk u H1 locs1 hP' hD' hS
theorem cn_runN {S : Type} {w : S → va_W} (hM : CtN l y wsY fr lo mc ms D T b wc w) (Sx : CallFix p m c cc nL s args (cd :: BIG) own) (hw : wsY = Cond.code y bytes maxL none :: BIG) (m1 : Cond.methodLinkNest own idx y host ∈ NEST) (m2 : Cond.instanceMethod y ∈ BIG) (m4 : Cond.initialized y.cls ∈ BIG) (m5 : Cond.code y bytes maxL none ∈ BIG) (hy1 : y.name = "<init>")
    (hd : y.cls ≠ "java/lang/invoke/MethodHandle" ∧ y.cls ≠ "java/lang/invoke/VarHandle" ∧ (parseMethodDescriptor y.desc).map (fun d => d.parameters.length) = some 0) (hRm : fr + 1 ≤ R.frames ∧ 8 + (maxL + 11) + lo ≤ R.locals)
    (hAO : va_AOA .double s) (hN : NW s) (hK : va_K D CL (tyL T) s) (hP : va_P D CL ws H) (hD : va_D A ws) (ks : List Nat) (hks : ks.map (fun i => ws[i]?) = wc.map some) (hnd : va_nd ks = true)
    (hsize : ls.size = nL) (hstack : st0 = .ref b :: rest) (hW : 2 * (F0 m pc ls st0).monitorRoom + (rest.map fun v => v.category).sum ≤ 8) (hdg : decode cc pc = .ok (.invokespecial idx, 3)) (hf : cells + mc ≤ R.cells ∧ slots + ms ≤ R.slots) :
    va_Run p l e R s m args below meth c H locs cells slots mc ms (F0 m pc ls st0) rest (cnQ D w (va_A wc H.size) [Value.ref b].toArray) (va_A wc H.size) := by
  subst hw
  exact va_runIN (As := []) Sx (hM H.size) ⟨va_cnB 0 Sx.2.2.2.2 (good_cons m5) rfl rfl rfl (hN _ m1) (Sx.2.2.2.2 _ (bgc m4)) hd hRm, hy1, Sx.2.2.2.2 _ (bgc m2)⟩ ⟨ciP_blind, ci_pre hN hK hAO hP hD ks hks hnd [.ref b]⟩ rfl rfl hsize hstack hW hdg hf
theorem cn_runO {S : Type} {w : S → va_W} (hM : CtN l y wsY fr lo mc ms D T b wc w) (Sx : CallFix p m c cc nL s args (cd :: BIG) own) (hw : wsY = Cond.code y bytes maxL none :: BIG) (m1 : Cond.methodLink own idx y ∈ BIG) (m2 : Cond.instanceMethod y ∈ BIG) (m4 : Cond.initialized y.cls ∈ BIG) (m5 : Cond.code y bytes maxL none ∈ BIG) (hy1 : y.name = "<init>")
    (hd : y.cls ≠ "java/lang/invoke/MethodHandle" ∧ y.cls ≠ "java/lang/invoke/VarHandle" ∧ (parseMethodDescriptor y.desc).map (fun d => d.parameters.length) = some 0) (hRm : fr + 1 ≤ R.frames ∧ 8 + (maxL + 11) + lo ≤ R.locals)
    (hAO : va_AOA .double s) (hN : NW s) (hK : va_K D CL (tyL T) s) (hP : va_P D CL ws H) (hD : va_D A ws) (ks : List Nat) (hks : ks.map (fun i => ws[i]?) = wc.map some) (hnd : va_nd ks = true)
    (hsize : ls.size = nL) (hstack : st0 = .ref b :: rest) (hW : 2 * (F0 m pc ls st0).monitorRoom + (rest.map fun v => v.category).sum ≤ 8) (hdg : decode cc pc = .ok (.invokespecial idx, 3)) (hf : cells + mc ≤ R.cells ∧ slots + ms ≤ R.slots) :
    va_Run p l e R s m args below meth c H locs cells slots mc ms (F0 m pc ls st0) rest (cnQ D w (va_A wc H.size) [Value.ref b].toArray) (va_A wc H.size) := by
  subst hw
  exact va_runI (As := []) Sx (hM H.size) ⟨callB_of 0 Sx.2.2.2.2 (good_cons m5) rfl rfl rfl (Sx.2.2.2.2 _ (bgc m4)) (Sx.2.2.2.2 _ (bgc m1)) hd hRm, hy1, Sx.2.2.2.2 _ (bgc m2)⟩ ⟨ciP_blind, ci_pre hN hK hAO hP hD ks hks hnd [.ref b]⟩ rfl rfl hsize hstack hW hdg hf
end CN1
