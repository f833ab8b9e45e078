section
/-! throwing methods: contracts and calls of methods that end in an exception, and an exception caught in a method with a table -/
def tq_End (first t : State) (k n : Nat) : Prop := first.WarmedH t.vm ∧ first.sameButNew ({ t with vm := first.vm } : State) [] k n
def tq_Met (l : Launch) (y : MethodName) (ws : List Cond) (rm : Room) (Pc : Array Value → State → Prop) (Qc : Array Value → State → Addr → State → Prop) (mc ms : Nat) : Prop :=
  MetFree l y (headSpec ws rm) Pc (fun _ _ _ _ _ => True) (fun a st o t => ∃ x, o = .threw x ∧ Qc a st x t ∧ tq_End st t mc ms)
def tq_MQ (below : List Frame) (Qc : Array Value → State → Addr → State → Prop) (a : Array Value) (s : State) (mc ms : Nat) : State → Prop := fun t => ∃ x, t.status = .running ∧ Ended t below (.threw x) ∧ Qc a s x t ∧ tq_End s t mc ms
theorem tq_ofW {l : Launch} {y : MethodName} {ws ws' : List Cond} {rm : Room} {Pc : Array Value → State → Prop} {Qc : Array Value → State → Addr → State → Prop} {mc ms : Nat} {cc : ByteArray} {maxL : Nat} {ret : Option FieldType}
    (hy : plainName y.cls = true) (hw : ws = Cond.code y cc maxL ret :: ws')
    (body : ∀ p e s m args below meth c s₁, BodyLoose p l y (headSpec ws rm) cc maxL ret e s m args below meth c s₁ → c.maxLocals = maxL → Pc args s →
      W p l e (headSpec ws rm).room s m args below meth c s.heap [] 0 0 (tq_MQ below Qc args s mc ms) (entryFrame m args maxL)) : tq_Met l y ws rm Pc Qc mc ms := by
  refine MetFree.of_bodyS (code := cc) (maxLocals := maxL) (ret := ret) hy ?_ ?_
  · intro args s m h hn
    obtain ⟨meth, c, h1, h2, h3, h4, h5, h6, -, -⟩ := Cond.code_spec hn (atoms_spec (ws := ws) h _ (by rw [hw]; exact List.mem_cons_self))
    exact ⟨meth, c, h1, h2, h3, h4, h5, h6⟩
  · intro p e s m args below meth c s₁ B hml hP _
    have hh0 : s₁.heap = s.heap := by rw [B.state]; rfl
    obtain ⟨t, a1, x, b1, b2, b3⟩ := body p e s m args below meth c s₁ B hml hP s₁ hh0 (Stand.of_body B)
    exact ⟨t, .threw x, a1, b1, b2, x, rfl, b3.1, b3.2⟩
/-- what an exception's thrower leaves: the object, and all that was there as it was -/
def tq_Q (cls : String) : Array Value → State → Addr → State → Prop := fun _ st x t => st.heap.size ≤ x ∧ (∃ ce : Cell, t.heap[x]? = some ce ∧ st.vm.findClass cls = some ce.cls ∧ ce.vm = .none) ∧ (∀ z : Nat, z < st.heap.size → t.heap[z]? = st.heap[z]?)
section TQ
variable {p : Program} {l : Launch} {e : Env} {R : Room} {s : State} {m : MethodId} {args : Array Value} {below : List Frame} {meth : Method} {c : Code} {H : Heap} {locs : List Loc} {cells slots : Nat} {Q : State → Prop}
/-- new E; dup; ldc text; invokespecial E(String); athrow, in a method that has changed nothing yet -/
theorem tq_throw {cc : ByteArray} (hexec : p.tables.exec = Jvm.exec) (hb : c.code = cc) (htr : e.platform.stackTraces = false) {own cls tx : String} {names : List String} {ia ib ic q pc : Nat} {ls : Array Slot}
    (hown : s.vm.findClass own = some m.cls) (hcls : Bundle.fit cls = true) (hnames : ∀ n ∈ names, Bundle.fit n = true) (h : ∀ a ∈ Bundle.ownAtoms own ic cls names, a.before args s = true)
    (hcl : (Cond.classLink own ia cls).before args s = true) (hini : (Cond.initialized cls).before args s = true) (hZ : vk_R own ib tx q s) (hml : c.maxLocals = ls.size) (hout : c.exceptionTable.isEmpty = true) (hlocks : meth.locks = false)
    (hd0 : decode cc pc = .ok (.new ia, 3)) (hd3 : decode cc (pc + 3) = .ok (.dup, 1)) (hd4 : decode cc (pc + 3 + 1) = .ok (.ldc ib, 2)) (hd6 : decode cc (pc + 3 + 1 + 2) = .ok (.invokespecial ic, 3)) (hd9 : decode cc (pc + 3 + 1 + 2 + 3) = .ok (.athrow, 1))
    (hRf : names.length + 3 < R.frames) (hRl : 1 + (13 * (names.length + 1) + 42) ≤ R.locals) (hRc : 0 + 1 ≤ R.cells) (hRs : 0 + 6 ≤ R.slots) :
    W p l e R s m args below meth c s.heap [] 0 0 (tq_MQ below (tq_Q cls) args s 1 6) (F0 m pc ls []) := by
  have hins : (Cond.instantiable cls 6).before args s = true := h _ (by simp [Bundle.ownAtoms])
  refine W.newc hexec hb hown hcl hins hini rfl hd0 hRc hRs fun cC kC h1 h2 h3 h4 => ?_
  refine lv_dup hexec hb hd3 rfl ?_
  refine va_ldcS hexec hb hown hZ hd4 ?_
  intro T hT X
  have hcell : T.heap[s.heap.size]? = some (freshCell cC kC) := by rw [hT]; simp [freshCell]
  obtain ⟨U, st, hrun, hend, hWm, hsame, ce, hce, hO⟩ := X.ctorThrowS hexec htr hown hcls hnames h (fun _ hx => by cases hx) h1 h2 hcell (Nat.le_refl _) (msg := .ref q) rfl (g := F0 m (pc + 3 + 1 + 2) ls [.ref q, .ref s.heap.size, .ref s.heap.size]) rfl hml.symm rfl rfl (rest := []) rfl (by rw [hb]; exact hd6) (by rw [hb]; exact hd9)
    (fun x hx => by rw [show c.exceptionTable.toList = [] from List.eq_nil_of_length_eq_zero (by simpa [Array.isEmpty] using hout)] at hx; cases hx) hRf (by simp [JFrame.monitorRoom, Value.category]; omega) hlocks
  refine ⟨U, st, s.heap.size, hrun, hend, ⟨Nat.le_refl _, ⟨ce, hce, hO.cls, hO.vm⟩, fun z hz => ?_⟩, hWm, hsame⟩
  obtain ⟨cz, hcz⟩ : ∃ cz, s.heap[z]? = some cz := ⟨_, Array.getElem?_eq_getElem hz⟩
  rw [hcz]
  exact hsame.old_cell hcz
end TQ
end
section
/-! an exception is caught where the catch's class may not have been resolved yet -/
def tq_Finds (e : Env) (s : State) (f : JFrame) (a : Addr) (h : Handler) (s' : State) : Prop :=
  ∀ (Q : Handler → Pre) (E : CtlPost) (d : Bool) (acts : List Action), wp (findHandler f a) Q E e d acts s ↔ Q h d acts s'
theorem tq_go {Q : Handler → Pre} {E : CtlPost} {e : Env} {d : Bool} {acts : List Action} {s : State} {f : JFrame} {a : Addr} {x : ExceptionTableEntry} {t : List ExceptionTableEntry} {c : ClassId} {cell : Cell} {vm' : Vm} (hx : covers x f.pc = true) (h0 : x.catchType ≠ 0)
    (hg : (Jvm.resolveClass f.method.cls x.catchType).Gives e.toSetting s.vm (.ok c) vm') (hsz : vm'.classes.size ≤ s.vm.classes.size) (hcell : s.heap[a]? = some cell) (hobj : ∀ k, cell.vm ≠ .statics k)
    (hk : ∃ k, vm'.classes[cell.cls]? = some k) (hc : ∃ k, vm'.classes[c]? = some k) :
    wp (findHandler.go f a (x :: t)) Q E e d acts s ↔
      if vm'.assignable cell.cls c = true then Q (.found x.handlerPc) d acts (s.setVm vm') else wp (findHandler.go f a t) Q E e d acts (s.setVm vm') := by
  simp only [covers] at hx
  obtain ⟨ha, ht⟩ := hg.op (op := VmOp.resolveClass f.method.cls x.catchType) rfl
  cases hfit : vm'.assignable cell.cls c <;>
    simp [findHandler.go, hx, h0, ha, ht, hsz, hcell, hobj, hk, hc, hfit, VmOp.dirties, VmOp.acts]
theorem tq_stepc {e : Env} {s s' : State} {a : Addr} {f : JFrame} {r : List Frame} {pc : Nat} (hfind : tq_Finds e s f a (.found pc) s') :
    (stepThrowing e s a (.java f :: r)).Is (s'.setFrames (.java { f with pc := pc, stack := [.ref a] } :: r)) [] := by
  simp only [stepThrowing, searchFrame, vmDo]
  generalize hr : Sem.go _ e false [] s = res
  obtain ⟨as, rfl, ha⟩ := Sem.eq_ok_of hr (a := Handler.found pc) (s' := s') (acts' := []) (by simp [hfind _ _ _ _])
  exact ⟨rfl, ha⟩
theorem tq_caught {tb : Tables} {e : Env} {s target : State} {g : JFrame} {c : Code} {below : List Frame} {a : Addr} {vm' : Vm} (h : At s g.method c below) {pc : Nat} (hfind : tq_Finds e ((s.setTop g).pushFrame (.throwing a)) g a (.found pc) (((s.setTop g).pushFrame (.throwing a)).setVm vm'))
    (hrest : Steps tb e below ((s.setVm vm').setTop { g with pc := pc, stack := [.ref a] }) target) :
    Steps tb e below ((s.setTop g).pushFrame (.throwing a)) target := by
  obtain ⟨hgo, hw⟩ := h.throwing a
  refine Steps.head hgo hw ?_
  rw [stepThread_throwing (frames_entered h.top _), (tq_stepc (s := (s.setTop g).pushFrame (.throwing a)) hfind).1]
  obtain ⟨g₀, hg⟩ := Option.isSome_iff_exists.mp h.top
  obtain ⟨r, hr⟩ := State.topJava?_eq_some.mp hg
  have hr' : (s.setVm vm').frames = .java g₀ :: r := hr
  have e1 : (((s.setTop g).pushFrame (.throwing a)).setVm vm').setFrames (.java { g with pc := pc, stack := [.ref a] } :: s.frames.tail) = (s.setVm vm').setTop { g with pc := pc, stack := [.ref a] } := by
    rw [State.pushFrame, State.setTop_of_frames _ hr, State.setFrames_setFrames, State.setTop_of_frames _ hr', hr]
    show ((s.setVm vm').setFrames _).setFrames _ = _
    rw [State.setFrames_setFrames]
    rfl
  rw [e1]
  exact hrest
section TQC
variable {p : Program} {l : Launch} {e : Env} {R : Room} {s : State} {m : MethodId} {args : Array Value} {below : List Frame} {meth : Method} {c : Code} {T : State} {H : Heap} {locs : List Loc} {cells slots : Nat} {Q : State → Prop}
/-- caught by the first entry of the table that covers the place -/
theorem tq_at1 (X : Stand p l e R s m args below meth c T locs cells slots) (a : Addr) {g : JFrame} (hg : g.method = m) {own C : String} (hown : s.vm.findClass own = some m.cls) {x : ExceptionTableEntry} {rest : List ExceptionTableEntry}
    (ht : c.exceptionTable.toList = x :: rest) (hx : covers x g.pc = true) (h0 : x.catchType ≠ 0) (hlink : (Cond.classLink own x.catchType C).before args s = true)
    {ce : Cell} (hce : T.heap[a]? = some ce) (hv : ce.vm = .none) (hC : s.vm.findClass C = some ce.cls) :
    ∃ vm' : Vm, Stand p l e R s m args below meth c (T.setVm vm') locs cells slots ∧ ∀ target, Steps p.tables e below ((T.setVm vm').setTop { g with pc := x.handlerPc, stack := [.ref a] }) target → Steps p.tables e below ((T.setTop g).pushFrame (.throwing a)) target := by
  subst hg
  have hpl : e.platform.magicAccessors = ({} : Platform).magicAccessors := by rw [X.admits.platform]
  obtain ⟨cc, hfcc, hcl⟩ := Cond.classLink_spec hown hlink e.platform hpl
  cases hC.symm.trans hfcc
  obtain ⟨hg₁, hwarm₁, hready₁⟩ := State.classEntry (e := e) X.warmed hcl
  have hsz : (T.vm.noted g.method.cls x.catchType (.cls ce.cls)).classes.size ≤ T.vm.classes.size := by no_record
  generalize T.vm.noted g.method.cls x.catchType (.cls ce.cls) = vm₁ at hg₁ hwarm₁ hready₁ hsz
  obtain ⟨k0, hk0, -⟩ := Vm.findClass_spec hC
  obtain ⟨k1, hk1, -⟩ := hwarm₁.alike.2.2 _ _ hk0
  have X₁ := X.noted hwarm₁
  refine ⟨vm₁, X₁, fun target hrest => tq_caught X.here (vm' := vm₁) (pc := x.handlerPc) ?_ hrest⟩
  intro Q E d acts
  rw [W.findHandler_eq (meth := meth) (code := c) (by rw [Stand.throwing_vm]; exact X.method') X.code, ht, tq_go hx h0 (by rw [Stand.throwing_vm]; exact hg₁) (by rw [Stand.throwing_vm]; exact hsz) (by rw [Stand.throwing_heap]; exact hce) (fun k h => by rw [hv] at h; cases h) ⟨k1, hk1⟩ ⟨k1, hk1⟩, if_pos (va_asg _ _)]
/-- caught by the second, the first names another class -/
theorem tq_at2 (X : Stand p l e R s m args below meth c T locs cells slots) (a : Addr) {g : JFrame} (hg : g.method = m) {own C C0 : String} (hown : s.vm.findClass own = some m.cls) {x0 x : ExceptionTableEntry} {rest : List ExceptionTableEntry}
    (ht : c.exceptionTable.toList = x0 :: x :: rest) (hx0 : covers x0 g.pc = true) (hx : covers x g.pc = true) (h00 : x0.catchType ≠ 0) (h0 : x.catchType ≠ 0) (hlink0 : (Cond.classLink own x0.catchType C0).before args s = true) (hlink : (Cond.classLink own x.catchType C).before args s = true)
    {ce : Cell} (hce : T.heap[a]? = some ce) (hv : ce.vm = .none) (hC : s.vm.findClass C = some ce.cls) (hno : va_Nc C C0 s) :
    ∃ vm' : Vm, Stand p l e R s m args below meth c (T.setVm vm') locs cells slots ∧ ∀ target, Steps p.tables e below ((T.setVm vm').setTop { g with pc := x.handlerPc, stack := [.ref a] }) target → Steps p.tables e below ((T.setTop g).pushFrame (.throwing a)) target := by
  subst hg
  have hpl : e.platform.magicAccessors = ({} : Platform).magicAccessors := by rw [X.admits.platform]
  obtain ⟨cc0, hfcc0, hcl0⟩ := Cond.classLink_spec hown hlink0 e.platform hpl
  obtain ⟨cc, hfcc, hcl⟩ := Cond.classLink_spec hown hlink e.platform hpl
  cases hC.symm.trans hfcc
  obtain ⟨n1, n2, hn1, hn2, hn3⟩ := hno
  cases hC.symm.trans hn1
  cases hfcc0.symm.trans hn2
  obtain ⟨hg₁, hwarm₁, hready₁⟩ := State.classEntry (e := e) X.warmed hcl0
  have hsz : (T.vm.noted g.method.cls x0.catchType (.cls cc0)).classes.size ≤ T.vm.classes.size := by no_record
  generalize T.vm.noted g.method.cls x0.catchType (.cls cc0) = vm₁ at hg₁ hwarm₁ hready₁ hsz
  have X₁ := X.noted hwarm₁
  obtain ⟨hg₂, hwarm₂, hready₂⟩ := State.classEntry (e := e) X₁.warmed hcl
  have hsz2 : ((T.setVm vm₁).vm.noted g.method.cls x.catchType (.cls ce.cls)).classes.size ≤ (T.setVm vm₁).vm.classes.size := by no_record
  generalize (T.setVm vm₁).vm.noted g.method.cls x.catchType (.cls ce.cls) = vm₂ at hg₂ hwarm₂ hready₂ hsz2
  obtain ⟨k0, hk0, -⟩ := Vm.findClass_spec hC
  obtain ⟨k1, hk1, -⟩ := hwarm₁.alike.2.2 _ _ hk0
  obtain ⟨k2, hk2, -⟩ := hwarm₂.alike.2.2 _ _ hk0
  obtain ⟨j0, hj0, -⟩ := Vm.findClass_spec hfcc0
  obtain ⟨j1, hj1, -⟩ := hwarm₁.alike.2.2 _ _ hj0
  have X₂ := X₁.noted hwarm₂
  refine ⟨vm₂, X₂, fun target hrest => tq_caught X.here (vm' := vm₂) (pc := x.handlerPc) ?_ hrest⟩
  intro Q E d acts
  rw [W.findHandler_eq (meth := meth) (code := c) (by rw [Stand.throwing_vm]; exact X.method') X.code, ht, tq_go hx0 h00 (by rw [Stand.throwing_vm]; exact hg₁) (by rw [Stand.throwing_vm]; exact hsz) (by rw [Stand.throwing_heap]; exact hce) (fun k h => by rw [hv] at h; cases h) ⟨k1, hk1⟩ ⟨j1, hj1⟩,
    if_neg (by rw [hwarm₁.alike.assignable, hn3]; decide), tq_go (s := ((T.setTop g).pushFrame (.throwing a)).setVm vm₁) hx h0 hg₂ hsz2 (by show ((T.setTop g).pushFrame (.throwing a)).heap[a]? = _; rw [Stand.throwing_heap]; exact hce) (fun k h => by rw [hv] at h; cases h) ⟨k2, hk2⟩ ⟨k2, hk2⟩, if_pos (va_asg _ _)]
  rfl
end TQC
end
section
section TQV
variable {p : Program} {l : Launch} {e : Env} {R : Room} {s : State} {m : MethodId} {args : Array Value} {below : List Frame} {meth : Method} {c : Code} {T : State} {H : Heap} {locs : List Loc} {cells slots : Nat} {Q : State → Prop}
/-- a call whose method throws -/
theorem tq_callV (X : Stand p l e R s m args below meth c T locs cells slots) (hexec : p.tables.exec = Jvm.exec) {own C : String} {index : Nat} {y : MethodName} {bytes : ByteArray} {maxL : Nat} {ret : Option FieldType}
    {ws : List Cond} {rm : Room} {Pc : Array Value → State → Prop} {Qc : Array Value → State → Addr → State → Prop} {mc ms n : Nat} (hM : tq_Met l y ws rm Pc Qc mc ms) (cw : CallW R s args own C index y bytes maxL ret ws rm mc ms n) (hblind : FrameBlind Pc)
    (hown : s.vm.findClass own = some m.cls) {b : Addr} {cellB : Cell} (hcell : T.heap[b]? = some cellB) (hobj : cellB.vm.isStatics = false) (hcls : s.vm.findClass C = some cellB.cls)
    {g : JFrame} (hg : g.method = m) (hsize : g.locals.size = c.maxLocals) {argsL rest : List Value} (hlen : argsL.length = n)
    (hstack : g.stack = argsL.reverse ++ .ref b :: rest) (hW : 2 * g.monitorRoom + (rest.map fun v => v.category).sum ≤ 8) (hdg : decode c.code g.pc = .ok (.invokevirtual index, 3))
    (hcells : cells + mc ≤ R.cells) (hslots : slots + ms ≤ R.slots) (hPc : ∀ vm₁, s.WarmedH vm₁ → Pc (Value.ref b :: argsL).toArray (T.setVm vm₁)) :
    ∃ (x : Addr) (vm₁ : Vm) (g' : JFrame) (mk : MethodId) (t T' : State), Stand p l e R s m args below meth c T' locs (cells + mc) (slots + ms) ∧ s.WarmedH vm₁ ∧ T'.heap = t.heap ∧ T'.vm = t.vm ∧
      Qc (Value.ref b :: argsL).toArray ((T.setVm vm₁).calling g' mk (Value.ref b :: argsL).toArray) x t ∧
      ∀ target, Steps p.tables e below ((T'.setTop { g with stack := rest }).pushFrame (.throwing x)) target → Steps p.tables e below (T.setTop g) target := by
  obtain ⟨⟨hrc, hrs, hframes, hlocals, hws, hcw, hcode, hini, hy, hln, hlink⟩, hinst, hsel⟩ := cw
  obtain ⟨mk, methM, hnamed, hmethM, hstM, habM⟩ := Cond.instanceMethod_spec hinst
  obtain ⟨methM', cM, hmethM', -, -, -, -, -, -, hsigM⟩ := Cond.code_spec hnamed hcode
  cases hmethM.symm.trans hmethM'
  obtain ⟨c2, r2, m2, q1, q2, q3, q4, kP, hkP, hkPi⟩ := Cond.selects_spec hsel
  cases hcls.symm.trans q1
  cases (State.methodFound?_of_named hnamed hy).symm.trans q2
  cases hnamed.symm.trans q3
  have hselP : selectMethod e.platform s.vm cellB.cls mk = .method mk := by rw [Launch.admits_selectMethod X.admits]; exact q4
  obtain ⟨vm₁, X₁, hstep₁⟩ := X.invokevirtual hexec hown hlink hnamed hmethM hstM hkP hkPi hy (a := b) (cell := cellB) hcell
    (fun z h => by rw [h] at hobj; cases hobj) hselP hmethM habM hkP hkPi (g := g) hg (argsL := argsL) (rest := rest) (hlen.trans (hln _ hsigM)) hstack hdg
  obtain ⟨kY, hkY, -⟩ := className_of_methodNamed (X₁.named hnamed)
  have hinitY : kY.init = .initialized := Cond.initialized_spec (args := #[]) (findClass_of_methodNamed (X₁.named hnamed)) hkY (word_at (a' := #[]) X₁.warmed (Or.inl (by first | rfl | simp [Cond.onTables, Cond.keeps, Cond.steady])) hini)
  obtain ⟨methY, cY, hmY, hcY, -, hlY, -⟩ := Cond.code_spec (X₁.named hnamed) (hws _ hcw (Value.ref b :: argsL).toArray _ X₁.warmed)
  have h : At (T.setVm vm₁) ({ g with stack := rest } : JFrame).method c below := by show At _ g.method _ _; rw [hg]; exact X₁.here
  have happ : (headSpec ws rm).appliesLoose y e.platform ((T.setVm vm₁).calling { g with stack := rest } mk (Value.ref b :: argsL).toArray) = true :=
    Spec.appliesLoose_calling (g := { g with stack := rest }) h hdg (X₁.named hnamed) hkY hinitY
      (X₁.room_calling (g := { g with stack := rest }) (R' := (headSpec ws rm).room) hsize hmY hcY hframes (by rw [hlY]; show 2 * g.monitorRoom + (rest.map fun v => v.category).sum + (maxL + 11) + rm.locals ≤ _; omega) (by rw [show (headSpec ws rm).room.cells = mc from hrc]; exact hcells) (by rw [show (headSpec ws rm).room.slots = ms from hrs]; exact hslots))
      (atoms_intro fun w hw => hws w hw _ _ X₁.warmed)
  obtain ⟨mid, hmid⟩ := h.above
  have hfr : ((T.setVm vm₁).setTop { g with stack := rest }).frames = (.java { g with stack := rest } :: mid) ++ below := by rw [State.frames_setTop' _ h.top, hmid]; rfl
  obtain ⟨o, s₂, hsteps, -, hend, hq0⟩ := Steps.callFree hM p X.admits X.cas X.clock (acts := []) hfr happ (hblind _ _ _ _ (hPc vm₁ X₁.warmed)) trivial
  have hq1 : ∃ x, o = .threw x ∧ Qc (Value.ref b :: argsL).toArray ((T.setVm vm₁).calling { g with stack := rest } mk (Value.ref b :: argsL).toArray) x s₂ ∧ tq_End ((T.setVm vm₁).calling { g with stack := rest } mk (Value.ref b :: argsL).toArray) s₂ mc ms := hq0
  obtain ⟨x, rfl, hq, hW₂, e2, q2, q3, q4, q5, q6⟩ := hq1
  rw [State.frames_setTop' _ h.top] at hend
  have e3 : s₂ = ({ ((T.setVm vm₁).calling { g with stack := rest } mk (Value.ref b :: argsL).toArray).setFrames s₂.frames with heap := s₂.heap, slotsUsed := s₂.slotsUsed } : State).setVm s₂.vm := by
    have : s₂ = ({ s₂ with vm := ((T.setVm vm₁).calling { g with stack := rest } mk (Value.ref b :: argsL).toArray).vm } : State).setVm s₂.vm := rfl
    rw [e2] at this
    exact this
  have hW' : (T.setVm vm₁).WarmedH s₂.vm := hW₂
  obtain ⟨g₀, hg0⟩ := Option.isSome_iff_exists.mp h.top
  obtain ⟨r, hr⟩ := State.topJava?_eq_some.mp hg0
  have hs₂ : s₂ = ((({ T.setVm vm₁ with heap := s₂.heap, slotsUsed := s₂.slotsUsed } : State).setVm s₂.vm).setTop { g with stack := rest }).pushFrame (.throwing x) := by
    have hr' : (({ T.setVm vm₁ with heap := s₂.heap, slotsUsed := s₂.slotsUsed } : State).setVm s₂.vm).frames = .java g₀ :: r := hr
    have hf₂ : s₂.frames = .throwing x :: .java { g with stack := rest } :: (T.setVm vm₁).frames.tail := hend
    refine e3.trans ?_
    rw [hf₂, State.calling_eq h.top, State.setFrames_setFrames, State.pushFrame, State.frames_setTop _ hr', State.setTop_of_frames _ hr', State.setFrames_setFrames, hr]
    rfl
  have hsame : (T.setVm vm₁).sameButNew ({ T.setVm vm₁ with heap := s₂.heap, slotsUsed := s₂.slotsUsed } : State) [] mc ms := by
    refine ⟨?_, q2, q3, q4, q5, q6⟩
    obtain ⟨t, ht, -⟩ := State.frames_cons hr
    show ({ T.setVm vm₁ with heap := s₂.heap, slotsUsed := s₂.slotsUsed } : State) = { (T.setVm vm₁).setFrames (T.setVm vm₁).frames with heap := s₂.heap, slotsUsed := s₂.slotsUsed }
    rw [State.setFrames_self ht]
  subst hg
  have hS2 := X₁.same.trans (hsame.setVm s.vm)
  rw [List.append_nil] at hS2
  refine ⟨x, vm₁, { g with stack := rest }, mk, s₂, (({ T.setVm vm₁ with heap := s₂.heap, slotsUsed := s₂.slotsUsed } : State).setVm s₂.vm),
    ⟨X₁.admits, X₁.cas, X₁.clock, X₁.frames, X₁.room, X₁.hears, X₁.method, X₁.code, (X₁.here.setHeapUsed s₂.heap s₂.slotsUsed).setVm hW'.alike, X₁.tail, State.WarmedH.trans X₁.warmed hW', X₁.limits, X₁.bytes, hS2⟩,
    X₁.warmed, rfl, rfl, hq, fun target ht => hstep₁ _ fun acts => ?_⟩
  rw [doInvoke_state]
  rw [← hs₂] at ht
  exact hsteps.trans ht
variable {cc : ByteArray} {nL index maxL mc ms n pc : Nat} {own C : String} {Ts : List Cond} {y : MethodName} {bytes : ByteArray} {ret : Option FieldType} {ws : List Cond} {rm : Room} {Pc : Array Value → State → Prop} {b : Addr} {As rest st0 : List Value} {ls : Array Slot} {E : String}
/-- a call that throws an E, caught by the table's first entry -/
theorem tq_c1 (S : CallFix p m c cc nL s args Ts own) (hM : tq_Met l y ws rm Pc (tq_Q E) mc ms) (cw : CallW R s args own C index y bytes maxL ret ws rm mc ms n) (hp : PreV s H C b Pc As)
    (hn : As.length = n) (hsize : ls.size = nL) (hstack : st0 = As.reverse ++ .ref b :: rest) (hW : (rest.map fun v => v.category).sum ≤ 8) (hdg : decode cc pc = .ok (.invokevirtual index, 3)) (hf : cells + mc ≤ R.cells ∧ slots + ms ≤ R.slots)
    {x : ExceptionTableEntry} {tl : List ExceptionTableEntry} (ht : c.exceptionTable.toList = x :: tl) (hx : covers x pc = true) (h0 : x.catchType ≠ 0) (hlink : (Cond.classLink own x.catchType E).before args s = true)
    (kk : ∀ (a : Addr) (H1 : Heap), H.size ≤ H1.size → (∀ q : Nat, q < H.size → H1[q]? = H[q]?) → W p l e R s m args below meth c H1 locs (cells + mc) (slots + ms) Q (F0 m x.handlerPc ls [.ref a])) : W p l e R s m args below meth c H locs cells slots Q (F0 m pc ls st0) := by
  obtain ⟨hexec, hb, hml, ho, -⟩ := S
  obtain ⟨hblind, ⟨cellB, hcB, hoB, hclB⟩, hPc⟩ := hp
  intro T hT X
  obtain ⟨a, vm₁, g', mk, t, T', X', hwm, e1, e2, ⟨q1, ⟨ce, hce, hcc, hcv⟩, q3⟩, st⟩ := tq_callV X hexec hM cw hblind ho (by rw [hT]; exact hcB) hoB hclB (g := F0 m pc ls st0) rfl (hsize.trans hml.symm) (argsL := As) (rest := rest) hn hstack (by show 2 * 0 + _ ≤ _; omega) (by rw [hb]; exact hdg) hf.1 hf.2 (fun vm₁ hW₁ => hPc (T.setVm vm₁) hT hW₁)
  have hcE : s.vm.findClass E = some ce.cls := by rw [← hwm.alike.findClass]; exact hcc
  obtain ⟨vm₂, X₂, st₂⟩ := tq_at1 X' a (g := { F0 m pc ls st0 with stack := rest }) rfl ho ht hx h0 hlink (by rw [e1]; exact hce) hcv hcE
  have hk : ∀ q : Nat, q < H.size → T'.heap[q]? = H[q]? := fun q hq => by
    rw [e1, q3 q (by show q < T.heap.size; rw [hT]; exact hq)]
    show T.heap[q]? = _
    rw [hT]
  have hsz : H.size ≤ T'.heap.size := by
    have h1 := X'.heapSize
    have h2 := X.heapSize
    rcases Nat.lt_or_ge T'.heap.size H.size with h | h
    · exfalso
      have h3 := hk T'.heap.size h
      rw [Array.getElem?_eq_none (Nat.le_refl _), Array.getElem?_eq_getElem h] at h3
      cases h3
    · exact h
  obtain ⟨t2, a1, b1⟩ := kk a T'.heap hsz hk (T'.setVm vm₂) rfl X₂
  exact ⟨t2, st _ (st₂ _ a1), b1⟩
/-- a call that throws an E, caught by the table's second entry, the first naming an E0 -/
theorem tq_c2 {E0 : String} (S : CallFix p m c cc nL s args Ts own) (hM : tq_Met l y ws rm Pc (tq_Q E) mc ms) (cw : CallW R s args own C index y bytes maxL ret ws rm mc ms n) (hp : PreV s H C b Pc As)
    (hn : As.length = n) (hsize : ls.size = nL) (hstack : st0 = As.reverse ++ .ref b :: rest) (hW : (rest.map fun v => v.category).sum ≤ 8) (hdg : decode cc pc = .ok (.invokevirtual index, 3)) (hf : cells + mc ≤ R.cells ∧ slots + ms ≤ R.slots)
    {x0 x : ExceptionTableEntry} {tl : List ExceptionTableEntry} (ht : c.exceptionTable.toList = x0 :: x :: tl) (hx0 : covers x0 pc = true) (hx : covers x pc = true) (h00 : x0.catchType ≠ 0) (h0 : x.catchType ≠ 0) (hlink0 : (Cond.classLink own x0.catchType E0).before args s = true) (hlink : (Cond.classLink own x.catchType E).before args s = true) (hno : va_Nc E E0 s)
    (kk : ∀ (a : Addr) (H1 : Heap), H.size ≤ H1.size → (∀ q : Nat, q < H.size → H1[q]? = H[q]?) → W p l e R s m args below meth c H1 locs (cells + mc) (slots + ms) Q (F0 m x.handlerPc ls [.ref a])) : W p l e R s m args below meth c H locs cells slots Q (F0 m pc ls st0) := by
  obtain ⟨hexec, hb, hml, ho, -⟩ := S
  obtain ⟨hblind, ⟨cellB, hcB, hoB, hclB⟩, hPc⟩ := hp
  intro T hT X
  obtain ⟨a, vm₁, g', mk, t, T', X', hwm, e1, e2, ⟨q1, ⟨ce, hce, hcc, hcv⟩, q3⟩, st⟩ := tq_callV X hexec hM cw hblind ho (by rw [hT]; exact hcB) hoB hclB (g := F0 m pc ls st0) rfl (hsize.trans hml.symm) (argsL := As) (rest := rest) hn hstack (by show 2 * 0 + _ ≤ _; omega) (by rw [hb]; exact hdg) hf.1 hf.2 (fun vm₁ hW₁ => hPc (T.setVm vm₁) hT hW₁)
  have hcE : s.vm.findClass E = some ce.cls := by rw [← hwm.alike.findClass]; exact hcc
  obtain ⟨vm₂, X₂, st₂⟩ := tq_at2 X' a (g := { F0 m pc ls st0 with stack := rest }) rfl ho ht hx0 hx h00 h0 hlink0 hlink (by rw [e1]; exact hce) hcv hcE hno
  have hk : ∀ q : Nat, q < H.size → T'.heap[q]? = H[q]? := fun q hq => by
    rw [e1, q3 q (by show q < T.heap.size; rw [hT]; exact hq)]
    show T.heap[q]? = _
    rw [hT]
  have hsz : H.size ≤ T'.heap.size := by
    rcases Nat.lt_or_ge T'.heap.size H.size with h | h
    · exfalso
      have h3 := hk T'.heap.size h
      rw [Array.getElem?_eq_none (Nat.le_refl _), Array.getElem?_eq_getElem h] at h3
      cases h3
    · exact h
  obtain ⟨t2, a1, b1⟩ := kk a T'.heap hsz hk (T'.setVm vm₂) rfl X₂
  exact ⟨t2, st _ (st₂ _ a1), b1⟩
end TQV
end
section
/-! multianewarray of two dimensions of ints, made in one instruction -/
def tq_fill (a : Nat) (inner : Cell) : Nat → Nat → Cell → State → State
  | 0, _, _, U => U
  | k + 1, i, c, U => tq_fill a inner k (i + 1) (c.setSlot i (.ref U.heap.size)) ((U.pushCell inner).setCell a (c.setSlot i (.ref U.heap.size)))
theorem tq_fill_heap {a : Nat} {inner : Cell} : ∀ (k i : Nat) (c : Cell) (U : State), a < U.heap.size → (tq_fill a inner k i c U).heap.size = U.heap.size + k ∧ ∀ q : Nat, q < U.heap.size → q ≠ a → (tq_fill a inner k i c U).heap[q]? = U.heap[q]? := by
  intro k
  induction k with
  | zero => intro i c U ha; exact ⟨rfl, fun _ _ _ => rfl⟩
  | succ k ih =>
    intro i c U ha
    have hz : ((U.pushCell inner).setCell a (c.setSlot i (.ref U.heap.size))).heap.size = U.heap.size + 1 := by rw [size_setCell, size_pushCell]
    obtain ⟨h1, h2⟩ := ih (i + 1) (c.setSlot i (.ref U.heap.size)) ((U.pushCell inner).setCell a (c.setSlot i (.ref U.heap.size))) (by omega)
    refine ⟨by show (tq_fill a inner k _ _ _).heap.size = _; rw [h1, hz]; omega, fun q hq hne => ?_⟩
    show (tq_fill a inner k _ _ _).heap[q]? = _
    rw [h2 q (by omega) hne, heapAt_setCell_ne _ (Ne.symm hne)]
    exact State.heap_pushCell_of_lt _ _ hq
theorem tq_newArray {Q : Addr → Pre} {E : CtlPost} {e : Env} {d : Bool} {acts : List Action} {s : State} {c n : Nat} {v : Value} {k : Class} {comp : ClassId} {ty : FieldType} (hk : s.vm.classes[c]? = some k) (hkind : k.kind = .array comp ty) (hlim : ¬ n > e.platform.arrayLengthLimit) (hhp : ¬ n * componentBytes ty > e.platform.maxHeapBytes)
    (h1 : s.heap.size < e.platform.maxCells) (h2 : s.slotsUsed + n ≤ e.platform.maxSlots) (hv : fits ty v = true) (hq : ∀ acts', Q s.heap.size d acts' (s.pushCell { cls := c, slots := Array.replicate n v, vm := .none })) : wp (Jvm.newArray c n v) Q E e d acts s := by
  have hs : ¬ n > e.platform.maxSlots := by omega
  simp only [Jvm.newArray, Jvm.arrayFits, wp_bind', W.ask, W.ite, hlim, if_false, wp_pure', W.theClass, hk]
  refine ⟨k, rfl, ?_⟩
  rw [hkind]
  simp only [wp_bind', W.ask, W.ite, hhp, hs, if_false, wp_pure', W.alloc]
  refine ⟨h1, by simpa using h2, fun i w hw => ?_, hq _⟩
  simp only [Array.getElem?_replicate] at hw
  split at hw
  · cases hw; simp [State.fitsSlot, State.slotType?, hk, hkind, hv]
  · cases hw
section TQM
variable {p : Program} {l : Launch} {e : Env} {R : Room} {s : State} {m : MethodId} {args : Array Value} {below : List Frame} {meth : Method} {c : Code} {H : Heap} {locs : List Loc} {Q : State → Prop}
theorem tq_fill_stand {a : Nat} {inner : Cell} (ha : s.heap.size ≤ a) : ∀ (k i : Nat) (co : Cell) (U : State) (cells slots : Nat), U.heap[a]? = some co → Stand p l e R s m args below meth c U locs cells slots → Stand p l e R s m args below meth c (tq_fill a inner k i co U) locs (cells + k) (slots + k * inner.slots.size) := by
  intro k
  induction k with
  | zero => intro i co U cells slots _ X; rw [Nat.zero_mul]; exact X
  | succ k ih =>
    intro i co U cells slots hc X
    have hl : a < U.heap.size := (Array.getElem?_eq_some_iff.mp hc).1
    have X1 := X.pushed inner
    have hc1 : (U.pushCell inner).heap[a]? = some co := by rw [State.heap_pushCell_of_lt _ _ hl]; exact hc
    have X2 := X1.stored hc1 i (.ref U.heap.size)
    have X3 : Stand p l e R s m args below meth c ((U.pushCell inner).setCell a (co.setSlot i (.ref U.heap.size))) locs (cells + 1) (slots + inner.slots.size) := by
      refine Stand.forget X2 (fun q hq => ?_)
      rw [List.mem_singleton.mp hq]
      exact ha
    have X4 := ih (i + 1) (co.setSlot i (.ref U.heap.size)) _ _ _ (heapAt_setCell_self (s := U.pushCell inner) _ (show a < (U.pushCell inner).heap.size by rw [size_pushCell]; omega)) X3
    rw [show cells + (k + 1) = cells + 1 + k by omega, show slots + (k + 1) * inner.slots.size = slots + inner.slots.size + k * inner.slots.size by rw [Nat.succ_mul]; omega]
    exact X4
theorem tq_fill_wp {a n : Nat} {comp cO : ClassId} {kO kI : Class} {tI : ClassId} (ha : s.heap.size ≤ a) (hn : ¬ n > 536870912 / 4) {f : JFrame} {body : Nat → PUnit → Sem (ForInStep PUnit)}
    (hbody : ∀ i u, body i u = (do let x ← multianewarray.make comp [Int32.ofNat n]; Jvm.writeLoc a i (.ref x); Pure.pure (ForInStep.yield PUnit.unit)))
    (hN : n < 2 ^ 31) :
    ∀ (k i : Nat) (co : Cell) (U : State) (cells slots : Nat) (d : Bool) (acts : List Action) (E : CtlPost) (Q : PUnit → Pre), U.heap[a]? = some co → co.cls = cO → co.vm = .none → U.vm.classes[cO]? = some kO → kO.kind = .array comp (.array .int) → U.vm.classes[comp]? = some kI → kI.kind = .array tI .int → i + k ≤ co.slots.size →
      Stand p l e R s m args below meth c U locs cells slots → cells + k ≤ R.cells → slots + k * n ≤ R.slots →
      (∀ d' acts', Q PUnit.unit d' acts' ((tq_fill a { cls := comp, slots := Array.replicate n (.int 0), vm := .none } k i co U).setTop f)) → wp (forIn (List.range' i k) PUnit.unit body) Q E e d acts (U.setTop f) := by
  intro k
  induction k with
  | zero =>
    intro i co U cells slots d acts E Q _ _ _ _ _ _ _ _ _ _ _ hq
    simp only [List.range'_zero, List.forIn_nil, wp_pure']
    exact hq d acts
  | succ k ih =>
    intro i co U cells slots d acts E Q hc h1 h2 h3 h4 h5 h6 hi X hcl hsl hq
    have hl : a < U.heap.size := (Array.getElem?_eq_some_iff.mp hc).1
    have hr1 := X.cellsAbove (n := k + 1) hcl
    have hr2 := X.slotsAbove (n := (k + 1) * n) hsl
    have hneg : ¬ Int32.ofNat n < 0 := nI_pos hN
    have hcl2 : (Int32.ofNat n).toNatClampNeg = n := nI_clamp hN
    have hlim : ¬ n > e.platform.arrayLengthLimit := by rw [Launch.admits_arrayLengthLimit X.admits]; omega
    have hhp : ¬ n * componentBytes .int > e.platform.maxHeapBytes := by rw [Launch.admits_maxHeapBytes X.admits]; show ¬ n * 4 > 536870912; omega
    have hm : n ≤ (k + 1) * n := Nat.le_mul_of_pos_left n (Nat.succ_pos k)
    simp only [List.range'_succ, List.forIn_cons, hbody, wp_bind', multianewarray.make, W.ite, hneg, if_false, wp_pure', W.theClass, State.vm_setTop, h5, hcl2]
    refine ⟨kI, rfl, ?_⟩
    rw [h6]
    refine tq_newArray (s := U.setTop f) (k := kI) (comp := tI) (ty := .int) h5 h6 hlim hhp (by show U.heap.size < _; omega) (by show U.slotsUsed + n ≤ _; omega) rfl (fun acts' => ?_)
    simp only [wp_bind', W.writeLoc, wp_pure']
    have hc1 : (U.pushCell { cls := comp, slots := Array.replicate n (defaultValue .int), vm := .none }).heap[a]? = some co := by rw [State.heap_pushCell_of_lt _ _ hl]; exact hc
    refine ⟨co, hc1, (by rw [h2]; exact fun h => nomatch h), by omega, ?_, ?_⟩
    · show State.fitsSlot _ co.cls co.vm i _ = true
      rw [h1, h2]
      simp [State.fitsSlot, State.slotType?, h3, h4, fits]
    · have hX1 := X.pushed { cls := comp, slots := Array.replicate n (.int 0), vm := .none }
      have hX2 := hX1.stored hc1 i (.ref U.heap.size)
      have hX3 := Stand.forget hX2 (fun q hq => by rw [List.mem_singleton.mp hq]; exact ha)
      have hsz : ({ cls := comp, slots := Array.replicate n (.int 0), vm := .none } : Cell).slots.size = n := by simp
      have hX4 : Stand p l e R s m args below meth c ((U.pushCell { cls := comp, slots := Array.replicate n (.int 0), vm := .none }).setCell a (co.setSlot i (.ref U.heap.size))) locs (cells + 1) (slots + n) := by
        rw [hsz] at hX3
        exact hX3
      refine ih (i + 1) (co.setSlot i (.ref U.heap.size)) ((U.pushCell { cls := comp, slots := Array.replicate n (.int 0), vm := .none }).setCell a (co.setSlot i (.ref U.heap.size))) (cells + 1) (slots + n) _ _ E Q (heapAt_setCell_self (s := U.pushCell _) _ (show a < (U.pushCell _).heap.size by rw [size_pushCell]; omega)) h1 h2 h3 h4 h5 h6 (by simp [Cell.setSlot]; omega) hX4 (by omega) (by rw [Nat.succ_mul] at hsl; omega) hq
variable {cells slots : Nat} {cc : ByteArray} {pc : Nat} {ls : Array Slot} {rest : List Value}
theorem tq_multi (hexec : p.tables.exec = Jvm.exec) (hb : c.code = cc) {own : String} {index : Nat} (hown : s.vm.findClass own = some m.cls) (hclink : (Cond.classLink own index "[[I").before args s = true) (hover : (Cond.arrayOver (.array .int)).before args s = true) (harr : (Cond.arrayClass .int).before args s = true)
    {k n : Nat} (hk : k ≤ 65536) (hn : n ≤ 65536) (hk0 : 0 < k) (hdg : decode cc pc = .ok (.multianewarray index 2, 4)) (hcells : cells + (1 + k) ≤ R.cells) (hslots : slots + (k + k * n) ≤ R.slots) (hsH : s.heap.size ≤ H.size)
    (kk : ∀ H1 : Heap, H1.size = H.size + (1 + k) → (∀ z : Nat, z < H.size → H1[z]? = H[z]?) → W p l e R s m args below meth c H1 locs (cells + (1 + k)) (slots + (k + k * n)) Q (F0 m (pc + 4) ls (.ref H.size :: rest))) : W p l e R s m args below meth c H locs cells slots Q (F0 m pc ls (.int (nI n) :: .int (nI k) :: rest)) := by
  intro T hT X
  have hpl : e.platform.magicAccessors = ({} : Platform).magicAccessors := by rw [X.admits.platform]
  obtain ⟨comp, cA, kA, hcomp, -, hkA, hkindA, hnameA⟩ := arrayOverA_spec hover
  obtain ⟨cI, kI, tI, hcI, hkI, hkindI⟩ := Cond.arrayClass_spec harr
  have hcc : comp = cI := Option.some.inj (hcomp.symm.trans hcI)
  subst hcc
  obtain ⟨c3, hfc3, hcl⟩ := Cond.classLink_spec hown hclink e.platform hpl
  have hc3 : cA = c3 := Option.some.inj (hnameA.symm.trans hfc3)
  subst hc3
  obtain ⟨hg₁, hwarm₁, hready₁⟩ := State.classEntry (e := e) X.warmed hcl
  have hsz : (T.vm.noted m.cls index (.cls cA)).classes.size ≤ T.vm.classes.size := by no_record
  generalize T.vm.noted m.cls index (.cls cA) = vm₁ at hg₁ hwarm₁ hready₁ hsz
  have hal := hwarm₁.alike
  obtain ⟨kA₁, hkA₁, heA⟩ := hal.2.2 _ _ hkA
  have hkindA₁ : kA₁.kind = .array comp (.array .int) := by rw [heA]; exact hkindA
  obtain ⟨kI₁, hkI₁, heI⟩ := hal.2.2 _ _ hkI
  have hkindI₁ : kI₁.kind = .array tI .int := by rw [heI]; exact hkindI
  have X₁ := X.noted hwarm₁
  have X₂ := X₁.pushed { cls := cA, slots := Array.replicate k .null, vm := .none }
  have hX₂ : Stand p l e R s m args below meth c ((T.setVm vm₁).pushCell { cls := cA, slots := Array.replicate k .null, vm := .none }) locs (cells + 1) (slots + k) := by simpa using X₂
  have hc0 : ((T.setVm vm₁).pushCell { cls := cA, slots := Array.replicate k .null, vm := .none }).heap[T.heap.size]? = some { cls := cA, slots := Array.replicate k .null, vm := .none } := State.heap_pushCell_size (T.setVm vm₁) _
  have hsT : s.heap.size ≤ T.heap.size := by rw [hT]; exact hsH
  have X₃ := tq_fill_stand (inner := { cls := comp, slots := Array.replicate n (.int 0), vm := .none }) hsT k 0 _ _ _ _ hc0 hX₂
  obtain ⟨z1, z2⟩ := tq_fill_heap (a := T.heap.size) (inner := { cls := comp, slots := Array.replicate n (.int 0), vm := .none }) k 0 { cls := cA, slots := Array.replicate k .null, vm := .none } ((T.setVm vm₁).pushCell { cls := cA, slots := Array.replicate k .null, vm := .none }) (by rw [size_pushCell]; exact Nat.lt_succ_self _)
  have hX₃ : Stand p l e R s m args below meth c (tq_fill T.heap.size { cls := comp, slots := Array.replicate n (.int 0), vm := .none } k 0 { cls := cA, slots := Array.replicate k .null, vm := .none } ((T.setVm vm₁).pushCell { cls := cA, slots := Array.replicate k .null, vm := .none })) locs (cells + (1 + k)) (slots + (k + k * n)) := by
    have h := X₃
    rw [show ({ cls := comp, slots := Array.replicate n (.int 0), vm := .none } : Cell).slots.size = n by simp, Nat.add_assoc, Nat.add_assoc] at h
    exact h
  have hr1 := X.cellsAbove (n := 1 + k) hcells
  have hr2 := X.slotsAbove (n := k + k * n) hslots
  have hsT2 : ((T.setVm vm₁).pushCell { cls := cA, slots := Array.replicate k .null, vm := .none }).heap.size = H.size + 1 := by rw [size_pushCell, ← hT]; rfl
  obtain ⟨t, a1, b1⟩ := kk _ (by rw [z1, hsT2]; omega) (fun z hz => by
      rw [z2 z (by rw [hsT2]; omega) (by rw [hT]; omega), State.heap_pushCell_of_lt _ _ (by show z < T.heap.size; rw [hT]; exact hz)]
      show T.heap[z]? = _
      rw [hT]) _ rfl hX₃
  refine ⟨t, ?_, b1⟩
  have hkn : ¬ nI k < 0 := nI_pos (by omega)
  have hkc : (nI k).toNatClampNeg = k := nI_clamp (by omega)
  have hlim : ¬ k > e.platform.arrayLengthLimit := by rw [Launch.admits_arrayLengthLimit X.admits]; omega
  have hhp : ¬ k * componentBytes (.array .int) > e.platform.maxHeapBytes := by rw [Launch.admits_maxHeapBytes X.admits]; show ¬ k * 4 > 536870912; omega
  obtain ⟨ha, ht⟩ := hg₁.op (op := VmOp.resolveClass m.cls index) rfl
  jvm_step X.here [hexec, hb, hdg, multianewarray.sem]
  refine ⟨(T.setVm vm₁).setTop (F0 m pc ls (.int (nI n) :: .int (nI k) :: rest)), VmOp.lands_eq (s := T.setTop _) ht hsz, ?_⟩
  rw [ha]
  simp only []
  rw [W.popN 2, if_neg (by decide)]
  refine ⟨F0 m pc ls (.int (nI n) :: .int (nI k) :: rest), State.topJava?_setTop' _ X.here.top, [.int (nI k), .int (nI n)], rest, rfl, rfl, ?_⟩
  rw [State.setTop_setTop]
  simp only [List.mapM_cons, List.mapM_nil, wp_bind', wp_pure', multianewarray.make, W.ite, hkn, if_false, W.theClass, State.vm_setTop, State.vm_setVm, hkA₁, hkc]
  refine ⟨kA₁, rfl, ?_⟩
  rw [hkindA₁]
  have hk1 : (nI k == 0) = false := by
    rw [beq_eq_false_iff_ne]
    exact nI_ne0 hk0 (by omega)
  simp only [wp_bind', hk1, Bool.false_eq_true, if_false]
  refine tq_newArray (s := (T.setVm vm₁).setTop _) (k := kA₁) (comp := comp) (ty := .array .int) hkA₁ hkindA₁ hlim hhp (by show T.heap.size < _; omega) (by show T.slotsUsed + k ≤ _; omega) rfl (fun acts' => ?_)
  simp only [Std.Legacy.Range.forIn_eq_forIn_range', Std.Legacy.Range.size, Nat.sub_zero, Nat.add_sub_cancel, Nat.div_one]
  rw [wp_bind', State.pushCell_setTop, show ((T.setVm vm₁).setTop (F0 m pc ls rest)).heap.size = T.heap.size from congrArg Array.size (State.heap_setTop _ _)]
  refine tq_fill_wp (p := p) (l := l) (R := R) (s := s) (m := m) (args := args) (below := below) (meth := meth) (c := c) (locs := locs) (a := T.heap.size) (n := n) (comp := comp) (cO := cA) (kO := kA₁) (kI := kI₁) (tI := tI) hsT (by omega) ?hbody (by omega) k 0 { cls := cA, slots := Array.replicate k .null, vm := .none } ((T.setVm vm₁).pushCell { cls := cA, slots := Array.replicate k .null, vm := .none }) (cells + 1) (slots + k) _ _ _ _ hc0 rfl rfl hkA₁ hkindA₁ hkI₁ hkindI₁ (by simp) hX₂ (by omega) (by omega) (fun d' acts'' => ?_)
  · intro i u
    simp only [multianewarray.make, Std.Legacy.Range.forIn_eq_forIn_range', Std.Legacy.Range.size, Nat.sub_zero, Nat.add_sub_cancel, Nat.div_one]
    rfl
  · simp only [wp_bind', wp_pure', W.mark, W.pushRef]
    refine ⟨_, State.topJava?_setTop' _ hX₃.here.top, fun acts => ?_⟩
    rw [State.setTop_setTop]
    have a2 := a1
    rw [← hT] at a2
    rw [afterInstr_ok]
    exact a2
end TQM
end
section
-- ===== PART A: goes FIRST, ahead of the names: the tables' words, and 'selects' of the private methods out of them =====
/-- a private method of a class that the tables say can be made, by its rows of tables_1 -/
def lw_okq (q : MethodName × Nat) : Prop := (q.1.cls ≠ "java/lang/invoke/MethodHandle" ∧ q.1.cls ≠ "java/lang/invoke/VarHandle") ∧ Cond.instantiable q.1.cls q.2 ∈ tables_1 ∧ Cond.privateMethod q.1 ∈ tables_1 ∧ Cond.instanceMethod q.1 ∈ tables_1
theorem lw_p0 : lw_okq (⟨"DrawingMachine", "beginAnew", "()V"⟩, 9) := ⟨⟨by decide +kernel, by decide +kernel⟩, List.mem_of_getElem? (i := 41) (by decide +kernel), List.mem_of_getElem? (i := 463) (by decide +kernel), List.mem_of_getElem? (i := 464) (by decide +kernel)⟩
theorem lw_p1 : lw_okq (⟨"java/lang/Throwable", "fillInStackTrace", "(I)Ljava/lang/Throwable;"⟩, 6) := ⟨⟨by decide +kernel, by decide +kernel⟩, List.mem_of_getElem? (i := 526) (by decide +kernel), List.mem_of_getElem? (i := 524) (by decide +kernel), List.mem_of_getElem? (i := 525) (by decide +kernel)⟩
theorem lw_p2 : lw_okq (⟨"DrawingMachine", "refusal", "()I"⟩, 9) := ⟨⟨by decide +kernel, by decide +kernel⟩, List.mem_of_getElem? (i := 41) (by decide +kernel), List.mem_of_getElem? (i := 934) (by decide +kernel), List.mem_of_getElem? (i := 935) (by decide +kernel)⟩
theorem lw_p3 : lw_okq (⟨"DrawingMachine$Course", "source", "()[I"⟩, 15) := ⟨⟨by decide +kernel, by decide +kernel⟩, List.mem_of_getElem? (i := 105) (by decide +kernel), List.mem_of_getElem? (i := 942) (by decide +kernel), List.mem_of_getElem? (i := 943) (by decide +kernel)⟩
theorem lw_p4 : lw_okq (⟨"DrawingMachine$Course", "limit", "()I"⟩, 15) := ⟨⟨by decide +kernel, by decide +kernel⟩, List.mem_of_getElem? (i := 105) (by decide +kernel), List.mem_of_getElem? (i := 946) (by decide +kernel), List.mem_of_getElem? (i := 947) (by decide +kernel)⟩
theorem lw_p5 : lw_okq (⟨"DrawingMachine$Course", "valuesMayBe", "()Z"⟩, 15) := ⟨⟨by decide +kernel, by decide +kernel⟩, List.mem_of_getElem? (i := 105) (by decide +kernel), List.mem_of_getElem? (i := 956) (by decide +kernel), List.mem_of_getElem? (i := 957) (by decide +kernel)⟩
theorem lw_p6 : lw_okq (⟨"DrawingMachine", "placesAreThere", "()Z"⟩, 9) := ⟨⟨by decide +kernel, by decide +kernel⟩, List.mem_of_getElem? (i := 41) (by decide +kernel), List.mem_of_getElem? (i := 966) (by decide +kernel), List.mem_of_getElem? (i := 967) (by decide +kernel)⟩
theorem lw_p7 : lw_okq (⟨"DrawingMachine", "stateAllows", "()Z"⟩, 9) := ⟨⟨by decide +kernel, by decide +kernel⟩, List.mem_of_getElem? (i := 41) (by decide +kernel), List.mem_of_getElem? (i := 973) (by decide +kernel), List.mem_of_getElem? (i := 974) (by decide +kernel)⟩
theorem lw_p8 : lw_okq (⟨"DrawingMachine", "isDraw", "()Z"⟩, 9) := ⟨⟨by decide +kernel, by decide +kernel⟩, List.mem_of_getElem? (i := 41) (by decide +kernel), List.mem_of_getElem? (i := 977) (by decide +kernel), List.mem_of_getElem? (i := 978) (by decide +kernel)⟩
theorem lw_p9 : lw_okq (⟨"DrawingMachine$Drawing", "vertexOf", "(LDrawingMachine$Course;I)I"⟩, 9) := ⟨⟨by decide +kernel, by decide +kernel⟩, List.mem_of_getElem? (i := 200) (by decide +kernel), List.mem_of_getElem? (i := 995) (by decide +kernel), List.mem_of_getElem? (i := 996) (by decide +kernel)⟩
theorem lw_p10 : lw_okq (⟨"DrawingMachine$Vertices", "loadAttribute", "(II[I)V"⟩, 2) := ⟨⟨by decide +kernel, by decide +kernel⟩, List.mem_of_getElem? (i := 266) (by decide +kernel), List.mem_of_getElem? (i := 1016) (by decide +kernel), List.mem_of_getElem? (i := 1017) (by decide +kernel)⟩
theorem lw_p11 : lw_okq (⟨"DrawingMachine$Vertices", "part", "(IJI)I"⟩, 2) := ⟨⟨by decide +kernel, by decide +kernel⟩, List.mem_of_getElem? (i := 266) (by decide +kernel), List.mem_of_getElem? (i := 1021) (by decide +kernel), List.mem_of_getElem? (i := 1022) (by decide +kernel)⟩
theorem lw_p12 : lw_okq (⟨"DrawingMachine$Processor", "readSources", "(III)V"⟩, 9) := ⟨⟨by decide +kernel, by decide +kernel⟩, List.mem_of_getElem? (i := 206) (by decide +kernel), List.mem_of_getElem? (i := 1033) (by decide +kernel), List.mem_of_getElem? (i := 1034) (by decide +kernel)⟩
theorem lw_p13 : lw_okq (⟨"DrawingMachine$Processor", "readSource", "(I[I)V"⟩, 9) := ⟨⟨by decide +kernel, by decide +kernel⟩, List.mem_of_getElem? (i := 206) (by decide +kernel), List.mem_of_getElem? (i := 1038) (by decide +kernel), List.mem_of_getElem? (i := 1039) (by decide +kernel)⟩
theorem lw_p14 : lw_okq (⟨"DrawingMachine$Textures", "readLevel", "(IIII[I)V"⟩, 6) := ⟨⟨by decide +kernel, by decide +kernel⟩, List.mem_of_getElem? (i := 212) (by decide +kernel), List.mem_of_getElem? (i := 1051) (by decide +kernel), List.mem_of_getElem? (i := 1052) (by decide +kernel)⟩
theorem lw_p15 : lw_okq (⟨"DrawingMachine$Textures", "readTexel", "(III[I)V"⟩, 6) := ⟨⟨by decide +kernel, by decide +kernel⟩, List.mem_of_getElem? (i := 212) (by decide +kernel), List.mem_of_getElem? (i := 1066) (by decide +kernel), List.mem_of_getElem? (i := 1067) (by decide +kernel)⟩
def lw_privs_1 : List (MethodName × Nat) := [(⟨"DrawingMachine", "beginAnew", "()V"⟩, 9), (⟨"java/lang/Throwable", "fillInStackTrace", "(I)Ljava/lang/Throwable;"⟩, 6), (⟨"DrawingMachine", "refusal", "()I"⟩, 9), (⟨"DrawingMachine$Course", "source", "()[I"⟩, 15), (⟨"DrawingMachine$Course", "limit", "()I"⟩, 15), (⟨"DrawingMachine$Course", "valuesMayBe", "()Z"⟩, 15), (⟨"DrawingMachine", "placesAreThere", "()Z"⟩, 9), (⟨"DrawingMachine", "stateAllows", "()Z"⟩, 9), (⟨"DrawingMachine", "isDraw", "()Z"⟩, 9), (⟨"DrawingMachine$Drawing", "vertexOf", "(LDrawingMachine$Course;I)I"⟩, 9), (⟨"DrawingMachine$Vertices", "loadAttribute", "(II[I)V"⟩, 2), (⟨"DrawingMachine$Vertices", "part", "(IJI)I"⟩, 2), (⟨"DrawingMachine$Processor", "readSources", "(III)V"⟩, 9), (⟨"DrawingMachine$Processor", "readSource", "(I[I)V"⟩, 9), (⟨"DrawingMachine$Textures", "readLevel", "(IIII[I)V"⟩, 6), (⟨"DrawingMachine$Textures", "readTexel", "(III[I)V"⟩, 6)]
theorem lw_r1 : ∀ q ∈ lw_privs_1, lw_okq q := List.forall_mem_cons.mpr ⟨lw_p0, List.forall_mem_cons.mpr ⟨lw_p1, List.forall_mem_cons.mpr ⟨lw_p2, List.forall_mem_cons.mpr ⟨lw_p3, List.forall_mem_cons.mpr ⟨lw_p4, List.forall_mem_cons.mpr ⟨lw_p5, List.forall_mem_cons.mpr ⟨lw_p6, List.forall_mem_cons.mpr ⟨lw_p7, List.forall_mem_cons.mpr ⟨lw_p8, List.forall_mem_cons.mpr ⟨lw_p9, List.forall_mem_cons.mpr ⟨lw_p10, List.forall_mem_cons.mpr ⟨lw_p11, List.forall_mem_cons.mpr ⟨lw_p12, List.forall_mem_cons.mpr ⟨lw_p13, List.forall_mem_cons.mpr ⟨lw_p14, List.forall_mem_cons.mpr ⟨lw_p15, fun _ h => absurd h List.not_mem_nil⟩⟩⟩⟩⟩⟩⟩⟩⟩⟩⟩⟩⟩⟩⟩⟩
theorem lw_p16 : lw_okq (⟨"DrawingMachine$Processor", "setTarget", "(I)V"⟩, 9) := ⟨⟨by decide +kernel, by decide +kernel⟩, List.mem_of_getElem? (i := 206) (by decide +kernel), List.mem_of_getElem? (i := 1083) (by decide +kernel), List.mem_of_getElem? (i := 1084) (by decide +kernel)⟩
theorem lw_p17 : lw_okq (⟨"DrawingMachine$Processor", "reckon", "(I)V"⟩, 9) := ⟨⟨by decide +kernel, by decide +kernel⟩, List.mem_of_getElem? (i := 206) (by decide +kernel), List.mem_of_getElem? (i := 1088) (by decide +kernel), List.mem_of_getElem? (i := 1089) (by decide +kernel)⟩
theorem lw_p18 : lw_okq (⟨"DrawingMachine$Processor", "dotProduct", "(I)I"⟩, 9) := ⟨⟨by decide +kernel, by decide +kernel⟩, List.mem_of_getElem? (i := 206) (by decide +kernel), List.mem_of_getElem? (i := 1092) (by decide +kernel), List.mem_of_getElem? (i := 1093) (by decide +kernel)⟩
theorem lw_p19 : lw_okq (⟨"DrawingMachine$Processor", "setAll", "(I)V"⟩, 9) := ⟨⟨by decide +kernel, by decide +kernel⟩, List.mem_of_getElem? (i := 206) (by decide +kernel), List.mem_of_getElem? (i := 1099) (by decide +kernel), List.mem_of_getElem? (i := 1100) (by decide +kernel)⟩
theorem lw_p20 : lw_okq (⟨"DrawingMachine$Processor", "crossProduct", "()V"⟩, 9) := ⟨⟨by decide +kernel, by decide +kernel⟩, List.mem_of_getElem? (i := 206) (by decide +kernel), List.mem_of_getElem? (i := 1118) (by decide +kernel), List.mem_of_getElem? (i := 1119) (by decide +kernel)⟩
theorem lw_p21 : lw_okq (⟨"DrawingMachine$Processor", "readUniform", "(I)V"⟩, 9) := ⟨⟨by decide +kernel, by decide +kernel⟩, List.mem_of_getElem? (i := 206) (by decide +kernel), List.mem_of_getElem? (i := 1122) (by decide +kernel), List.mem_of_getElem? (i := 1123) (by decide +kernel)⟩
theorem lw_p22 : lw_okq (⟨"DrawingMachine$Shape", "cutBy", "(Z)V"⟩, 8) := ⟨⟨by decide +kernel, by decide +kernel⟩, List.mem_of_getElem? (i := 279) (by decide +kernel), List.mem_of_getElem? (i := 1141) (by decide +kernel), List.mem_of_getElem? (i := 1142) (by decide +kernel)⟩
theorem lw_p23 : lw_okq (⟨"DrawingMachine$Shape", "lay", "(I)V"⟩, 8) := ⟨⟨by decide +kernel, by decide +kernel⟩, List.mem_of_getElem? (i := 279) (by decide +kernel), List.mem_of_getElem? (i := 1158) (by decide +kernel), List.mem_of_getElem? (i := 1159) (by decide +kernel)⟩
theorem lw_p24 : lw_okq (⟨"DrawingMachine$Drawing", "shows", "(J)Z"⟩, 9) := ⟨⟨by decide +kernel, by decide +kernel⟩, List.mem_of_getElem? (i := 200) (by decide +kernel), List.mem_of_getElem? (i := 1180) (by decide +kernel), List.mem_of_getElem? (i := 1181) (by decide +kernel)⟩
theorem lw_p25 : lw_okq (⟨"DrawingMachine$Drawing", "fill", "(LDrawingMachine$Program;)V"⟩, 9) := ⟨⟨by decide +kernel, by decide +kernel⟩, List.mem_of_getElem? (i := 200) (by decide +kernel), List.mem_of_getElem? (i := 1184) (by decide +kernel), List.mem_of_getElem? (i := 1185) (by decide +kernel)⟩
theorem lw_p26 : lw_okq (⟨"DrawingMachine$Covering", "setEdge", "(III)V"⟩, 15) := ⟨⟨by decide +kernel, by decide +kernel⟩, List.mem_of_getElem? (i := 318) (by decide +kernel), List.mem_of_getElem? (i := 1192) (by decide +kernel), List.mem_of_getElem? (i := 1193) (by decide +kernel)⟩
theorem lw_p27 : lw_okq (⟨"DrawingMachine$Covering", "leastOf", "([I)I"⟩, 15) := ⟨⟨by decide +kernel, by decide +kernel⟩, List.mem_of_getElem? (i := 318) (by decide +kernel), List.mem_of_getElem? (i := 1198) (by decide +kernel), List.mem_of_getElem? (i := 1199) (by decide +kernel)⟩
theorem lw_p28 : lw_okq (⟨"DrawingMachine$Covering", "greatestOf", "([I)I"⟩, 15) := ⟨⟨by decide +kernel, by decide +kernel⟩, List.mem_of_getElem? (i := 318) (by decide +kernel), List.mem_of_getElem? (i := 1204) (by decide +kernel), List.mem_of_getElem? (i := 1205) (by decide +kernel)⟩
theorem lw_p29 : lw_okq (⟨"DrawingMachine$Covering", "setShares", "()V"⟩, 15) := ⟨⟨by decide +kernel, by decide +kernel⟩, List.mem_of_getElem? (i := 318) (by decide +kernel), List.mem_of_getElem? (i := 1222) (by decide +kernel), List.mem_of_getElem? (i := 1223) (by decide +kernel)⟩
theorem lw_p30 : lw_okq (⟨"DrawingMachine$Covering", "valueThere", "(I)I"⟩, 15) := ⟨⟨by decide +kernel, by decide +kernel⟩, List.mem_of_getElem? (i := 318) (by decide +kernel), List.mem_of_getElem? (i := 1237) (by decide +kernel), List.mem_of_getElem? (i := 1238) (by decide +kernel)⟩
theorem lw_p31 : lw_okq (⟨"DrawingMachine$Picture", "doDeed", "(III)V"⟩, 7) := ⟨⟨by decide +kernel, by decide +kernel⟩, List.mem_of_getElem? (i := 73) (by decide +kernel), List.mem_of_getElem? (i := 1257) (by decide +kernel), List.mem_of_getElem? (i := 1258) (by decide +kernel)⟩
def lw_privs_2 : List (MethodName × Nat) := [(⟨"DrawingMachine$Processor", "setTarget", "(I)V"⟩, 9), (⟨"DrawingMachine$Processor", "reckon", "(I)V"⟩, 9), (⟨"DrawingMachine$Processor", "dotProduct", "(I)I"⟩, 9), (⟨"DrawingMachine$Processor", "setAll", "(I)V"⟩, 9), (⟨"DrawingMachine$Processor", "crossProduct", "()V"⟩, 9), (⟨"DrawingMachine$Processor", "readUniform", "(I)V"⟩, 9), (⟨"DrawingMachine$Shape", "cutBy", "(Z)V"⟩, 8), (⟨"DrawingMachine$Shape", "lay", "(I)V"⟩, 8), (⟨"DrawingMachine$Drawing", "shows", "(J)Z"⟩, 9), (⟨"DrawingMachine$Drawing", "fill", "(LDrawingMachine$Program;)V"⟩, 9), (⟨"DrawingMachine$Covering", "setEdge", "(III)V"⟩, 15), (⟨"DrawingMachine$Covering", "leastOf", "([I)I"⟩, 15), (⟨"DrawingMachine$Covering", "greatestOf", "([I)I"⟩, 15), (⟨"DrawingMachine$Covering", "setShares", "()V"⟩, 15), (⟨"DrawingMachine$Covering", "valueThere", "(I)I"⟩, 15), (⟨"DrawingMachine$Picture", "doDeed", "(III)V"⟩, 7)]
theorem lw_r2 : ∀ q ∈ lw_privs_2, lw_okq q := List.forall_mem_cons.mpr ⟨lw_p16, List.forall_mem_cons.mpr ⟨lw_p17, List.forall_mem_cons.mpr ⟨lw_p18, List.forall_mem_cons.mpr ⟨lw_p19, List.forall_mem_cons.mpr ⟨lw_p20, List.forall_mem_cons.mpr ⟨lw_p21, List.forall_mem_cons.mpr ⟨lw_p22, List.forall_mem_cons.mpr ⟨lw_p23, List.forall_mem_cons.mpr ⟨lw_p24, List.forall_mem_cons.mpr ⟨lw_p25, List.forall_mem_cons.mpr ⟨lw_p26, List.forall_mem_cons.mpr ⟨lw_p27, List.forall_mem_cons.mpr ⟨lw_p28, List.forall_mem_cons.mpr ⟨lw_p29, List.forall_mem_cons.mpr ⟨lw_p30, List.forall_mem_cons.mpr ⟨lw_p31, fun _ h => absurd h List.not_mem_nil⟩⟩⟩⟩⟩⟩⟩⟩⟩⟩⟩⟩⟩⟩⟩⟩
theorem lw_p32 : lw_okq (⟨"DrawingMachine$Picture", "newColour", "(II)I"⟩, 7) := ⟨⟨by decide +kernel, by decide +kernel⟩, List.mem_of_getElem? (i := 73) (by decide +kernel), List.mem_of_getElem? (i := 1267) (by decide +kernel), List.mem_of_getElem? (i := 1268) (by decide +kernel)⟩
theorem lw_p33 : lw_okq (⟨"DrawingMachine$Picture", "blended", "(III)I"⟩, 7) := ⟨⟨by decide +kernel, by decide +kernel⟩, List.mem_of_getElem? (i := 73) (by decide +kernel), List.mem_of_getElem? (i := 1274) (by decide +kernel), List.mem_of_getElem? (i := 1275) (by decide +kernel)⟩
theorem lw_p34 : lw_okq (⟨"DrawingMachine$Picture", "factor", "(IIII)I"⟩, 7) := ⟨⟨by decide +kernel, by decide +kernel⟩, List.mem_of_getElem? (i := 73) (by decide +kernel), List.mem_of_getElem? (i := 1278) (by decide +kernel), List.mem_of_getElem? (i := 1279) (by decide +kernel)⟩
theorem lw_p35 : lw_okq (⟨"DrawingMachine$Drawing", "tally", "(I)V"⟩, 9) := ⟨⟨by decide +kernel, by decide +kernel⟩, List.mem_of_getElem? (i := 200) (by decide +kernel), List.mem_of_getElem? (i := 1285) (by decide +kernel), List.mem_of_getElem? (i := 1286) (by decide +kernel)⟩
theorem lw_p36 : lw_okq (⟨"DrawingMachine", "carryOut", "()I"⟩, 9) := ⟨⟨by decide +kernel, by decide +kernel⟩, List.mem_of_getElem? (i := 41) (by decide +kernel), List.mem_of_getElem? (i := 1289) (by decide +kernel), List.mem_of_getElem? (i := 1290) (by decide +kernel)⟩
theorem lw_p37 : lw_okq (⟨"DrawingMachine", "readProgram", "(II)I"⟩, 9) := ⟨⟨by decide +kernel, by decide +kernel⟩, List.mem_of_getElem? (i := 41) (by decide +kernel), List.mem_of_getElem? (i := 1302) (by decide +kernel), List.mem_of_getElem? (i := 1303) (by decide +kernel)⟩
theorem lw_p38 : lw_okq (⟨"DrawingMachine$Checker", "faultAt", "(LDrawingMachine$Program;IZ)I"⟩, 7) := ⟨⟨by decide +kernel, by decide +kernel⟩, List.mem_of_getElem? (i := 169) (by decide +kernel), List.mem_of_getElem? (i := 1311) (by decide +kernel), List.mem_of_getElem? (i := 1312) (by decide +kernel)⟩
theorem lw_p39 : lw_okq (⟨"DrawingMachine$Checker", "tell", "(II)V"⟩, 7) := ⟨⟨by decide +kernel, by decide +kernel⟩, List.mem_of_getElem? (i := 169) (by decide +kernel), List.mem_of_getElem? (i := 1332) (by decide +kernel), List.mem_of_getElem? (i := 1333) (by decide +kernel)⟩
theorem lw_p40 : lw_okq (⟨"DrawingMachine$Checker", "pass", "(LDrawingMachine$Program;I)V"⟩, 7) := ⟨⟨by decide +kernel, by decide +kernel⟩, List.mem_of_getElem? (i := 169) (by decide +kernel), List.mem_of_getElem? (i := 1336) (by decide +kernel), List.mem_of_getElem? (i := 1337) (by decide +kernel)⟩
theorem lw_p41 : lw_okq (⟨"DrawingMachine$Checker", "leavesLoop", "(LDrawingMachine$Program;I)Z"⟩, 7) := ⟨⟨by decide +kernel, by decide +kernel⟩, List.mem_of_getElem? (i := 169) (by decide +kernel), List.mem_of_getElem? (i := 1343) (by decide +kernel), List.mem_of_getElem? (i := 1344) (by decide +kernel)⟩
theorem lw_p42 : lw_okq (⟨"DrawingMachine", "copyBack", "()V"⟩, 9) := ⟨⟨by decide +kernel, by decide +kernel⟩, List.mem_of_getElem? (i := 41) (by decide +kernel), List.mem_of_getElem? (i := 1352) (by decide +kernel), List.mem_of_getElem? (i := 1353) (by decide +kernel)⟩
theorem lw_p43 : lw_okq (⟨"DrawingMachineModel$DrawCommandsModel", "nothingTold", "()V"⟩, 18) := ⟨⟨by decide +kernel, by decide +kernel⟩, List.mem_of_getElem? (i := 1424) (by decide +kernel), List.mem_of_getElem? (i := 1430) (by decide +kernel), List.mem_of_getElem? (i := 1431) (by decide +kernel)⟩
theorem lw_p44 : lw_okq (⟨"DrawingMachineModel", "refuse", "(ZZ)Z"⟩, 19) := ⟨⟨by decide +kernel, by decide +kernel⟩, List.mem_of_getElem? (i := 1418) (by decide +kernel), List.mem_of_getElem? (i := 1836) (by decide +kernel), List.mem_of_getElem? (i := 1837) (by decide +kernel)⟩
theorem lw_p45 : lw_okq (⟨"DrawingMachineModel$DrawCommandsModel", "refuse", "(Z)Z"⟩, 18) := ⟨⟨by decide +kernel, by decide +kernel⟩, List.mem_of_getElem? (i := 1424) (by decide +kernel), List.mem_of_getElem? (i := 1848) (by decide +kernel), List.mem_of_getElem? (i := 1849) (by decide +kernel)⟩
theorem lw_p46 : lw_okq (⟨"DrawingMachineModel$PlaceTestsModel", "refuse", "(ZZ)Z"⟩, 22) := ⟨⟨by decide +kernel, by decide +kernel⟩, List.mem_of_getElem? (i := 1692) (by decide +kernel), List.mem_of_getElem? (i := 1859) (by decide +kernel), List.mem_of_getElem? (i := 1860) (by decide +kernel)⟩
theorem lw_p47 : lw_okq (⟨"DrawingMachineModel$DrawCommandsModel", "anew", "()V"⟩, 18) := ⟨⟨by decide +kernel, by decide +kernel⟩, List.mem_of_getElem? (i := 1424) (by decide +kernel), List.mem_of_getElem? (i := 1893) (by decide +kernel), List.mem_of_getElem? (i := 1894) (by decide +kernel)⟩
def lw_privs_3 : List (MethodName × Nat) := [(⟨"DrawingMachine$Picture", "newColour", "(II)I"⟩, 7), (⟨"DrawingMachine$Picture", "blended", "(III)I"⟩, 7), (⟨"DrawingMachine$Picture", "factor", "(IIII)I"⟩, 7), (⟨"DrawingMachine$Drawing", "tally", "(I)V"⟩, 9), (⟨"DrawingMachine", "carryOut", "()I"⟩, 9), (⟨"DrawingMachine", "readProgram", "(II)I"⟩, 9), (⟨"DrawingMachine$Checker", "faultAt", "(LDrawingMachine$Program;IZ)I"⟩, 7), (⟨"DrawingMachine$Checker", "tell", "(II)V"⟩, 7), (⟨"DrawingMachine$Checker", "pass", "(LDrawingMachine$Program;I)V"⟩, 7), (⟨"DrawingMachine$Checker", "leavesLoop", "(LDrawingMachine$Program;I)Z"⟩, 7), (⟨"DrawingMachine", "copyBack", "()V"⟩, 9), (⟨"DrawingMachineModel$DrawCommandsModel", "nothingTold", "()V"⟩, 18), (⟨"DrawingMachineModel", "refuse", "(ZZ)Z"⟩, 19), (⟨"DrawingMachineModel$DrawCommandsModel", "refuse", "(Z)Z"⟩, 18), (⟨"DrawingMachineModel$PlaceTestsModel", "refuse", "(ZZ)Z"⟩, 22), (⟨"DrawingMachineModel$DrawCommandsModel", "anew", "()V"⟩, 18)]
theorem lw_r3 : ∀ q ∈ lw_privs_3, lw_okq q := List.forall_mem_cons.mpr ⟨lw_p32, List.forall_mem_cons.mpr ⟨lw_p33, List.forall_mem_cons.mpr ⟨lw_p34, List.forall_mem_cons.mpr ⟨lw_p35, List.forall_mem_cons.mpr ⟨lw_p36, List.forall_mem_cons.mpr ⟨lw_p37, List.forall_mem_cons.mpr ⟨lw_p38, List.forall_mem_cons.mpr ⟨lw_p39, List.forall_mem_cons.mpr ⟨lw_p40, List.forall_mem_cons.mpr ⟨lw_p41, List.forall_mem_cons.mpr ⟨lw_p42, List.forall_mem_cons.mpr ⟨lw_p43, List.forall_mem_cons.mpr ⟨lw_p44, List.forall_mem_cons.mpr ⟨lw_p45, List.forall_mem_cons.mpr ⟨lw_p46, List.forall_mem_cons.mpr ⟨lw_p47, fun _ h => absurd h List.not_mem_nil⟩⟩⟩⟩⟩⟩⟩⟩⟩⟩⟩⟩⟩⟩⟩⟩
theorem lw_p48 : lw_okq (⟨"DrawingMachineModel", "step", "()Z"⟩, 19) := ⟨⟨by decide +kernel, by decide +kernel⟩, List.mem_of_getElem? (i := 1418) (by decide +kernel), List.mem_of_getElem? (i := 1905) (by decide +kernel), List.mem_of_getElem? (i := 1906) (by decide +kernel)⟩
theorem lw_p49 : lw_okq (⟨"DrawingMachineModel", "kept", "(III)I"⟩, 19) := ⟨⟨by decide +kernel, by decide +kernel⟩, List.mem_of_getElem? (i := 1418) (by decide +kernel), List.mem_of_getElem? (i := 1909) (by decide +kernel), List.mem_of_getElem? (i := 1910) (by decide +kernel)⟩
theorem lw_p50 : lw_okq (⟨"DrawingMachineModel$DrawCommandsModel", "look", "()I"⟩, 18) := ⟨⟨by decide +kernel, by decide +kernel⟩, List.mem_of_getElem? (i := 1424) (by decide +kernel), List.mem_of_getElem? (i := 1918) (by decide +kernel), List.mem_of_getElem? (i := 1919) (by decide +kernel)⟩
theorem lw_p51 : lw_okq (⟨"DrawingMachineModel$DrawCommandsModel", "isThere", "(I)Z"⟩, 18) := ⟨⟨by decide +kernel, by decide +kernel⟩, List.mem_of_getElem? (i := 1424) (by decide +kernel), List.mem_of_getElem? (i := 1922) (by decide +kernel), List.mem_of_getElem? (i := 1923) (by decide +kernel)⟩
theorem lw_p52 : lw_okq (⟨"DrawingMachineModel$DrawCommandsModel", "read", "(I)I"⟩, 18) := ⟨⟨by decide +kernel, by decide +kernel⟩, List.mem_of_getElem? (i := 1424) (by decide +kernel), List.mem_of_getElem? (i := 1926) (by decide +kernel), List.mem_of_getElem? (i := 1927) (by decide +kernel)⟩
theorem lw_p53 : lw_okq (⟨"DrawingMachineModel$DrawCommandsModel", "length", "(I)I"⟩, 18) := ⟨⟨by decide +kernel, by decide +kernel⟩, List.mem_of_getElem? (i := 1424) (by decide +kernel), List.mem_of_getElem? (i := 1931) (by decide +kernel), List.mem_of_getElem? (i := 1932) (by decide +kernel)⟩
theorem lw_p54 : lw_okq (⟨"DrawingMachineModel$DrawCommandsModel", "liesRight", "(I)Z"⟩, 18) := ⟨⟨by decide +kernel, by decide +kernel⟩, List.mem_of_getElem? (i := 1424) (by decide +kernel), List.mem_of_getElem? (i := 1970) (by decide +kernel), List.mem_of_getElem? (i := 1971) (by decide +kernel)⟩
theorem lw_p55 : lw_okq (⟨"DrawingMachineModel$DrawCommandsModel", "isInMemory", "(JJ)Z"⟩, 18) := ⟨⟨by decide +kernel, by decide +kernel⟩, List.mem_of_getElem? (i := 1424) (by decide +kernel), List.mem_of_getElem? (i := 1974) (by decide +kernel), List.mem_of_getElem? (i := 1975) (by decide +kernel)⟩
theorem lw_p56 : lw_okq (⟨"DrawingMachineModel$DrawCommandsModel", "fitsState", "(I)Z"⟩, 18) := ⟨⟨by decide +kernel, by decide +kernel⟩, List.mem_of_getElem? (i := 1424) (by decide +kernel), List.mem_of_getElem? (i := 1978) (by decide +kernel), List.mem_of_getElem? (i := 1979) (by decide +kernel)⟩
theorem lw_p57 : lw_okq (⟨"DrawingMachineModel$DrawCommandsModel", "perform", "(I)V"⟩, 18) := ⟨⟨by decide +kernel, by decide +kernel⟩, List.mem_of_getElem? (i := 1424) (by decide +kernel), List.mem_of_getElem? (i := 1982) (by decide +kernel), List.mem_of_getElem? (i := 1983) (by decide +kernel)⟩
theorem lw_p58 : lw_okq (⟨"DrawingMachineModel$DrawCommandsModel", "keep", "(I)V"⟩, 18) := ⟨⟨by decide +kernel, by decide +kernel⟩, List.mem_of_getElem? (i := 1424) (by decide +kernel), List.mem_of_getElem? (i := 1986) (by decide +kernel), List.mem_of_getElem? (i := 1987) (by decide +kernel)⟩
theorem lw_p59 : lw_okq (⟨"DrawingMachineModel", "settle", "()V"⟩, 19) := ⟨⟨by decide +kernel, by decide +kernel⟩, List.mem_of_getElem? (i := 1418) (by decide +kernel), List.mem_of_getElem? (i := 1990) (by decide +kernel), List.mem_of_getElem? (i := 1991) (by decide +kernel)⟩
theorem lw_p60 : lw_okq (⟨"DrawingMachineModel$VertexWorkModel", "refuse", "(ZZ)Z"⟩, 13) := ⟨⟨by decide +kernel, by decide +kernel⟩, List.mem_of_getElem? (i := 1615) (by decide +kernel), List.mem_of_getElem? (i := 2029) (by decide +kernel), List.mem_of_getElem? (i := 2030) (by decide +kernel)⟩
theorem lw_p61 : lw_okq (⟨"DrawingMachineModel$TextureUnitsModel", "refuse", "(ZZ)Z"⟩, 11) := ⟨⟨by decide +kernel, by decide +kernel⟩, List.mem_of_getElem? (i := 1508) (by decide +kernel), List.mem_of_getElem? (i := 2048) (by decide +kernel), List.mem_of_getElem? (i := 2049) (by decide +kernel)⟩
theorem lw_p62 : lw_okq (⟨"DrawingMachineModel$PlaceTestsModel", "isOpen", "(II)Z"⟩, 22) := ⟨⟨by decide +kernel, by decide +kernel⟩, List.mem_of_getElem? (i := 1692) (by decide +kernel), List.mem_of_getElem? (i := 2065) (by decide +kernel), List.mem_of_getElem? (i := 2066) (by decide +kernel)⟩
theorem lw_p63 : lw_okq (⟨"DrawingMachineModel$PlaceTestsModel", "isInFrame", "(II)Z"⟩, 22) := ⟨⟨by decide +kernel, by decide +kernel⟩, List.mem_of_getElem? (i := 1692) (by decide +kernel), List.mem_of_getElem? (i := 2069) (by decide +kernel), List.mem_of_getElem? (i := 2070) (by decide +kernel)⟩
def lw_privs_4 : List (MethodName × Nat) := [(⟨"DrawingMachineModel", "step", "()Z"⟩, 19), (⟨"DrawingMachineModel", "kept", "(III)I"⟩, 19), (⟨"DrawingMachineModel$DrawCommandsModel", "look", "()I"⟩, 18), (⟨"DrawingMachineModel$DrawCommandsModel", "isThere", "(I)Z"⟩, 18), (⟨"DrawingMachineModel$DrawCommandsModel", "read", "(I)I"⟩, 18), (⟨"DrawingMachineModel$DrawCommandsModel", "length", "(I)I"⟩, 18), (⟨"DrawingMachineModel$DrawCommandsModel", "liesRight", "(I)Z"⟩, 18), (⟨"DrawingMachineModel$DrawCommandsModel", "isInMemory", "(JJ)Z"⟩, 18), (⟨"DrawingMachineModel$DrawCommandsModel", "fitsState", "(I)Z"⟩, 18), (⟨"DrawingMachineModel$DrawCommandsModel", "perform", "(I)V"⟩, 18), (⟨"DrawingMachineModel$DrawCommandsModel", "keep", "(I)V"⟩, 18), (⟨"DrawingMachineModel", "settle", "()V"⟩, 19), (⟨"DrawingMachineModel$VertexWorkModel", "refuse", "(ZZ)Z"⟩, 13), (⟨"DrawingMachineModel$TextureUnitsModel", "refuse", "(ZZ)Z"⟩, 11), (⟨"DrawingMachineModel$PlaceTestsModel", "isOpen", "(II)Z"⟩, 22), (⟨"DrawingMachineModel$PlaceTestsModel", "isInFrame", "(II)Z"⟩, 22)]
theorem lw_r4 : ∀ q ∈ lw_privs_4, lw_okq q := List.forall_mem_cons.mpr ⟨lw_p48, List.forall_mem_cons.mpr ⟨lw_p49, List.forall_mem_cons.mpr ⟨lw_p50, List.forall_mem_cons.mpr ⟨lw_p51, List.forall_mem_cons.mpr ⟨lw_p52, List.forall_mem_cons.mpr ⟨lw_p53, List.forall_mem_cons.mpr ⟨lw_p54, List.forall_mem_cons.mpr ⟨lw_p55, List.forall_mem_cons.mpr ⟨lw_p56, List.forall_mem_cons.mpr ⟨lw_p57, List.forall_mem_cons.mpr ⟨lw_p58, List.forall_mem_cons.mpr ⟨lw_p59, List.forall_mem_cons.mpr ⟨lw_p60, List.forall_mem_cons.mpr ⟨lw_p61, List.forall_mem_cons.mpr ⟨lw_p62, List.forall_mem_cons.mpr ⟨lw_p63, fun _ h => absurd h List.not_mem_nil⟩⟩⟩⟩⟩⟩⟩⟩⟩⟩⟩⟩⟩⟩⟩⟩
theorem lw_p64 : lw_okq (⟨"DrawingMachineModel$PlaceTestsModel", "placeOf", "(II)I"⟩, 22) := ⟨⟨by decide +kernel, by decide +kernel⟩, List.mem_of_getElem? (i := 1692) (by decide +kernel), List.mem_of_getElem? (i := 2073) (by decide +kernel), List.mem_of_getElem? (i := 2074) (by decide +kernel)⟩
theorem lw_p65 : lw_okq (⟨"DrawingMachineModel$PlaceTestsModel", "writeStencil", "(III)V"⟩, 22) := ⟨⟨by decide +kernel, by decide +kernel⟩, List.mem_of_getElem? (i := 1692) (by decide +kernel), List.mem_of_getElem? (i := 2077) (by decide +kernel), List.mem_of_getElem? (i := 2078) (by decide +kernel)⟩
theorem lw_p66 : lw_okq (⟨"DrawingMachineModel", "program", "(LDrawingMachineModel$ShaderMachineModel;Z)Z"⟩, 19) := ⟨⟨by decide +kernel, by decide +kernel⟩, List.mem_of_getElem? (i := 1418) (by decide +kernel), List.mem_of_getElem? (i := 2081) (by decide +kernel), List.mem_of_getElem? (i := 2082) (by decide +kernel)⟩
theorem lw_p67 : lw_okq (⟨"DrawingMachineModel$ShaderMachineModel", "refuse", "(Z)Z"⟩, 18) := ⟨⟨by decide +kernel, by decide +kernel⟩, List.mem_of_getElem? (i := 1548) (by decide +kernel), List.mem_of_getElem? (i := 2089) (by decide +kernel), List.mem_of_getElem? (i := 2090) (by decide +kernel)⟩
theorem lw_p68 : lw_okq (⟨"DrawingMachineModel$ShaderMachineModel", "check", "([IIZ)I"⟩, 18) := ⟨⟨by decide +kernel, by decide +kernel⟩, List.mem_of_getElem? (i := 1548) (by decide +kernel), List.mem_of_getElem? (i := 2093) (by decide +kernel), List.mem_of_getElem? (i := 2094) (by decide +kernel)⟩
theorem lw_p69 : lw_okq (⟨"DrawingMachineModel$ShaderMachineModel", "no", "(II)I"⟩, 18) := ⟨⟨by decide +kernel, by decide +kernel⟩, List.mem_of_getElem? (i := 1548) (by decide +kernel), List.mem_of_getElem? (i := 2131) (by decide +kernel), List.mem_of_getElem? (i := 2132) (by decide +kernel)⟩
theorem lw_p70 : lw_okq (⟨"DrawingMachineModel", "no", "(I)Z"⟩, 19) := ⟨⟨by decide +kernel, by decide +kernel⟩, List.mem_of_getElem? (i := 1418) (by decide +kernel), List.mem_of_getElem? (i := 2145) (by decide +kernel), List.mem_of_getElem? (i := 2146) (by decide +kernel)⟩
theorem lw_p71 : lw_okq (⟨"DrawingMachineModel", "isMuch", "()Z"⟩, 19) := ⟨⟨by decide +kernel, by decide +kernel⟩, List.mem_of_getElem? (i := 1418) (by decide +kernel), List.mem_of_getElem? (i := 2149) (by decide +kernel), List.mem_of_getElem? (i := 2150) (by decide +kernel)⟩
theorem lw_p72 : lw_okq (⟨"DrawingMachineModel", "draw", "(IIZ)V"⟩, 19) := ⟨⟨by decide +kernel, by decide +kernel⟩, List.mem_of_getElem? (i := 1418) (by decide +kernel), List.mem_of_getElem? (i := 2159) (by decide +kernel), List.mem_of_getElem? (i := 2160) (by decide +kernel)⟩
theorem lw_p73 : lw_okq (⟨"DrawingMachineModel", "corner", "(IIZ)V"⟩, 19) := ⟨⟨by decide +kernel, by decide +kernel⟩, List.mem_of_getElem? (i := 1418) (by decide +kernel), List.mem_of_getElem? (i := 2168) (by decide +kernel), List.mem_of_getElem? (i := 2169) (by decide +kernel)⟩
theorem lw_p74 : lw_okq (⟨"DrawingMachineModel$VertexWorkModel", "wordAt", "(J)I"⟩, 13) := ⟨⟨by decide +kernel, by decide +kernel⟩, List.mem_of_getElem? (i := 1615) (by decide +kernel), List.mem_of_getElem? (i := 2176) (by decide +kernel), List.mem_of_getElem? (i := 2177) (by decide +kernel)⟩
theorem lw_p75 : lw_okq (⟨"DrawingMachineModel$VertexWorkModel", "halfAt", "(JI)I"⟩, 13) := ⟨⟨by decide +kernel, by decide +kernel⟩, List.mem_of_getElem? (i := 1615) (by decide +kernel), List.mem_of_getElem? (i := 2181) (by decide +kernel), List.mem_of_getElem? (i := 2182) (by decide +kernel)⟩
theorem lw_p76 : lw_okq (⟨"DrawingMachineModel$VertexWorkModel", "byteAt", "(JI)I"⟩, 13) := ⟨⟨by decide +kernel, by decide +kernel⟩, List.mem_of_getElem? (i := 1615) (by decide +kernel), List.mem_of_getElem? (i := 2186) (by decide +kernel), List.mem_of_getElem? (i := 2187) (by decide +kernel)⟩
theorem lw_p77 : lw_okq (⟨"DrawingMachineModel$ShaderMachineModel", "take", "(II)V"⟩, 18) := ⟨⟨by decide +kernel, by decide +kernel⟩, List.mem_of_getElem? (i := 1548) (by decide +kernel), List.mem_of_getElem? (i := 2199) (by decide +kernel), List.mem_of_getElem? (i := 2200) (by decide +kernel)⟩
theorem lw_p78 : lw_okq (⟨"DrawingMachineModel$ShaderMachineModel", "put", "(II)V"⟩, 18) := ⟨⟨by decide +kernel, by decide +kernel⟩, List.mem_of_getElem? (i := 1548) (by decide +kernel), List.mem_of_getElem? (i := 2203) (by decide +kernel), List.mem_of_getElem? (i := 2204) (by decide +kernel)⟩
theorem lw_p79 : lw_okq (⟨"DrawingMachineModel$ShaderMachineModel", "part", "(II)I"⟩, 18) := ⟨⟨by decide +kernel, by decide +kernel⟩, List.mem_of_getElem? (i := 1548) (by decide +kernel), List.mem_of_getElem? (i := 2207) (by decide +kernel), List.mem_of_getElem? (i := 2208) (by decide +kernel)⟩
def lw_privs_5 : List (MethodName × Nat) := [(⟨"DrawingMachineModel$PlaceTestsModel", "placeOf", "(II)I"⟩, 22), (⟨"DrawingMachineModel$PlaceTestsModel", "writeStencil", "(III)V"⟩, 22), (⟨"DrawingMachineModel", "program", "(LDrawingMachineModel$ShaderMachineModel;Z)Z"⟩, 19), (⟨"DrawingMachineModel$ShaderMachineModel", "refuse", "(Z)Z"⟩, 18), (⟨"DrawingMachineModel$ShaderMachineModel", "check", "([IIZ)I"⟩, 18), (⟨"DrawingMachineModel$ShaderMachineModel", "no", "(II)I"⟩, 18), (⟨"DrawingMachineModel", "no", "(I)Z"⟩, 19), (⟨"DrawingMachineModel", "isMuch", "()Z"⟩, 19), (⟨"DrawingMachineModel", "draw", "(IIZ)V"⟩, 19), (⟨"DrawingMachineModel", "corner", "(IIZ)V"⟩, 19), (⟨"DrawingMachineModel$VertexWorkModel", "wordAt", "(J)I"⟩, 13), (⟨"DrawingMachineModel$VertexWorkModel", "halfAt", "(JI)I"⟩, 13), (⟨"DrawingMachineModel$VertexWorkModel", "byteAt", "(JI)I"⟩, 13), (⟨"DrawingMachineModel$ShaderMachineModel", "take", "(II)V"⟩, 18), (⟨"DrawingMachineModel$ShaderMachineModel", "put", "(II)V"⟩, 18), (⟨"DrawingMachineModel$ShaderMachineModel", "part", "(II)I"⟩, 18)]
theorem lw_r5 : ∀ q ∈ lw_privs_5, lw_okq q := List.forall_mem_cons.mpr ⟨lw_p64, List.forall_mem_cons.mpr ⟨lw_p65, List.forall_mem_cons.mpr ⟨lw_p66, List.forall_mem_cons.mpr ⟨lw_p67, List.forall_mem_cons.mpr ⟨lw_p68, List.forall_mem_cons.mpr ⟨lw_p69, List.forall_mem_cons.mpr ⟨lw_p70, List.forall_mem_cons.mpr ⟨lw_p71, List.forall_mem_cons.mpr ⟨lw_p72, List.forall_mem_cons.mpr ⟨lw_p73, List.forall_mem_cons.mpr ⟨lw_p74, List.forall_mem_cons.mpr ⟨lw_p75, List.forall_mem_cons.mpr ⟨lw_p76, List.forall_mem_cons.mpr ⟨lw_p77, List.forall_mem_cons.mpr ⟨lw_p78, List.forall_mem_cons.mpr ⟨lw_p79, fun _ h => absurd h List.not_mem_nil⟩⟩⟩⟩⟩⟩⟩⟩⟩⟩⟩⟩⟩⟩⟩⟩
theorem lw_p80 : lw_okq (⟨"DrawingMachineModel$ShaderMachineModel", "more", "(II)I"⟩, 18) := ⟨⟨by decide +kernel, by decide +kernel⟩, List.mem_of_getElem? (i := 1548) (by decide +kernel), List.mem_of_getElem? (i := 2229) (by decide +kernel), List.mem_of_getElem? (i := 2230) (by decide +kernel)⟩
theorem lw_p81 : lw_okq (⟨"DrawingMachineModel$ShaderMachineModel", "word", "(I)I"⟩, 18) := ⟨⟨by decide +kernel, by decide +kernel⟩, List.mem_of_getElem? (i := 1548) (by decide +kernel), List.mem_of_getElem? (i := 2233) (by decide +kernel), List.mem_of_getElem? (i := 2234) (by decide +kernel)⟩
theorem lw_p82 : lw_okq (⟨"DrawingMachineModel$ShaderMachineModel", "sampled", "(II)I"⟩, 18) := ⟨⟨by decide +kernel, by decide +kernel⟩, List.mem_of_getElem? (i := 1548) (by decide +kernel), List.mem_of_getElem? (i := 2237) (by decide +kernel), List.mem_of_getElem? (i := 2238) (by decide +kernel)⟩
theorem lw_p83 : lw_okq (⟨"DrawingMachineModel$TextureUnitsModel", "readLevel", "(IIIIZ)V"⟩, 11) := ⟨⟨by decide +kernel, by decide +kernel⟩, List.mem_of_getElem? (i := 1508) (by decide +kernel), List.mem_of_getElem? (i := 2246) (by decide +kernel), List.mem_of_getElem? (i := 2247) (by decide +kernel)⟩
theorem lw_p84 : lw_okq (⟨"DrawingMachineModel$TextureUnitsModel", "exponent", "(III)I"⟩, 11) := ⟨⟨by decide +kernel, by decide +kernel⟩, List.mem_of_getElem? (i := 1508) (by decide +kernel), List.mem_of_getElem? (i := 2250) (by decide +kernel), List.mem_of_getElem? (i := 2251) (by decide +kernel)⟩
theorem lw_p85 : lw_okq (⟨"DrawingMachineModel$TextureUnitsModel", "wrapped", "(IIII)V"⟩, 11) := ⟨⟨by decide +kernel, by decide +kernel⟩, List.mem_of_getElem? (i := 1508) (by decide +kernel), List.mem_of_getElem? (i := 2254) (by decide +kernel), List.mem_of_getElem? (i := 2255) (by decide +kernel)⟩
theorem lw_p86 : lw_okq (⟨"DrawingMachineModel$TextureUnitsModel", "wide", "(II)I"⟩, 11) := ⟨⟨by decide +kernel, by decide +kernel⟩, List.mem_of_getElem? (i := 1508) (by decide +kernel), List.mem_of_getElem? (i := 2258) (by decide +kernel), List.mem_of_getElem? (i := 2259) (by decide +kernel)⟩
theorem lw_p87 : lw_okq (⟨"DrawingMachineModel$TextureUnitsModel", "high", "(II)I"⟩, 11) := ⟨⟨by decide +kernel, by decide +kernel⟩, List.mem_of_getElem? (i := 1508) (by decide +kernel), List.mem_of_getElem? (i := 2265) (by decide +kernel), List.mem_of_getElem? (i := 2266) (by decide +kernel)⟩
theorem lw_p88 : lw_okq (⟨"DrawingMachineModel$TextureUnitsModel", "look", "(IIII)V"⟩, 11) := ⟨⟨by decide +kernel, by decide +kernel⟩, List.mem_of_getElem? (i := 1508) (by decide +kernel), List.mem_of_getElem? (i := 2269) (by decide +kernel), List.mem_of_getElem? (i := 2270) (by decide +kernel)⟩
theorem lw_p89 : lw_okq (⟨"DrawingMachineModel$TextureUnitsModel", "layOut", "(I)I"⟩, 11) := ⟨⟨by decide +kernel, by decide +kernel⟩, List.mem_of_getElem? (i := 1508) (by decide +kernel), List.mem_of_getElem? (i := 2273) (by decide +kernel), List.mem_of_getElem? (i := 2274) (by decide +kernel)⟩
theorem lw_p90 : lw_okq (⟨"DrawingMachineModel$TextureUnitsModel", "lay", "(IIIIIIII)V"⟩, 11) := ⟨⟨by decide +kernel, by decide +kernel⟩, List.mem_of_getElem? (i := 1508) (by decide +kernel), List.mem_of_getElem? (i := 2277) (by decide +kernel), List.mem_of_getElem? (i := 2278) (by decide +kernel)⟩
theorem lw_p91 : lw_okq (⟨"DrawingMachineModel$TextureUnitsModel", "ahead", "(II)I"⟩, 11) := ⟨⟨by decide +kernel, by decide +kernel⟩, List.mem_of_getElem? (i := 1508) (by decide +kernel), List.mem_of_getElem? (i := 2281) (by decide +kernel), List.mem_of_getElem? (i := 2282) (by decide +kernel)⟩
theorem lw_p92 : lw_okq (⟨"DrawingMachineModel$TextureUnitsModel", "bit", "(IJ)I"⟩, 11) := ⟨⟨by decide +kernel, by decide +kernel⟩, List.mem_of_getElem? (i := 1508) (by decide +kernel), List.mem_of_getElem? (i := 2285) (by decide +kernel), List.mem_of_getElem? (i := 2286) (by decide +kernel)⟩
theorem lw_p93 : lw_okq (⟨"DrawingMachineModel$TextureUnitsModel", "mixRow", "(IIIII)V"⟩, 11) := ⟨⟨by decide +kernel, by decide +kernel⟩, List.mem_of_getElem? (i := 1508) (by decide +kernel), List.mem_of_getElem? (i := 2294) (by decide +kernel), List.mem_of_getElem? (i := 2295) (by decide +kernel)⟩
theorem lw_p94 : lw_okq (⟨"DrawingMachineModel$VertexWorkModel", "tell", "(IIIIII)V"⟩, 13) := ⟨⟨by decide +kernel, by decide +kernel⟩, List.mem_of_getElem? (i := 1615) (by decide +kernel), List.mem_of_getElem? (i := 2310) (by decide +kernel), List.mem_of_getElem? (i := 2311) (by decide +kernel)⟩
theorem lw_p95 : lw_okq (⟨"DrawingMachineModel$VertexWorkModel", "cut", "(Z)V"⟩, 13) := ⟨⟨by decide +kernel, by decide +kernel⟩, List.mem_of_getElem? (i := 1615) (by decide +kernel), List.mem_of_getElem? (i := 2322) (by decide +kernel), List.mem_of_getElem? (i := 2323) (by decide +kernel)⟩
def lw_privs_6 : List (MethodName × Nat) := [(⟨"DrawingMachineModel$ShaderMachineModel", "more", "(II)I"⟩, 18), (⟨"DrawingMachineModel$ShaderMachineModel", "word", "(I)I"⟩, 18), (⟨"DrawingMachineModel$ShaderMachineModel", "sampled", "(II)I"⟩, 18), (⟨"DrawingMachineModel$TextureUnitsModel", "readLevel", "(IIIIZ)V"⟩, 11), (⟨"DrawingMachineModel$TextureUnitsModel", "exponent", "(III)I"⟩, 11), (⟨"DrawingMachineModel$TextureUnitsModel", "wrapped", "(IIII)V"⟩, 11), (⟨"DrawingMachineModel$TextureUnitsModel", "wide", "(II)I"⟩, 11), (⟨"DrawingMachineModel$TextureUnitsModel", "high", "(II)I"⟩, 11), (⟨"DrawingMachineModel$TextureUnitsModel", "look", "(IIII)V"⟩, 11), (⟨"DrawingMachineModel$TextureUnitsModel", "layOut", "(I)I"⟩, 11), (⟨"DrawingMachineModel$TextureUnitsModel", "lay", "(IIIIIIII)V"⟩, 11), (⟨"DrawingMachineModel$TextureUnitsModel", "ahead", "(II)I"⟩, 11), (⟨"DrawingMachineModel$TextureUnitsModel", "bit", "(IJ)I"⟩, 11), (⟨"DrawingMachineModel$TextureUnitsModel", "mixRow", "(IIIII)V"⟩, 11), (⟨"DrawingMachineModel$VertexWorkModel", "tell", "(IIIIII)V"⟩, 13), (⟨"DrawingMachineModel$VertexWorkModel", "cut", "(Z)V"⟩, 13)]
theorem lw_r6 : ∀ q ∈ lw_privs_6, lw_okq q := List.forall_mem_cons.mpr ⟨lw_p80, List.forall_mem_cons.mpr ⟨lw_p81, List.forall_mem_cons.mpr ⟨lw_p82, List.forall_mem_cons.mpr ⟨lw_p83, List.forall_mem_cons.mpr ⟨lw_p84, List.forall_mem_cons.mpr ⟨lw_p85, List.forall_mem_cons.mpr ⟨lw_p86, List.forall_mem_cons.mpr ⟨lw_p87, List.forall_mem_cons.mpr ⟨lw_p88, List.forall_mem_cons.mpr ⟨lw_p89, List.forall_mem_cons.mpr ⟨lw_p90, List.forall_mem_cons.mpr ⟨lw_p91, List.forall_mem_cons.mpr ⟨lw_p92, List.forall_mem_cons.mpr ⟨lw_p93, List.forall_mem_cons.mpr ⟨lw_p94, List.forall_mem_cons.mpr ⟨lw_p95, fun _ h => absurd h List.not_mem_nil⟩⟩⟩⟩⟩⟩⟩⟩⟩⟩⟩⟩⟩⟩⟩⟩
theorem lw_p96 : lw_okq (⟨"DrawingMachineModel$VertexWorkModel", "inside", "(IZ)J"⟩, 13) := ⟨⟨by decide +kernel, by decide +kernel⟩, List.mem_of_getElem? (i := 1615) (by decide +kernel), List.mem_of_getElem? (i := 2326) (by decide +kernel), List.mem_of_getElem? (i := 2327) (by decide +kernel)⟩
theorem lw_p97 : lw_okq (⟨"DrawingMachineModel$VertexWorkModel", "between", "(IIZ)V"⟩, 13) := ⟨⟨by decide +kernel, by decide +kernel⟩, List.mem_of_getElem? (i := 1615) (by decide +kernel), List.mem_of_getElem? (i := 2331) (by decide +kernel), List.mem_of_getElem? (i := 2332) (by decide +kernel)⟩
theorem lw_p98 : lw_okq (⟨"DrawingMachineModel$VertexWorkModel", "areaOf", "(I)J"⟩, 13) := ⟨⟨by decide +kernel, by decide +kernel⟩, List.mem_of_getElem? (i := 1615) (by decide +kernel), List.mem_of_getElem? (i := 2356) (by decide +kernel), List.mem_of_getElem? (i := 2357) (by decide +kernel)⟩
theorem lw_p99 : lw_okq (⟨"DrawingMachineModel", "triangle", "(II)V"⟩, 19) := ⟨⟨by decide +kernel, by decide +kernel⟩, List.mem_of_getElem? (i := 1418) (by decide +kernel), List.mem_of_getElem? (i := 2363) (by decide +kernel), List.mem_of_getElem? (i := 2364) (by decide +kernel)⟩
theorem lw_p100 : lw_okq (⟨"DrawingMachineModel$EdgeRasterModel", "refuse", "(ZZ)Z"⟩, 6) := ⟨⟨by decide +kernel, by decide +kernel⟩, List.mem_of_getElem? (i := 1662) (by decide +kernel), List.mem_of_getElem? (i := 2380) (by decide +kernel), List.mem_of_getElem? (i := 2381) (by decide +kernel)⟩
theorem lw_p101 : lw_okq (⟨"DrawingMachineModel$EdgeRasterModel", "isCovered", "(II)Z"⟩, 6) := ⟨⟨by decide +kernel, by decide +kernel⟩, List.mem_of_getElem? (i := 1662) (by decide +kernel), List.mem_of_getElem? (i := 2397) (by decide +kernel), List.mem_of_getElem? (i := 2398) (by decide +kernel)⟩
theorem lw_p102 : lw_okq (⟨"DrawingMachineModel$EdgeRasterModel", "whole", "()J"⟩, 6) := ⟨⟨by decide +kernel, by decide +kernel⟩, List.mem_of_getElem? (i := 1662) (by decide +kernel), List.mem_of_getElem? (i := 2401) (by decide +kernel), List.mem_of_getElem? (i := 2402) (by decide +kernel)⟩
theorem lw_p103 : lw_okq (⟨"DrawingMachineModel$EdgeRasterModel", "room", "(IIII)J"⟩, 6) := ⟨⟨by decide +kernel, by decide +kernel⟩, List.mem_of_getElem? (i := 1662) (by decide +kernel), List.mem_of_getElem? (i := 2405) (by decide +kernel), List.mem_of_getElem? (i := 2406) (by decide +kernel)⟩
theorem lw_p104 : lw_okq (⟨"DrawingMachineModel$EdgeRasterModel", "weightOf", "(III)J"⟩, 6) := ⟨⟨by decide +kernel, by decide +kernel⟩, List.mem_of_getElem? (i := 1662) (by decide +kernel), List.mem_of_getElem? (i := 2409) (by decide +kernel), List.mem_of_getElem? (i := 2410) (by decide +kernel)⟩
theorem lw_p105 : lw_okq (⟨"DrawingMachineModel$EdgeRasterModel", "from", "(I)I"⟩, 6) := ⟨⟨by decide +kernel, by decide +kernel⟩, List.mem_of_getElem? (i := 1662) (by decide +kernel), List.mem_of_getElem? (i := 2413) (by decide +kernel), List.mem_of_getElem? (i := 2414) (by decide +kernel)⟩
theorem lw_p106 : lw_okq (⟨"DrawingMachineModel$EdgeRasterModel", "to", "(I)I"⟩, 6) := ⟨⟨by decide +kernel, by decide +kernel⟩, List.mem_of_getElem? (i := 1662) (by decide +kernel), List.mem_of_getElem? (i := 2417) (by decide +kernel), List.mem_of_getElem? (i := 2418) (by decide +kernel)⟩
theorem lw_p107 : lw_okq (⟨"DrawingMachineModel", "place", "(III)V"⟩, 19) := ⟨⟨by decide +kernel, by decide +kernel⟩, List.mem_of_getElem? (i := 1418) (by decide +kernel), List.mem_of_getElem? (i := 2421) (by decide +kernel), List.mem_of_getElem? (i := 2422) (by decide +kernel)⟩
theorem lw_p108 : lw_okq (⟨"DrawingMachineModel", "share", "(II)I"⟩, 19) := ⟨⟨by decide +kernel, by decide +kernel⟩, List.mem_of_getElem? (i := 1418) (by decide +kernel), List.mem_of_getElem? (i := 2425) (by decide +kernel), List.mem_of_getElem? (i := 2426) (by decide +kernel)⟩
theorem lw_p109 : lw_okq (⟨"DrawingMachineModel", "value", "(I)I"⟩, 19) := ⟨⟨by decide +kernel, by decide +kernel⟩, List.mem_of_getElem? (i := 1418) (by decide +kernel), List.mem_of_getElem? (i := 2434) (by decide +kernel), List.mem_of_getElem? (i := 2435) (by decide +kernel)⟩
theorem lw_p110 : lw_okq (⟨"DrawingMachineModel$PlaceTestsModel", "answer", "(I)I"⟩, 22) := ⟨⟨by decide +kernel, by decide +kernel⟩, List.mem_of_getElem? (i := 1692) (by decide +kernel), List.mem_of_getElem? (i := 2445) (by decide +kernel), List.mem_of_getElem? (i := 2446) (by decide +kernel)⟩
theorem lw_p111 : lw_okq (⟨"DrawingMachineModel$PlaceTestsModel", "act", "(III)V"⟩, 22) := ⟨⟨by decide +kernel, by decide +kernel⟩, List.mem_of_getElem? (i := 1692) (by decide +kernel), List.mem_of_getElem? (i := 2452) (by decide +kernel), List.mem_of_getElem? (i := 2453) (by decide +kernel)⟩
def lw_privs_7 : List (MethodName × Nat) := [(⟨"DrawingMachineModel$VertexWorkModel", "inside", "(IZ)J"⟩, 13), (⟨"DrawingMachineModel$VertexWorkModel", "between", "(IIZ)V"⟩, 13), (⟨"DrawingMachineModel$VertexWorkModel", "areaOf", "(I)J"⟩, 13), (⟨"DrawingMachineModel", "triangle", "(II)V"⟩, 19), (⟨"DrawingMachineModel$EdgeRasterModel", "refuse", "(ZZ)Z"⟩, 6), (⟨"DrawingMachineModel$EdgeRasterModel", "isCovered", "(II)Z"⟩, 6), (⟨"DrawingMachineModel$EdgeRasterModel", "whole", "()J"⟩, 6), (⟨"DrawingMachineModel$EdgeRasterModel", "room", "(IIII)J"⟩, 6), (⟨"DrawingMachineModel$EdgeRasterModel", "weightOf", "(III)J"⟩, 6), (⟨"DrawingMachineModel$EdgeRasterModel", "from", "(I)I"⟩, 6), (⟨"DrawingMachineModel$EdgeRasterModel", "to", "(I)I"⟩, 6), (⟨"DrawingMachineModel", "place", "(III)V"⟩, 19), (⟨"DrawingMachineModel", "share", "(II)I"⟩, 19), (⟨"DrawingMachineModel", "value", "(I)I"⟩, 19), (⟨"DrawingMachineModel$PlaceTestsModel", "answer", "(I)I"⟩, 22), (⟨"DrawingMachineModel$PlaceTestsModel", "act", "(III)V"⟩, 22)]
theorem lw_r7 : ∀ q ∈ lw_privs_7, lw_okq q := List.forall_mem_cons.mpr ⟨lw_p96, List.forall_mem_cons.mpr ⟨lw_p97, List.forall_mem_cons.mpr ⟨lw_p98, List.forall_mem_cons.mpr ⟨lw_p99, List.forall_mem_cons.mpr ⟨lw_p100, List.forall_mem_cons.mpr ⟨lw_p101, List.forall_mem_cons.mpr ⟨lw_p102, List.forall_mem_cons.mpr ⟨lw_p103, List.forall_mem_cons.mpr ⟨lw_p104, List.forall_mem_cons.mpr ⟨lw_p105, List.forall_mem_cons.mpr ⟨lw_p106, List.forall_mem_cons.mpr ⟨lw_p107, List.forall_mem_cons.mpr ⟨lw_p108, List.forall_mem_cons.mpr ⟨lw_p109, List.forall_mem_cons.mpr ⟨lw_p110, List.forall_mem_cons.mpr ⟨lw_p111, fun _ h => absurd h List.not_mem_nil⟩⟩⟩⟩⟩⟩⟩⟩⟩⟩⟩⟩⟩⟩⟩⟩
theorem lw_p112 : lw_okq (⟨"DrawingMachineModel$PlaceTestsModel", "bits", "(I)I"⟩, 22) := ⟨⟨by decide +kernel, by decide +kernel⟩, List.mem_of_getElem? (i := 1692) (by decide +kernel), List.mem_of_getElem? (i := 2463) (by decide +kernel), List.mem_of_getElem? (i := 2464) (by decide +kernel)⟩
theorem lw_p113 : lw_okq (⟨"DrawingMachineModel$PlaceTestsModel", "blended", "(I)I"⟩, 22) := ⟨⟨by decide +kernel, by decide +kernel⟩, List.mem_of_getElem? (i := 1692) (by decide +kernel), List.mem_of_getElem? (i := 2467) (by decide +kernel), List.mem_of_getElem? (i := 2468) (by decide +kernel)⟩
theorem lw_p114 : lw_okq (⟨"DrawingMachineModel$PlaceTestsModel", "factor", "(II)I"⟩, 22) := ⟨⟨by decide +kernel, by decide +kernel⟩, List.mem_of_getElem? (i := 1692) (by decide +kernel), List.mem_of_getElem? (i := 2471) (by decide +kernel), List.mem_of_getElem? (i := 2472) (by decide +kernel)⟩
theorem lw_p115 : lw_okq (⟨"DrawingMachineModel", "copy", "()V"⟩, 19) := ⟨⟨by decide +kernel, by decide +kernel⟩, List.mem_of_getElem? (i := 1418) (by decide +kernel), List.mem_of_getElem? (i := 2478) (by decide +kernel), List.mem_of_getElem? (i := 2479) (by decide +kernel)⟩
theorem lw_p116 : lw_okq (⟨"DrawingMachineModel$PlaceTestsModel", "show", "(II)I"⟩, 22) := ⟨⟨by decide +kernel, by decide +kernel⟩, List.mem_of_getElem? (i := 1692) (by decide +kernel), List.mem_of_getElem? (i := 2482) (by decide +kernel), List.mem_of_getElem? (i := 2483) (by decide +kernel)⟩
def lw_privs_8 : List (MethodName × Nat) := [(⟨"DrawingMachineModel$PlaceTestsModel", "bits", "(I)I"⟩, 22), (⟨"DrawingMachineModel$PlaceTestsModel", "blended", "(I)I"⟩, 22), (⟨"DrawingMachineModel$PlaceTestsModel", "factor", "(II)I"⟩, 22), (⟨"DrawingMachineModel", "copy", "()V"⟩, 19), (⟨"DrawingMachineModel$PlaceTestsModel", "show", "(II)I"⟩, 22)]
theorem lw_r8 : ∀ q ∈ lw_privs_8, lw_okq q := List.forall_mem_cons.mpr ⟨lw_p112, List.forall_mem_cons.mpr ⟨lw_p113, List.forall_mem_cons.mpr ⟨lw_p114, List.forall_mem_cons.mpr ⟨lw_p115, List.forall_mem_cons.mpr ⟨lw_p116, fun _ h => absurd h List.not_mem_nil⟩⟩⟩⟩⟩
def lw_privs : List (MethodName × Nat) := lw_privs_1 ++ (lw_privs_2 ++ (lw_privs_3 ++ (lw_privs_4 ++ (lw_privs_5 ++ (lw_privs_6 ++ (lw_privs_7 ++ (lw_privs_8)))))))
def lw_tbl : List Cond := k2_sels lw_privs ++ tables_1
theorem lw_privs_ok : ∀ q ∈ lw_privs, lw_okq q := by
  show ∀ q ∈ lw_privs_1 ++ (lw_privs_2 ++ (lw_privs_3 ++ (lw_privs_4 ++ (lw_privs_5 ++ (lw_privs_6 ++ (lw_privs_7 ++ (lw_privs_8))))))), lw_okq q
  exact List.forall_mem_append.mpr ⟨lw_r1, List.forall_mem_append.mpr ⟨lw_r2, List.forall_mem_append.mpr ⟨lw_r3, List.forall_mem_append.mpr ⟨lw_r4, List.forall_mem_append.mpr ⟨lw_r5, List.forall_mem_append.mpr ⟨lw_r6, List.forall_mem_append.mpr ⟨lw_r7, lw_r8⟩⟩⟩⟩⟩⟩⟩
-- ===== end of PART A; then your names; then what follows =====

theorem tw_ok1 {ws : List Cond} {ps : List Nat} (h : ws = ps.filterMap (fun i => tables_1[i]?)) (hg : ws.all goodWord = true) : ∀ w ∈ ws, w ∈ lw_tbl ∧ goodWord w = true := fun w hw => by
  refine ⟨?_, List.all_eq_true.mp hg w hw⟩
  rw [h] at hw
  obtain ⟨i, -, hi⟩ := List.mem_filterMap.mp hw
  exact List.mem_append_right _ (List.mem_of_getElem? hi)
theorem tw_ok2 {ws : List Cond} {ps : List Nat} (h : ws = ps.filterMap (fun i => (k2_sels lw_privs)[i]?)) (hg : ws.all goodWord = true) : ∀ w ∈ ws, w ∈ lw_tbl ∧ goodWord w = true := fun w hw => by
  refine ⟨?_, List.all_eq_true.mp hg w hw⟩
  rw [h] at hw
  obtain ⟨i, -, hi⟩ := List.mem_filterMap.mp hw
  exact List.mem_append_left _ (List.mem_of_getElem? hi)
def R_DM : String := "DrawingMachine"
def F_DM : u_T := fun k => match k with
  | 0 => ("DrawingMachine", "memory", "[I", true)
  | 1 => ("DrawingMachine", "told", "LDrawingMachine$Told;", true)
  | 2 => ("DrawingMachine", "picture", "LDrawingMachine$Picture;", true)
  | 3 => ("DrawingMachine", "course", "LDrawingMachine$Course;", true)
  | 4 => ("DrawingMachine", "checker", "LDrawingMachine$Checker;", true)
  | 5 => ("DrawingMachine", "drawing", "LDrawingMachine$Drawing;", true)
  | 6 => ("DrawingMachine", "cornersProgram", "LDrawingMachine$Program;", false)
  | 7 => ("DrawingMachine", "placesProgram", "LDrawingMachine$Program;", false)
  | _ => ("DrawingMachine", "spareProgram", "LDrawingMachine$Program;", false)
def t_DM : Nat → FieldType := fun k => match k with
  | 0 => .array .int
  | 1 => .object "DrawingMachine$Told"
  | 2 => .object "DrawingMachine$Picture"
  | 3 => .object "DrawingMachine$Course"
  | 4 => .object "DrawingMachine$Checker"
  | 5 => .object "DrawingMachine$Drawing"
  | 6 => .object "DrawingMachine$Program"
  | 7 => .object "DrawingMachine$Program"
  | _ => .object "DrawingMachine$Program"
theorem n_DM : ∀ a, a < 9 → ∀ b, b < 9 → a ≠ b → (F_DM a).2.1 ≠ (F_DM b).2.1 := by decide +kernel
theorem t_DM_ok : ∀ k, k < 9 → parseFieldDescriptor (F_DM k).2.2.1 = some (t_DM k) := by decide +kernel
def R_Told : String := "DrawingMachine$Told"
def F_Told : u_T := fun k => match k with
  | _ => ("DrawingMachine$Told", "kept", "[I", true)
def t_Told : Nat → FieldType := fun k => match k with
  | _ => .array .int
theorem n_Told : ∀ a, a < 1 → ∀ b, b < 1 → a ≠ b → (F_Told a).2.1 ≠ (F_Told b).2.1 := by decide +kernel
theorem t_Told_ok : ∀ k, k < 1 → parseFieldDescriptor (F_Told k).2.2.1 = some (t_Told k) := by decide +kernel
def R_Pic : String := "DrawingMachine$Picture"
def F_Pic : u_T := fun k => match k with
  | 0 => ("DrawingMachine$Picture", "wide", "I", false)
  | 1 => ("DrawingMachine$Picture", "high", "I", false)
  | 2 => ("DrawingMachine$Picture", "colours", "[I", false)
  | 3 => ("DrawingMachine$Picture", "depths", "[I", false)
  | 4 => ("DrawingMachine$Picture", "stencils", "[I", false)
  | 5 => ("DrawingMachine$Picture", "told", "LDrawingMachine$Told;", true)
  | _ => ("DrawingMachine$Picture", "kept", "[I", true)
def t_Pic : Nat → FieldType := fun k => match k with
  | 0 => .int
  | 1 => .int
  | 2 => .array .int
  | 3 => .array .int
  | 4 => .array .int
  | 5 => .object "DrawingMachine$Told"
  | _ => .array .int
theorem n_Pic : ∀ a, a < 7 → ∀ b, b < 7 → a ≠ b → (F_Pic a).2.1 ≠ (F_Pic b).2.1 := by decide +kernel
theorem t_Pic_ok : ∀ k, k < 7 → parseFieldDescriptor (F_Pic k).2.2.1 = some (t_Pic k) := by decide +kernel
def R_Cou : String := "DrawingMachine$Course"
def F_Cou : u_T := fun k => match k with
  | 0 => ("DrawingMachine$Course", "given", "[I", true)
  | 1 => ("DrawingMachine$Course", "words", "I", false)
  | 2 => ("DrawingMachine$Course", "kind", "I", false)
  | 3 => ("DrawingMachine$Course", "depth", "I", false)
  | 4 => ("DrawingMachine$Course", "done", "I", false)
  | 5 => ("DrawingMachine$Course", "refused", "I", false)
  | 6 => ("DrawingMachine$Course", "lastPlace", "I", false)
  | 7 => ("DrawingMachine$Course", "lastDepth", "I", false)
  | 8 => ("DrawingMachine$Course", "over", "Z", false)
  | 9 => ("DrawingMachine$Course", "work", "J", false)
  | 10 => ("DrawingMachine$Course", "memory", "[I", true)
  | 11 => ("DrawingMachine$Course", "returns", "[I", true)
  | 12 => ("DrawingMachine$Course", "stream", "[I", false)
  | 13 => ("DrawingMachine$Course", "position", "I", false)
  | _ => ("DrawingMachine$Course", "length", "I", false)
def t_Cou : Nat → FieldType := fun k => match k with
  | 0 => .array .int
  | 1 => .int
  | 2 => .int
  | 3 => .int
  | 4 => .int
  | 5 => .int
  | 6 => .int
  | 7 => .int
  | 8 => .boolean
  | 9 => .long
  | 10 => .array .int
  | 11 => .array .int
  | 12 => .array .int
  | 13 => .int
  | _ => .int
theorem n_Cou : ∀ a, a < 15 → ∀ b, b < 15 → a ≠ b → (F_Cou a).2.1 ≠ (F_Cou b).2.1 := by decide +kernel
theorem t_Cou_ok : ∀ k, k < 15 → parseFieldDescriptor (F_Cou k).2.2.1 = some (t_Cou k) := by decide +kernel
def R_Chk : String := "DrawingMachine$Checker"
def F_Chk : u_T := fun k => match k with
  | 0 => ("DrawingMachine$Checker", "fault", "I", false)
  | 1 => ("DrawingMachine$Checker", "place", "I", false)
  | 2 => ("DrawingMachine$Checker", "loopOf", "[I", true)
  | 3 => ("DrawingMachine$Checker", "open", "[I", true)
  | 4 => ("DrawingMachine$Checker", "times", "[J", true)
  | 5 => ("DrawingMachine$Checker", "depth", "I", false)
  | _ => ("DrawingMachine$Checker", "steps", "J", false)
def t_Chk : Nat → FieldType := fun k => match k with
  | 0 => .int
  | 1 => .int
  | 2 => .array .int
  | 3 => .array .int
  | 4 => .array .long
  | 5 => .int
  | _ => .long
theorem n_Chk : ∀ a, a < 7 → ∀ b, b < 7 → a ≠ b → (F_Chk a).2.1 ≠ (F_Chk b).2.1 := by decide +kernel
theorem t_Chk_ok : ∀ k, k < 7 → parseFieldDescriptor (F_Chk k).2.2.1 = some (t_Chk k) := by decide +kernel
def R_Drw : String := "DrawingMachine$Drawing"
def F_Drw : u_T := fun k => match k with
  | 0 => ("DrawingMachine$Drawing", "counts", "[I", true)
  | 1 => ("DrawingMachine$Drawing", "queries", "[I", true)
  | 2 => ("DrawingMachine$Drawing", "openQuery", "I", false)
  | 3 => ("DrawingMachine$Drawing", "kept", "[I", true)
  | 4 => ("DrawingMachine$Drawing", "picture", "LDrawingMachine$Picture;", true)
  | 5 => ("DrawingMachine$Drawing", "processor", "LDrawingMachine$Processor;", true)
  | 6 => ("DrawingMachine$Drawing", "vertices", "LDrawingMachine$Vertices;", true)
  | 7 => ("DrawingMachine$Drawing", "shape", "LDrawingMachine$Shape;", true)
  | _ => ("DrawingMachine$Drawing", "covering", "LDrawingMachine$Covering;", true)
def t_Drw : Nat → FieldType := fun k => match k with
  | 0 => .array .int
  | 1 => .array .int
  | 2 => .int
  | 3 => .array .int
  | 4 => .object "DrawingMachine$Picture"
  | 5 => .object "DrawingMachine$Processor"
  | 6 => .object "DrawingMachine$Vertices"
  | 7 => .object "DrawingMachine$Shape"
  | _ => .object "DrawingMachine$Covering"
theorem n_Drw : ∀ a, a < 9 → ∀ b, b < 9 → a ≠ b → (F_Drw a).2.1 ≠ (F_Drw b).2.1 := by decide +kernel
theorem t_Drw_ok : ∀ k, k < 9 → parseFieldDescriptor (F_Drw k).2.2.1 = some (t_Drw k) := by decide +kernel
def R_Pro : String := "DrawingMachine$Processor"
def F_Pro : u_T := fun k => match k with
  | 0 => ("DrawingMachine$Processor", "bank", "[I", true)
  | 1 => ("DrawingMachine$Processor", "memory", "[I", true)
  | 2 => ("DrawingMachine$Processor", "textures", "LDrawingMachine$Textures;", true)
  | 3 => ("DrawingMachine$Processor", "a", "[I", true)
  | 4 => ("DrawingMachine$Processor", "b", "[I", true)
  | 5 => ("DrawingMachine$Processor", "c", "[I", true)
  | 6 => ("DrawingMachine$Processor", "result", "[I", true)
  | 7 => ("DrawingMachine$Processor", "starts", "[I", true)
  | _ => ("DrawingMachine$Processor", "left", "[I", true)
def t_Pro : Nat → FieldType := fun k => match k with
  | 0 => .array .int
  | 1 => .array .int
  | 2 => .object "DrawingMachine$Textures"
  | 3 => .array .int
  | 4 => .array .int
  | 5 => .array .int
  | 6 => .array .int
  | 7 => .array .int
  | _ => .array .int
theorem n_Pro : ∀ a, a < 9 → ∀ b, b < 9 → a ≠ b → (F_Pro a).2.1 ≠ (F_Pro b).2.1 := by decide +kernel
theorem t_Pro_ok : ∀ k, k < 9 → parseFieldDescriptor (F_Pro k).2.2.1 = some (t_Pro k) := by decide +kernel
def R_Tex : String := "DrawingMachine$Textures"
def F_Tex : u_T := fun k => match k with
  | 0 => ("DrawingMachine$Textures", "memory", "[I", true)
  | 1 => ("DrawingMachine$Textures", "kept", "[I", true)
  | 2 => ("DrawingMachine$Textures", "nextLevel", "[I", true)
  | 3 => ("DrawingMachine$Textures", "beside", "[I", true)
  | 4 => ("DrawingMachine$Textures", "below", "[I", true)
  | _ => ("DrawingMachine$Textures", "belowBeside", "[I", true)
def t_Tex : Nat → FieldType := fun k => match k with
  | 0 => .array .int
  | 1 => .array .int
  | 2 => .array .int
  | 3 => .array .int
  | 4 => .array .int
  | _ => .array .int
theorem n_Tex : ∀ a, a < 6 → ∀ b, b < 6 → a ≠ b → (F_Tex a).2.1 ≠ (F_Tex b).2.1 := by decide +kernel
theorem t_Tex_ok : ∀ k, k < 6 → parseFieldDescriptor (F_Tex k).2.2.1 = some (t_Tex k) := by decide +kernel
def R_Ver : String := "DrawingMachine$Vertices"
def F_Ver : u_T := fun k => match k with
  | 0 => ("DrawingMachine$Vertices", "memory", "[I", true)
  | _ => ("DrawingMachine$Vertices", "kept", "[I", true)
def t_Ver : Nat → FieldType := fun k => match k with
  | 0 => .array .int
  | _ => .array .int
theorem n_Ver : ∀ a, a < 2 → ∀ b, b < 2 → a ≠ b → (F_Ver a).2.1 ≠ (F_Ver b).2.1 := by decide +kernel
theorem t_Ver_ok : ∀ k, k < 2 → parseFieldDescriptor (F_Ver k).2.2.1 = some (t_Ver k) := by decide +kernel
def R_Sha : String := "DrawingMachine$Shape"
def F_Sha : u_T := fun k => match k with
  | 0 => ("DrawingMachine$Shape", "many", "I", false)
  | 1 => ("DrawingMachine$Shape", "corners", "[[I", false)
  | 2 => ("DrawingMachine$Shape", "x", "[I", true)
  | 3 => ("DrawingMachine$Shape", "y", "[I", true)
  | 4 => ("DrawingMachine$Shape", "depth", "[I", true)
  | 5 => ("DrawingMachine$Shape", "nearness", "[I", true)
  | 6 => ("DrawingMachine$Shape", "spare", "[[I", false)
  | _ => ("DrawingMachine$Shape", "kept", "[I", true)
def t_Sha : Nat → FieldType := fun k => match k with
  | 0 => .int
  | 1 => .array (.array .int)
  | 2 => .array .int
  | 3 => .array .int
  | 4 => .array .int
  | 5 => .array .int
  | 6 => .array (.array .int)
  | _ => .array .int
theorem n_Sha : ∀ a, a < 8 → ∀ b, b < 8 → a ≠ b → (F_Sha a).2.1 ≠ (F_Sha b).2.1 := by decide +kernel
theorem t_Sha_ok : ∀ k, k < 8 → parseFieldDescriptor (F_Sha k).2.2.1 = some (t_Sha k) := by decide +kernel
def R_Cov : String := "DrawingMachine$Covering"
def F_Cov : u_T := fun k => match k with
  | 0 => ("DrawingMachine$Covering", "front", "Z", false)
  | 1 => ("DrawingMachine$Covering", "left", "I", false)
  | 2 => ("DrawingMachine$Covering", "right", "I", false)
  | 3 => ("DrawingMachine$Covering", "top", "I", false)
  | 4 => ("DrawingMachine$Covering", "bottom", "I", false)
  | 5 => ("DrawingMachine$Covering", "shape", "LDrawingMachine$Shape;", true)
  | 6 => ("DrawingMachine$Covering", "who", "[I", true)
  | 7 => ("DrawingMachine$Covering", "along", "[J", true)
  | 8 => ("DrawingMachine$Covering", "down", "[J", true)
  | 9 => ("DrawingMachine$Covering", "start", "[J", true)
  | 10 => ("DrawingMachine$Covering", "least", "[J", true)
  | 11 => ("DrawingMachine$Covering", "weight", "[J", true)
  | 12 => ("DrawingMachine$Covering", "share", "[J", true)
  | 13 => ("DrawingMachine$Covering", "area", "J", false)
  | _ => ("DrawingMachine$Covering", "shares", "J", false)
def t_Cov : Nat → FieldType := fun k => match k with
  | 0 => .boolean
  | 1 => .int
  | 2 => .int
  | 3 => .int
  | 4 => .int
  | 5 => .object "DrawingMachine$Shape"
  | 6 => .array .int
  | 7 => .array .long
  | 8 => .array .long
  | 9 => .array .long
  | 10 => .array .long
  | 11 => .array .long
  | 12 => .array .long
  | 13 => .long
  | _ => .long
theorem n_Cov : ∀ a, a < 15 → ∀ b, b < 15 → a ≠ b → (F_Cov a).2.1 ≠ (F_Cov b).2.1 := by decide +kernel
theorem t_Cov_ok : ∀ k, k < 15 → parseFieldDescriptor (F_Cov k).2.2.1 = some (t_Cov k) := by decide +kernel
def R_Prg : String := "DrawingMachine$Program"
def F_Prg : u_T := fun k => match k with
  | 0 => ("DrawingMachine$Program", "words", "[I", true)
  | 1 => ("DrawingMachine$Program", "many", "I", false)
  | 2 => ("DrawingMachine$Program", "steps", "I", false)
  | _ => ("DrawingMachine$Program", "reads", "I", false)
def t_Prg : Nat → FieldType := fun k => match k with
  | 0 => .array .int
  | 1 => .int
  | 2 => .int
  | _ => .int
theorem n_Prg : ∀ a, a < 4 → ∀ b, b < 4 → a ≠ b → (F_Prg a).2.1 ≠ (F_Prg b).2.1 := by decide +kernel
theorem t_Prg_ok : ∀ k, k < 4 → parseFieldDescriptor (F_Prg k).2.2.1 = some (t_Prg k) := by decide +kernel
def R_Mod : String := "DrawingMachineModel"
def F_Mod : u_T := fun k => match k with
  | 0 => ("DrawingMachineModel", "thrown", "I", false)
  | 1 => ("DrawingMachineModel", "wide", "I", false)
  | 2 => ("DrawingMachineModel", "high", "I", false)
  | 3 => ("DrawingMachineModel", "commands", "LDrawingMachineModel$DrawCommandsModel;", true)
  | 4 => ("DrawingMachineModel", "units", "LDrawingMachineModel$TextureUnitsModel;", true)
  | 5 => ("DrawingMachineModel", "corners", "LDrawingMachineModel$ShaderMachineModel;", true)
  | 6 => ("DrawingMachineModel", "places", "LDrawingMachineModel$ShaderMachineModel;", true)
  | 7 => ("DrawingMachineModel", "vertices", "LDrawingMachineModel$VertexWorkModel;", true)
  | 8 => ("DrawingMachineModel", "raster", "LDrawingMachineModel$EdgeRasterModel;", true)
  | 9 => ("DrawingMachineModel", "tests", "LDrawingMachineModel$PlaceTestsModel;", true)
  | 10 => ("DrawingMachineModel", "fault", "I", false)
  | 11 => ("DrawingMachineModel", "faultPlace", "I", false)
  | 12 => ("DrawingMachineModel", "cornersSteps", "I", false)
  | 13 => ("DrawingMachineModel", "placesSteps", "I", false)
  | 14 => ("DrawingMachineModel", "work", "J", false)
  | 15 => ("DrawingMachineModel", "queries", "[I", true)
  | 16 => ("DrawingMachineModel", "counts", "[I", true)
  | 17 => ("DrawingMachineModel", "before", "[I", true)
  | _ => ("DrawingMachineModel", "shares", "[J", true)
def t_Mod : Nat → FieldType := fun k => match k with
  | 0 => .int
  | 1 => .int
  | 2 => .int
  | 3 => .object "DrawingMachineModel$DrawCommandsModel"
  | 4 => .object "DrawingMachineModel$TextureUnitsModel"
  | 5 => .object "DrawingMachineModel$ShaderMachineModel"
  | 6 => .object "DrawingMachineModel$ShaderMachineModel"
  | 7 => .object "DrawingMachineModel$VertexWorkModel"
  | 8 => .object "DrawingMachineModel$EdgeRasterModel"
  | 9 => .object "DrawingMachineModel$PlaceTestsModel"
  | 10 => .int
  | 11 => .int
  | 12 => .int
  | 13 => .int
  | 14 => .long
  | 15 => .array .int
  | 16 => .array .int
  | 17 => .array .int
  | _ => .array .long
theorem n_Mod : ∀ a, a < 19 → ∀ b, b < 19 → a ≠ b → (F_Mod a).2.1 ≠ (F_Mod b).2.1 := by decide +kernel
theorem t_Mod_ok : ∀ k, k < 19 → parseFieldDescriptor (F_Mod k).2.2.1 = some (t_Mod k) := by decide +kernel
def R_Cmd : String := "DrawingMachineModel$DrawCommandsModel"
def F_Cmd : u_T := fun k => match k with
  | 0 => ("DrawingMachineModel$DrawCommandsModel", "thrown", "I", false)
  | 1 => ("DrawingMachineModel$DrawCommandsModel", "memory", "[I", true)
  | 2 => ("DrawingMachineModel$DrawCommandsModel", "wide", "I", false)
  | 3 => ("DrawingMachineModel$DrawCommandsModel", "high", "I", false)
  | 4 => ("DrawingMachineModel$DrawCommandsModel", "stream", "[I", true)
  | 5 => ("DrawingMachineModel$DrawCommandsModel", "size", "I", false)
  | 6 => ("DrawingMachineModel$DrawCommandsModel", "at", "I", false)
  | 7 => ("DrawingMachineModel$DrawCommandsModel", "depth", "I", false)
  | 8 => ("DrawingMachineModel$DrawCommandsModel", "back", "[I", true)
  | 9 => ("DrawingMachineModel$DrawCommandsModel", "over", "Z", false)
  | 10 => ("DrawingMachineModel$DrawCommandsModel", "refusal", "I", false)
  | 11 => ("DrawingMachineModel$DrawCommandsModel", "place", "I", false)
  | 12 => ("DrawingMachineModel$DrawCommandsModel", "deep", "I", false)
  | 13 => ("DrawingMachineModel$DrawCommandsModel", "done", "I", false)
  | 14 => ("DrawingMachineModel$DrawCommandsModel", "query", "I", false)
  | 15 => ("DrawingMachineModel$DrawCommandsModel", "arguments", "I", false)
  | 16 => ("DrawingMachineModel$DrawCommandsModel", "argument", "[I", true)
  | _ => ("DrawingMachineModel$DrawCommandsModel", "kept", "[I", true)
def t_Cmd : Nat → FieldType := fun k => match k with
  | 0 => .int
  | 1 => .array .int
  | 2 => .int
  | 3 => .int
  | 4 => .array .int
  | 5 => .int
  | 6 => .int
  | 7 => .int
  | 8 => .array .int
  | 9 => .boolean
  | 10 => .int
  | 11 => .int
  | 12 => .int
  | 13 => .int
  | 14 => .int
  | 15 => .int
  | 16 => .array .int
  | _ => .array .int
theorem n_Cmd : ∀ a, a < 18 → ∀ b, b < 18 → a ≠ b → (F_Cmd a).2.1 ≠ (F_Cmd b).2.1 := by decide +kernel
theorem t_Cmd_ok : ∀ k, k < 18 → parseFieldDescriptor (F_Cmd k).2.2.1 = some (t_Cmd k) := by decide +kernel
def R_Txm : String := "DrawingMachineModel$TextureUnitsModel"
def F_Txm : u_T := fun k => match k with
  | 0 => ("DrawingMachineModel$TextureUnitsModel", "thrown", "I", false)
  | 1 => ("DrawingMachineModel$TextureUnitsModel", "memory", "[I", true)
  | 2 => ("DrawingMachineModel$TextureUnitsModel", "units", "[I", true)
  | 3 => ("DrawingMachineModel$TextureUnitsModel", "borders", "[I", true)
  | 4 => ("DrawingMachineModel$TextureUnitsModel", "latest", "[I", true)
  | 5 => ("DrawingMachineModel$TextureUnitsModel", "found", "[I", true)
  | 6 => ("DrawingMachineModel$TextureUnitsModel", "row", "[I", true)
  | 7 => ("DrawingMachineModel$TextureUnitsModel", "upper", "[I", true)
  | 8 => ("DrawingMachineModel$TextureUnitsModel", "near", "[I", true)
  | 9 => ("DrawingMachineModel$TextureUnitsModel", "first", "[I", true)
  | _ => ("DrawingMachineModel$TextureUnitsModel", "size", "[I", true)
def t_Txm : Nat → FieldType := fun k => match k with
  | 0 => .int
  | 1 => .array .int
  | 2 => .array .int
  | 3 => .array .int
  | 4 => .array .int
  | 5 => .array .int
  | 6 => .array .int
  | 7 => .array .int
  | 8 => .array .int
  | 9 => .array .int
  | _ => .array .int
theorem n_Txm : ∀ a, a < 11 → ∀ b, b < 11 → a ≠ b → (F_Txm a).2.1 ≠ (F_Txm b).2.1 := by decide +kernel
theorem t_Txm_ok : ∀ k, k < 11 → parseFieldDescriptor (F_Txm k).2.2.1 = some (t_Txm k) := by decide +kernel
def R_Shm : String := "DrawingMachineModel$ShaderMachineModel"
def F_Shm : u_T := fun k => match k with
  | 0 => ("DrawingMachineModel$ShaderMachineModel", "thrown", "I", false)
  | 1 => ("DrawingMachineModel$ShaderMachineModel", "memory", "[I", true)
  | 2 => ("DrawingMachineModel$ShaderMachineModel", "units", "LDrawingMachineModel$TextureUnitsModel;", true)
  | 3 => ("DrawingMachineModel$ShaderMachineModel", "program", "[I", true)
  | 4 => ("DrawingMachineModel$ShaderMachineModel", "fresh", "[I", true)
  | 5 => ("DrawingMachineModel$ShaderMachineModel", "hasProgram", "Z", false)
  | 6 => ("DrawingMachineModel$ShaderMachineModel", "fault", "I", false)
  | 7 => ("DrawingMachineModel$ShaderMachineModel", "place", "I", false)
  | 8 => ("DrawingMachineModel$ShaderMachineModel", "told", "I", false)
  | 9 => ("DrawingMachineModel$ShaderMachineModel", "temporaries", "[I", true)
  | 10 => ("DrawingMachineModel$ShaderMachineModel", "ins", "[I", true)
  | 11 => ("DrawingMachineModel$ShaderMachineModel", "outs", "[I", true)
  | 12 => ("DrawingMachineModel$ShaderMachineModel", "uniforms", "[I", true)
  | 13 => ("DrawingMachineModel$ShaderMachineModel", "read", "[I", true)
  | 14 => ("DrawingMachineModel$ShaderMachineModel", "result", "[I", true)
  | 15 => ("DrawingMachineModel$ShaderMachineModel", "killed", "Z", false)
  | 16 => ("DrawingMachineModel$ShaderMachineModel", "left", "[I", true)
  | _ => ("DrawingMachineModel$ShaderMachineModel", "opening", "[I", true)
def t_Shm : Nat → FieldType := fun k => match k with
  | 0 => .int
  | 1 => .array .int
  | 2 => .object "DrawingMachineModel$TextureUnitsModel"
  | 3 => .array .int
  | 4 => .array .int
  | 5 => .boolean
  | 6 => .int
  | 7 => .int
  | 8 => .int
  | 9 => .array .int
  | 10 => .array .int
  | 11 => .array .int
  | 12 => .array .int
  | 13 => .array .int
  | 14 => .array .int
  | 15 => .boolean
  | 16 => .array .int
  | _ => .array .int
theorem n_Shm : ∀ a, a < 18 → ∀ b, b < 18 → a ≠ b → (F_Shm a).2.1 ≠ (F_Shm b).2.1 := by decide +kernel
theorem t_Shm_ok : ∀ k, k < 18 → parseFieldDescriptor (F_Shm k).2.2.1 = some (t_Shm k) := by decide +kernel
def R_Vwm : String := "DrawingMachineModel$VertexWorkModel"
def F_Vwm : u_T := fun k => match k with
  | 0 => ("DrawingMachineModel$VertexWorkModel", "thrown", "I", false)
  | 1 => ("DrawingMachineModel$VertexWorkModel", "memory", "[I", true)
  | 2 => ("DrawingMachineModel$VertexWorkModel", "attributes", "[I", true)
  | 3 => ("DrawingMachineModel$VertexWorkModel", "corners", "[I", true)
  | 4 => ("DrawingMachineModel$VertexWorkModel", "view", "[I", true)
  | 5 => ("DrawingMachineModel$VertexWorkModel", "out", "I", false)
  | 6 => ("DrawingMachineModel$VertexWorkModel", "clock", "Z", false)
  | 7 => ("DrawingMachineModel$VertexWorkModel", "many", "I", false)
  | 8 => ("DrawingMachineModel$VertexWorkModel", "ring", "[I", true)
  | 9 => ("DrawingMachineModel$VertexWorkModel", "fewer", "I", false)
  | 10 => ("DrawingMachineModel$VertexWorkModel", "other", "[I", true)
  | 11 => ("DrawingMachineModel$VertexWorkModel", "made", "I", false)
  | _ => ("DrawingMachineModel$VertexWorkModel", "laid", "[I", true)
def t_Vwm : Nat → FieldType := fun k => match k with
  | 0 => .int
  | 1 => .array .int
  | 2 => .array .int
  | 3 => .array .int
  | 4 => .array .int
  | 5 => .int
  | 6 => .boolean
  | 7 => .int
  | 8 => .array .int
  | 9 => .int
  | 10 => .array .int
  | 11 => .int
  | _ => .array .int
theorem n_Vwm : ∀ a, a < 13 → ∀ b, b < 13 → a ≠ b → (F_Vwm a).2.1 ≠ (F_Vwm b).2.1 := by decide +kernel
theorem t_Vwm_ok : ∀ k, k < 13 → parseFieldDescriptor (F_Vwm k).2.2.1 = some (t_Vwm k) := by decide +kernel
def R_Erm : String := "DrawingMachineModel$EdgeRasterModel"
def F_Erm : u_T := fun k => match k with
  | 0 => ("DrawingMachineModel$EdgeRasterModel", "thrown", "I", false)
  | 1 => ("DrawingMachineModel$EdgeRasterModel", "cornerX", "[I", true)
  | 2 => ("DrawingMachineModel$EdgeRasterModel", "cornerY", "[I", true)
  | 3 => ("DrawingMachineModel$EdgeRasterModel", "depths", "[I", true)
  | 4 => ("DrawingMachineModel$EdgeRasterModel", "nearness", "[I", true)
  | _ => ("DrawingMachineModel$EdgeRasterModel", "values", "[I", true)
def t_Erm : Nat → FieldType := fun k => match k with
  | 0 => .int
  | 1 => .array .int
  | 2 => .array .int
  | 3 => .array .int
  | 4 => .array .int
  | _ => .array .int
theorem n_Erm : ∀ a, a < 6 → ∀ b, b < 6 → a ≠ b → (F_Erm a).2.1 ≠ (F_Erm b).2.1 := by decide +kernel
theorem t_Erm_ok : ∀ k, k < 6 → parseFieldDescriptor (F_Erm k).2.2.1 = some (t_Erm k) := by decide +kernel
def R_Ptm : String := "DrawingMachineModel$PlaceTestsModel"
def F_Ptm : u_T := fun k => match k with
  | 0 => ("DrawingMachineModel$PlaceTestsModel", "thrown", "I", false)
  | 1 => ("DrawingMachineModel$PlaceTestsModel", "x0", "I", false)
  | 2 => ("DrawingMachineModel$PlaceTestsModel", "y0", "I", false)
  | 3 => ("DrawingMachineModel$PlaceTestsModel", "wide", "I", false)
  | 4 => ("DrawingMachineModel$PlaceTestsModel", "high", "I", false)
  | 5 => ("DrawingMachineModel$PlaceTestsModel", "channels", "[I", true)
  | 6 => ("DrawingMachineModel$PlaceTestsModel", "depths", "[I", true)
  | 7 => ("DrawingMachineModel$PlaceTestsModel", "stencils", "[I", true)
  | 8 => ("DrawingMachineModel$PlaceTestsModel", "scissored", "Z", false)
  | 9 => ("DrawingMachineModel$PlaceTestsModel", "scissor", "[I", true)
  | 10 => ("DrawingMachineModel$PlaceTestsModel", "depthTest", "I", false)
  | 11 => ("DrawingMachineModel$PlaceTestsModel", "depthWritten", "Z", false)
  | 12 => ("DrawingMachineModel$PlaceTestsModel", "stencil", "[I", true)
  | 13 => ("DrawingMachineModel$PlaceTestsModel", "factors", "[I", true)
  | 14 => ("DrawingMachineModel$PlaceTestsModel", "equation", "I", false)
  | 15 => ("DrawingMachineModel$PlaceTestsModel", "equationA", "I", false)
  | 16 => ("DrawingMachineModel$PlaceTestsModel", "constant", "[I", true)
  | 17 => ("DrawingMachineModel$PlaceTestsModel", "logic", "I", false)
  | 18 => ("DrawingMachineModel$PlaceTestsModel", "mask", "I", false)
  | 19 => ("DrawingMachineModel$PlaceTestsModel", "answers", "[I", true)
  | 20 => ("DrawingMachineModel$PlaceTestsModel", "s", "[I", true)
  | _ => ("DrawingMachineModel$PlaceTestsModel", "d", "[I", true)
def t_Ptm : Nat → FieldType := fun k => match k with
  | 0 => .int
  | 1 => .int
  | 2 => .int
  | 3 => .int
  | 4 => .int
  | 5 => .array .int
  | 6 => .array .int
  | 7 => .array .int
  | 8 => .boolean
  | 9 => .array .int
  | 10 => .int
  | 11 => .boolean
  | 12 => .array .int
  | 13 => .array .int
  | 14 => .int
  | 15 => .int
  | 16 => .array .int
  | 17 => .int
  | 18 => .int
  | 19 => .array .int
  | 20 => .array .int
  | _ => .array .int
theorem n_Ptm : ∀ a, a < 22 → ∀ b, b < 22 → a ≠ b → (F_Ptm a).2.1 ≠ (F_Ptm b).2.1 := by decide +kernel
theorem t_Ptm_ok : ∀ k, k < 22 → parseFieldDescriptor (F_Ptm k).2.2.1 = some (t_Ptm k) := by decide +kernel
abbrev classes : List vw_C := [(R_DM, F_DM, 9), (R_Told, F_Told, 1), (R_Pic, F_Pic, 7), (R_Cou, F_Cou, 15), (R_Chk, F_Chk, 7), (R_Drw, F_Drw, 9), (R_Pro, F_Pro, 9), (R_Tex, F_Tex, 6), (R_Ver, F_Ver, 2), (R_Sha, F_Sha, 8), (R_Cov, F_Cov, 15), (R_Prg, F_Prg, 4), (R_Mod, F_Mod, 19), (R_Cmd, F_Cmd, 18), (R_Txm, F_Txm, 11), (R_Shm, F_Shm, 18), (R_Vwm, F_Vwm, 13), (R_Erm, F_Erm, 6), (R_Ptm, F_Ptm, 22)]
def y_DM_init : MethodName := ⟨"DrawingMachine", "<init>", "()V"⟩
def y_DM_frame : MethodName := ⟨"DrawingMachine", "frame", "(III)I"⟩
def y_DM_word : MethodName := ⟨"DrawingMachine", "word", "(II)I"⟩
def y_DM_look : MethodName := ⟨"DrawingMachine", "look", "(I)I"⟩
def y_DM_feed : MethodName := ⟨"DrawingMachine", "feed", "(IIIII)I"⟩
def y_DM_end : MethodName := ⟨"DrawingMachine", "end", "(I)V"⟩
def y_DM_begin : MethodName := ⟨"DrawingMachine", "begin", "(Z)V"⟩
def y_DM_run : MethodName := ⟨"DrawingMachine", "run", "(I)I"⟩
def y_DM_about : MethodName := ⟨"DrawingMachine", "about", "(I)I"⟩
def y_DM_at : MethodName := ⟨"DrawingMachine", "at", "(III)I"⟩
def y_DM_sum : MethodName := ⟨"DrawingMachine", "sum", "(I)I"⟩
def y_DM_query : MethodName := ⟨"DrawingMachine", "query", "(I)I"⟩
def y_DM_count : MethodName := ⟨"DrawingMachine", "count", "(I)I"⟩
def y_DM_beginAnew : MethodName := ⟨"DrawingMachine", "beginAnew", "()V"⟩
def y_DM_isDraw : MethodName := ⟨"DrawingMachine", "isDraw", "()Z"⟩
def y_DM_refusal : MethodName := ⟨"DrawingMachine", "refusal", "()I"⟩
def y_DM_placesAreThere : MethodName := ⟨"DrawingMachine", "placesAreThere", "()Z"⟩
def y_DM_stateAllows : MethodName := ⟨"DrawingMachine", "stateAllows", "()Z"⟩
def y_DM_carryOut : MethodName := ⟨"DrawingMachine", "carryOut", "()I"⟩
def y_DM_isSide : MethodName := ⟨"DrawingMachine", "isSide", "(I)Z"⟩
def y_DM_isTileSide : MethodName := ⟨"DrawingMachine", "isTileSide", "(I)Z"⟩
def y_Told_init : MethodName := ⟨"DrawingMachine$Told", "<init>", "()V"⟩
def y_Told_forget : MethodName := ⟨"DrawingMachine$Told", "forget", "()V"⟩
def y_Told_keep : MethodName := ⟨"DrawingMachine$Told", "keep", "(I[I)V"⟩
def y_Pic_init : MethodName := ⟨"DrawingMachine$Picture", "<init>", "(LDrawingMachine$Told;)V"⟩
def y_Pic_makeNew : MethodName := ⟨"DrawingMachine$Picture", "makeNew", "(II)V"⟩
def y_Pic_rowOf : MethodName := ⟨"DrawingMachine$Picture", "rowOf", "(I)[I"⟩
def y_Cou_init : MethodName := ⟨"DrawingMachine$Course", "<init>", "([I)V"⟩
def y_Cou_makeRoom : MethodName := ⟨"DrawingMachine$Course", "makeRoom", "(I)V"⟩
def y_Cou_add : MethodName := ⟨"DrawingMachine$Course", "add", "(I)V"⟩
def y_Cou_beginAnew : MethodName := ⟨"DrawingMachine$Course", "beginAnew", "()V"⟩
def y_Cou_fetch : MethodName := ⟨"DrawingMachine$Course", "fetch", "()I"⟩
def y_Cou_source : MethodName := ⟨"DrawingMachine$Course", "source", "()[I"⟩
def y_Cou_limit : MethodName := ⟨"DrawingMachine$Course", "limit", "()I"⟩
def y_Cou_goOn : MethodName := ⟨"DrawingMachine$Course", "goOn", "(I)V"⟩
def y_Chk_init : MethodName := ⟨"DrawingMachine$Checker", "<init>", "()V"⟩
def y_Prg_init : MethodName := ⟨"DrawingMachine$Program", "<init>", "()V"⟩
def y_Drw_init : MethodName := ⟨"DrawingMachine$Drawing", "<init>", "([ILDrawingMachine$Told;LDrawingMachine$Picture;)V"⟩
def y_Pro_init : MethodName := ⟨"DrawingMachine$Processor", "<init>", "([ILDrawingMachine$Told;)V"⟩
def y_Tex_init : MethodName := ⟨"DrawingMachine$Textures", "<init>", "([ILDrawingMachine$Told;)V"⟩
def y_Ver_init : MethodName := ⟨"DrawingMachine$Vertices", "<init>", "([ILDrawingMachine$Told;)V"⟩
def y_Sha_init : MethodName := ⟨"DrawingMachine$Shape", "<init>", "(LDrawingMachine$Told;)V"⟩
def y_Cov_init : MethodName := ⟨"DrawingMachine$Covering", "<init>", "(LDrawingMachine$Shape;)V"⟩
def y_Mod_init : MethodName := ⟨"DrawingMachineModel", "<init>", "()V"⟩
def y_Cmd_init : MethodName := ⟨"DrawingMachineModel$DrawCommandsModel", "<init>", "()V"⟩
def y_Txm_init : MethodName := ⟨"DrawingMachineModel$TextureUnitsModel", "<init>", "([I)V"⟩
def y_Shm_init : MethodName := ⟨"DrawingMachineModel$ShaderMachineModel", "<init>", "([ILDrawingMachineModel$TextureUnitsModel;)V"⟩
def y_Vwm_init : MethodName := ⟨"DrawingMachineModel$VertexWorkModel", "<init>", "([I)V"⟩
def y_Erm_init : MethodName := ⟨"DrawingMachineModel$EdgeRasterModel", "<init>", "()V"⟩
def y_Ptm_init : MethodName := ⟨"DrawingMachineModel$PlaceTestsModel", "<init>", "()V"⟩
def y_Mod_thrown : MethodName := ⟨"DrawingMachineModel", "thrown", "()I"⟩
def y_Mod_refuse : MethodName := ⟨"DrawingMachineModel", "refuse", "(ZZ)Z"⟩
def y_Mod_in : MethodName := ⟨"DrawingMachineModel", "in", "(JJJ)Z"⟩
def y_Mod_frame : MethodName := ⟨"DrawingMachineModel", "frame", "(III)I"⟩
def y_Mod_word : MethodName := ⟨"DrawingMachineModel", "word", "(II)I"⟩
def y_Mod_look : MethodName := ⟨"DrawingMachineModel", "look", "(I)I"⟩
def y_Mod_feed : MethodName := ⟨"DrawingMachineModel", "feed", "(IIIII)I"⟩
def y_Mod_end : MethodName := ⟨"DrawingMachineModel", "end", "(I)V"⟩
def y_Mod_begin : MethodName := ⟨"DrawingMachineModel", "begin", "(Z)V"⟩
def y_Mod_kept : MethodName := ⟨"DrawingMachineModel", "kept", "(III)I"⟩
def y_Mod_run : MethodName := ⟨"DrawingMachineModel", "run", "(I)I"⟩
def y_Mod_step : MethodName := ⟨"DrawingMachineModel", "step", "()Z"⟩
def y_Mod_about : MethodName := ⟨"DrawingMachineModel", "about", "(I)I"⟩
def y_Mod_at : MethodName := ⟨"DrawingMachineModel", "at", "(III)I"⟩
def y_Mod_sum : MethodName := ⟨"DrawingMachineModel", "sum", "(I)I"⟩
def y_Mod_query : MethodName := ⟨"DrawingMachineModel", "query", "(I)I"⟩
def y_Mod_count : MethodName := ⟨"DrawingMachineModel", "count", "(I)I"⟩
def y_Cmd_nothingTold : MethodName := ⟨"DrawingMachineModel$DrawCommandsModel", "nothingTold", "()V"⟩
def y_Cmd_many : MethodName := ⟨"DrawingMachineModel$DrawCommandsModel", "many", "(I)I"⟩
def y_Cmd_rowOf : MethodName := ⟨"DrawingMachineModel$DrawCommandsModel", "rowOf", "(II)I"⟩
def y_Cmd_count : MethodName := ⟨"DrawingMachineModel$DrawCommandsModel", "count", "(I)I"⟩
def y_Cmd_refuse : MethodName := ⟨"DrawingMachineModel$DrawCommandsModel", "refuse", "(Z)Z"⟩
def y_Cmd_in : MethodName := ⟨"DrawingMachineModel$DrawCommandsModel", "in", "(JJJ)Z"⟩
def y_Cmd_word : MethodName := ⟨"DrawingMachineModel$DrawCommandsModel", "word", "(II)I"⟩
def y_Cmd_frame : MethodName := ⟨"DrawingMachineModel$DrawCommandsModel", "frame", "(II)V"⟩
def y_Cmd_put : MethodName := ⟨"DrawingMachineModel$DrawCommandsModel", "put", "(I)I"⟩
def y_Cmd_anew : MethodName := ⟨"DrawingMachineModel$DrawCommandsModel", "anew", "()V"⟩
def y_Cmd_begin : MethodName := ⟨"DrawingMachineModel$DrawCommandsModel", "begin", "(Z)V"⟩
def y_Cmd_next : MethodName := ⟨"DrawingMachineModel$DrawCommandsModel", "next", "()I"⟩
def y_Cmd_look : MethodName := ⟨"DrawingMachineModel$DrawCommandsModel", "look", "()I"⟩
def y_Cmd_perform : MethodName := ⟨"DrawingMachineModel$DrawCommandsModel", "perform", "(I)V"⟩
def y_Cmd_about : MethodName := ⟨"DrawingMachineModel$DrawCommandsModel", "about", "(I)I"⟩
def y_Ptm_refuse : MethodName := ⟨"DrawingMachineModel$PlaceTestsModel", "refuse", "(ZZ)Z"⟩
def y_Ptm_in : MethodName := ⟨"DrawingMachineModel$PlaceTestsModel", "in", "(III)Z"⟩
def y_Ptm_frame : MethodName := ⟨"DrawingMachineModel$PlaceTestsModel", "frame", "(IIII)V"⟩
def y_Ptm_show : MethodName := ⟨"DrawingMachineModel$PlaceTestsModel", "show", "(II)I"⟩
def y_Ptm_sum : MethodName := ⟨"DrawingMachineModel$PlaceTestsModel", "sum", "(I)I"⟩
def y_Arr_fill : MethodName := ⟨"java/util/Arrays", "fill", "([II)V"⟩
def y_Arr_fill1 : MethodName := ⟨"java/util/Arrays", "fill", "([IIII)V"⟩
def y_Arr_rangeCheck : MethodName := ⟨"java/util/Arrays", "rangeCheck", "(III)V"⟩
def y_law_frame : MethodName := ⟨"DrawingMachineLaw", "frame", "(LDrawingMachine;III[J)I"⟩
def y_law_word : MethodName := ⟨"DrawingMachineLaw", "word", "(LDrawingMachine;II[J)I"⟩
def y_law_look : MethodName := ⟨"DrawingMachineLaw", "look", "(LDrawingMachine;I[J)I"⟩
def y_law_feed : MethodName := ⟨"DrawingMachineLaw", "feed", "(LDrawingMachine;IIIII[J)I"⟩
def y_law_end : MethodName := ⟨"DrawingMachineLaw", "end", "(LDrawingMachine;I)I"⟩
def y_law_run : MethodName := ⟨"DrawingMachineLaw", "run", "(LDrawingMachine;I[J)I"⟩
def y_law_about : MethodName := ⟨"DrawingMachineLaw", "about", "(LDrawingMachine;I[J)I"⟩
def y_law_at : MethodName := ⟨"DrawingMachineLaw", "at", "(LDrawingMachine;III[J)I"⟩
def y_law_sum : MethodName := ⟨"DrawingMachineLaw", "sum", "(LDrawingMachine;I[J)I"⟩
def y_law_query : MethodName := ⟨"DrawingMachineLaw", "query", "(LDrawingMachine;I[J)I"⟩
def y_law_count : MethodName := ⟨"DrawingMachineLaw", "count", "(LDrawingMachine;I[J)I"⟩
def tw_0 : List Cond := [Cond.initialized "DrawingMachine", Cond.instantiable "DrawingMachine" 9, Cond.laysFinal "DrawingMachine" "DrawingMachine" "memory" "[I", Cond.laysFinal "DrawingMachine" "DrawingMachine" "told" "LDrawingMachine$Told;", Cond.laysFinal "DrawingMachine" "DrawingMachine" "picture" "LDrawingMachine$Picture;", Cond.laysFinal "DrawingMachine" "DrawingMachine" "course" "LDrawingMachine$Course;", Cond.laysFinal "DrawingMachine" "DrawingMachine" "checker" "LDrawingMachine$Checker;", Cond.laysFinal "DrawingMachine" "DrawingMachine" "drawing" "LDrawingMachine$Drawing;", Cond.lays "DrawingMachine" "DrawingMachine" "cornersProgram" "LDrawingMachine$Program;", Cond.lays "DrawingMachine" "DrawingMachine" "placesProgram" "LDrawingMachine$Program;", Cond.lays "DrawingMachine" "DrawingMachine" "spareProgram" "LDrawingMachine$Program;", Cond.initialized "DrawingMachine$Told", Cond.instantiable "DrawingMachine$Told" 1, Cond.laysFinal "DrawingMachine$Told" "DrawingMachine$Told" "kept" "[I", Cond.initialized "DrawingMachine$Picture", Cond.instantiable "DrawingMachine$Picture" 7, Cond.lays "DrawingMachine$Picture" "DrawingMachine$Picture" "wide" "I", Cond.lays "DrawingMachine$Picture" "DrawingMachine$Picture" "high" "I", Cond.lays "DrawingMachine$Picture" "DrawingMachine$Picture" "colours" "[I", Cond.lays "DrawingMachine$Picture" "DrawingMachine$Picture" "depths" "[I", Cond.lays "DrawingMachine$Picture" "DrawingMachine$Picture" "stencils" "[I", Cond.laysFinal "DrawingMachine$Picture" "DrawingMachine$Picture" "told" "LDrawingMachine$Told;", Cond.laysFinal "DrawingMachine$Picture" "DrawingMachine$Picture" "kept" "[I", Cond.initialized "DrawingMachine$Course", Cond.instantiable "DrawingMachine$Course" 15, Cond.laysFinal "DrawingMachine$Course" "DrawingMachine$Course" "given" "[I", Cond.lays "DrawingMachine$Course" "DrawingMachine$Course" "words" "I", Cond.lays "DrawingMachine$Course" "DrawingMachine$Course" "kind" "I", Cond.lays "DrawingMachine$Course" "DrawingMachine$Course" "depth" "I", Cond.lays "DrawingMachine$Course" "DrawingMachine$Course" "done" "I", Cond.lays "DrawingMachine$Course" "DrawingMachine$Course" "refused" "I", Cond.lays "DrawingMachine$Course" "DrawingMachine$Course" "lastPlace" "I", Cond.lays "DrawingMachine$Course" "DrawingMachine$Course" "lastDepth" "I", Cond.lays "DrawingMachine$Course" "DrawingMachine$Course" "over" "Z", Cond.lays "DrawingMachine$Course" "DrawingMachine$Course" "work" "J", Cond.laysFinal "DrawingMachine$Course" "DrawingMachine$Course" "memory" "[I", Cond.laysFinal "DrawingMachine$Course" "DrawingMachine$Course" "returns" "[I", Cond.lays "DrawingMachine$Course" "DrawingMachine$Course" "stream" "[I", Cond.lays "DrawingMachine$Course" "DrawingMachine$Course" "position" "I", Cond.lays "DrawingMachine$Course" "DrawingMachine$Course" "length" "I"]
def tw_1 : List Cond := [Cond.initialized "DrawingMachine$Checker", Cond.instantiable "DrawingMachine$Checker" 7, Cond.lays "DrawingMachine$Checker" "DrawingMachine$Checker" "fault" "I", Cond.lays "DrawingMachine$Checker" "DrawingMachine$Checker" "place" "I", Cond.laysFinal "DrawingMachine$Checker" "DrawingMachine$Checker" "loopOf" "[I", Cond.laysFinal "DrawingMachine$Checker" "DrawingMachine$Checker" "open" "[I", Cond.laysFinal "DrawingMachine$Checker" "DrawingMachine$Checker" "times" "[J", Cond.lays "DrawingMachine$Checker" "DrawingMachine$Checker" "depth" "I", Cond.lays "DrawingMachine$Checker" "DrawingMachine$Checker" "steps" "J", Cond.initialized "DrawingMachine$Drawing", Cond.instantiable "DrawingMachine$Drawing" 9, Cond.laysFinal "DrawingMachine$Drawing" "DrawingMachine$Drawing" "counts" "[I", Cond.laysFinal "DrawingMachine$Drawing" "DrawingMachine$Drawing" "queries" "[I", Cond.lays "DrawingMachine$Drawing" "DrawingMachine$Drawing" "openQuery" "I", Cond.laysFinal "DrawingMachine$Drawing" "DrawingMachine$Drawing" "kept" "[I", Cond.laysFinal "DrawingMachine$Drawing" "DrawingMachine$Drawing" "picture" "LDrawingMachine$Picture;", Cond.laysFinal "DrawingMachine$Drawing" "DrawingMachine$Drawing" "processor" "LDrawingMachine$Processor;", Cond.laysFinal "DrawingMachine$Drawing" "DrawingMachine$Drawing" "vertices" "LDrawingMachine$Vertices;", Cond.laysFinal "DrawingMachine$Drawing" "DrawingMachine$Drawing" "shape" "LDrawingMachine$Shape;", Cond.laysFinal "DrawingMachine$Drawing" "DrawingMachine$Drawing" "covering" "LDrawingMachine$Covering;", Cond.initialized "DrawingMachine$Processor", Cond.instantiable "DrawingMachine$Processor" 9, Cond.laysFinal "DrawingMachine$Processor" "DrawingMachine$Processor" "bank" "[I", Cond.laysFinal "DrawingMachine$Processor" "DrawingMachine$Processor" "memory" "[I", Cond.laysFinal "DrawingMachine$Processor" "DrawingMachine$Processor" "textures" "LDrawingMachine$Textures;", Cond.laysFinal "DrawingMachine$Processor" "DrawingMachine$Processor" "a" "[I", Cond.laysFinal "DrawingMachine$Processor" "DrawingMachine$Processor" "b" "[I", Cond.laysFinal "DrawingMachine$Processor" "DrawingMachine$Processor" "c" "[I", Cond.laysFinal "DrawingMachine$Processor" "DrawingMachine$Processor" "result" "[I", Cond.laysFinal "DrawingMachine$Processor" "DrawingMachine$Processor" "starts" "[I", Cond.laysFinal "DrawingMachine$Processor" "DrawingMachine$Processor" "left" "[I", Cond.initialized "DrawingMachine$Textures", Cond.instantiable "DrawingMachine$Textures" 6, Cond.laysFinal "DrawingMachine$Textures" "DrawingMachine$Textures" "memory" "[I", Cond.laysFinal "DrawingMachine$Textures" "DrawingMachine$Textures" "kept" "[I", Cond.laysFinal "DrawingMachine$Textures" "DrawingMachine$Textures" "nextLevel" "[I", Cond.laysFinal "DrawingMachine$Textures" "DrawingMachine$Textures" "beside" "[I", Cond.laysFinal "DrawingMachine$Textures" "DrawingMachine$Textures" "below" "[I", Cond.laysFinal "DrawingMachine$Textures" "DrawingMachine$Textures" "belowBeside" "[I", Cond.initialized "DrawingMachine$Vertices"]
def tw_2 : List Cond := [Cond.instantiable "DrawingMachine$Vertices" 2, Cond.laysFinal "DrawingMachine$Vertices" "DrawingMachine$Vertices" "memory" "[I", Cond.laysFinal "DrawingMachine$Vertices" "DrawingMachine$Vertices" "kept" "[I", Cond.initialized "DrawingMachine$Shape", Cond.instantiable "DrawingMachine$Shape" 8, Cond.lays "DrawingMachine$Shape" "DrawingMachine$Shape" "many" "I", Cond.lays "DrawingMachine$Shape" "DrawingMachine$Shape" "corners" "[[I", Cond.laysFinal "DrawingMachine$Shape" "DrawingMachine$Shape" "x" "[I", Cond.laysFinal "DrawingMachine$Shape" "DrawingMachine$Shape" "y" "[I", Cond.laysFinal "DrawingMachine$Shape" "DrawingMachine$Shape" "depth" "[I", Cond.laysFinal "DrawingMachine$Shape" "DrawingMachine$Shape" "nearness" "[I", Cond.lays "DrawingMachine$Shape" "DrawingMachine$Shape" "spare" "[[I", Cond.laysFinal "DrawingMachine$Shape" "DrawingMachine$Shape" "kept" "[I", Cond.initialized "DrawingMachine$Covering", Cond.instantiable "DrawingMachine$Covering" 15, Cond.lays "DrawingMachine$Covering" "DrawingMachine$Covering" "front" "Z", Cond.lays "DrawingMachine$Covering" "DrawingMachine$Covering" "left" "I", Cond.lays "DrawingMachine$Covering" "DrawingMachine$Covering" "right" "I", Cond.lays "DrawingMachine$Covering" "DrawingMachine$Covering" "top" "I", Cond.lays "DrawingMachine$Covering" "DrawingMachine$Covering" "bottom" "I", Cond.laysFinal "DrawingMachine$Covering" "DrawingMachine$Covering" "shape" "LDrawingMachine$Shape;", Cond.laysFinal "DrawingMachine$Covering" "DrawingMachine$Covering" "who" "[I", Cond.laysFinal "DrawingMachine$Covering" "DrawingMachine$Covering" "along" "[J", Cond.laysFinal "DrawingMachine$Covering" "DrawingMachine$Covering" "down" "[J", Cond.laysFinal "DrawingMachine$Covering" "DrawingMachine$Covering" "start" "[J", Cond.laysFinal "DrawingMachine$Covering" "DrawingMachine$Covering" "least" "[J", Cond.laysFinal "DrawingMachine$Covering" "DrawingMachine$Covering" "weight" "[J", Cond.laysFinal "DrawingMachine$Covering" "DrawingMachine$Covering" "share" "[J", Cond.lays "DrawingMachine$Covering" "DrawingMachine$Covering" "area" "J", Cond.lays "DrawingMachine$Covering" "DrawingMachine$Covering" "shares" "J", Cond.initialized "DrawingMachine$Program", Cond.instantiable "DrawingMachine$Program" 4, Cond.laysFinal "DrawingMachine$Program" "DrawingMachine$Program" "words" "[I", Cond.lays "DrawingMachine$Program" "DrawingMachine$Program" "many" "I", Cond.lays "DrawingMachine$Program" "DrawingMachine$Program" "steps" "I", Cond.lays "DrawingMachine$Program" "DrawingMachine$Program" "reads" "I", Cond.initialized "DrawingMachineModel", Cond.instantiable "DrawingMachineModel" 19, Cond.lays "DrawingMachineModel" "DrawingMachineModel" "thrown" "I", Cond.lays "DrawingMachineModel" "DrawingMachineModel" "wide" "I"]
def tw_3 : List Cond := [Cond.lays "DrawingMachineModel" "DrawingMachineModel" "high" "I", Cond.laysFinal "DrawingMachineModel" "DrawingMachineModel" "commands" "LDrawingMachineModel$DrawCommandsModel;", Cond.laysFinal "DrawingMachineModel" "DrawingMachineModel" "units" "LDrawingMachineModel$TextureUnitsModel;", Cond.laysFinal "DrawingMachineModel" "DrawingMachineModel" "corners" "LDrawingMachineModel$ShaderMachineModel;", Cond.laysFinal "DrawingMachineModel" "DrawingMachineModel" "places" "LDrawingMachineModel$ShaderMachineModel;", Cond.laysFinal "DrawingMachineModel" "DrawingMachineModel" "vertices" "LDrawingMachineModel$VertexWorkModel;", Cond.laysFinal "DrawingMachineModel" "DrawingMachineModel" "raster" "LDrawingMachineModel$EdgeRasterModel;", Cond.laysFinal "DrawingMachineModel" "DrawingMachineModel" "tests" "LDrawingMachineModel$PlaceTestsModel;", Cond.lays "DrawingMachineModel" "DrawingMachineModel" "fault" "I", Cond.lays "DrawingMachineModel" "DrawingMachineModel" "faultPlace" "I", Cond.lays "DrawingMachineModel" "DrawingMachineModel" "cornersSteps" "I", Cond.lays "DrawingMachineModel" "DrawingMachineModel" "placesSteps" "I", Cond.lays "DrawingMachineModel" "DrawingMachineModel" "work" "J", Cond.laysFinal "DrawingMachineModel" "DrawingMachineModel" "queries" "[I", Cond.laysFinal "DrawingMachineModel" "DrawingMachineModel" "counts" "[I", Cond.laysFinal "DrawingMachineModel" "DrawingMachineModel" "before" "[I", Cond.laysFinal "DrawingMachineModel" "DrawingMachineModel" "shares" "[J", Cond.initialized "DrawingMachineModel$DrawCommandsModel", Cond.instantiable "DrawingMachineModel$DrawCommandsModel" 18, Cond.lays "DrawingMachineModel$DrawCommandsModel" "DrawingMachineModel$DrawCommandsModel" "thrown" "I", Cond.laysFinal "DrawingMachineModel$DrawCommandsModel" "DrawingMachineModel$DrawCommandsModel" "memory" "[I", Cond.lays "DrawingMachineModel$DrawCommandsModel" "DrawingMachineModel$DrawCommandsModel" "wide" "I", Cond.lays "DrawingMachineModel$DrawCommandsModel" "DrawingMachineModel$DrawCommandsModel" "high" "I", Cond.laysFinal "DrawingMachineModel$DrawCommandsModel" "DrawingMachineModel$DrawCommandsModel" "stream" "[I", Cond.lays "DrawingMachineModel$DrawCommandsModel" "DrawingMachineModel$DrawCommandsModel" "size" "I", Cond.lays "DrawingMachineModel$DrawCommandsModel" "DrawingMachineModel$DrawCommandsModel" "at" "I", Cond.lays "DrawingMachineModel$DrawCommandsModel" "DrawingMachineModel$DrawCommandsModel" "depth" "I", Cond.laysFinal "DrawingMachineModel$DrawCommandsModel" "DrawingMachineModel$DrawCommandsModel" "back" "[I", Cond.lays "DrawingMachineModel$DrawCommandsModel" "DrawingMachineModel$DrawCommandsModel" "over" "Z", Cond.lays "DrawingMachineModel$DrawCommandsModel" "DrawingMachineModel$DrawCommandsModel" "refusal" "I", Cond.lays "DrawingMachineModel$DrawCommandsModel" "DrawingMachineModel$DrawCommandsModel" "place" "I", Cond.lays "DrawingMachineModel$DrawCommandsModel" "DrawingMachineModel$DrawCommandsModel" "deep" "I", Cond.lays "DrawingMachineModel$DrawCommandsModel" "DrawingMachineModel$DrawCommandsModel" "done" "I", Cond.lays "DrawingMachineModel$DrawCommandsModel" "DrawingMachineModel$DrawCommandsModel" "query" "I", Cond.lays "DrawingMachineModel$DrawCommandsModel" "DrawingMachineModel$DrawCommandsModel" "arguments" "I", Cond.laysFinal "DrawingMachineModel$DrawCommandsModel" "DrawingMachineModel$DrawCommandsModel" "argument" "[I", Cond.laysFinal "DrawingMachineModel$DrawCommandsModel" "DrawingMachineModel$DrawCommandsModel" "kept" "[I", Cond.initialized "DrawingMachineModel$TextureUnitsModel", Cond.instantiable "DrawingMachineModel$TextureUnitsModel" 11, Cond.lays "DrawingMachineModel$TextureUnitsModel" "DrawingMachineModel$TextureUnitsModel" "thrown" "I"]
def tw_4 : List Cond := [Cond.laysFinal "DrawingMachineModel$TextureUnitsModel" "DrawingMachineModel$TextureUnitsModel" "memory" "[I", Cond.laysFinal "DrawingMachineModel$TextureUnitsModel" "DrawingMachineModel$TextureUnitsModel" "units" "[I", Cond.laysFinal "DrawingMachineModel$TextureUnitsModel" "DrawingMachineModel$TextureUnitsModel" "borders" "[I", Cond.laysFinal "DrawingMachineModel$TextureUnitsModel" "DrawingMachineModel$TextureUnitsModel" "latest" "[I", Cond.laysFinal "DrawingMachineModel$TextureUnitsModel" "DrawingMachineModel$TextureUnitsModel" "found" "[I", Cond.laysFinal "DrawingMachineModel$TextureUnitsModel" "DrawingMachineModel$TextureUnitsModel" "row" "[I", Cond.laysFinal "DrawingMachineModel$TextureUnitsModel" "DrawingMachineModel$TextureUnitsModel" "upper" "[I", Cond.laysFinal "DrawingMachineModel$TextureUnitsModel" "DrawingMachineModel$TextureUnitsModel" "near" "[I", Cond.laysFinal "DrawingMachineModel$TextureUnitsModel" "DrawingMachineModel$TextureUnitsModel" "first" "[I", Cond.laysFinal "DrawingMachineModel$TextureUnitsModel" "DrawingMachineModel$TextureUnitsModel" "size" "[I", Cond.initialized "DrawingMachineModel$ShaderMachineModel", Cond.instantiable "DrawingMachineModel$ShaderMachineModel" 18, Cond.lays "DrawingMachineModel$ShaderMachineModel" "DrawingMachineModel$ShaderMachineModel" "thrown" "I", Cond.laysFinal "DrawingMachineModel$ShaderMachineModel" "DrawingMachineModel$ShaderMachineModel" "memory" "[I", Cond.laysFinal "DrawingMachineModel$ShaderMachineModel" "DrawingMachineModel$ShaderMachineModel" "units" "LDrawingMachineModel$TextureUnitsModel;", Cond.laysFinal "DrawingMachineModel$ShaderMachineModel" "DrawingMachineModel$ShaderMachineModel" "program" "[I", Cond.laysFinal "DrawingMachineModel$ShaderMachineModel" "DrawingMachineModel$ShaderMachineModel" "fresh" "[I", Cond.lays "DrawingMachineModel$ShaderMachineModel" "DrawingMachineModel$ShaderMachineModel" "hasProgram" "Z", Cond.lays "DrawingMachineModel$ShaderMachineModel" "DrawingMachineModel$ShaderMachineModel" "fault" "I", Cond.lays "DrawingMachineModel$ShaderMachineModel" "DrawingMachineModel$ShaderMachineModel" "place" "I", Cond.lays "DrawingMachineModel$ShaderMachineModel" "DrawingMachineModel$ShaderMachineModel" "told" "I", Cond.laysFinal "DrawingMachineModel$ShaderMachineModel" "DrawingMachineModel$ShaderMachineModel" "temporaries" "[I", Cond.laysFinal "DrawingMachineModel$ShaderMachineModel" "DrawingMachineModel$ShaderMachineModel" "ins" "[I", Cond.laysFinal "DrawingMachineModel$ShaderMachineModel" "DrawingMachineModel$ShaderMachineModel" "outs" "[I", Cond.laysFinal "DrawingMachineModel$ShaderMachineModel" "DrawingMachineModel$ShaderMachineModel" "uniforms" "[I", Cond.laysFinal "DrawingMachineModel$ShaderMachineModel" "DrawingMachineModel$ShaderMachineModel" "read" "[I", Cond.laysFinal "DrawingMachineModel$ShaderMachineModel" "DrawingMachineModel$ShaderMachineModel" "result" "[I", Cond.lays "DrawingMachineModel$ShaderMachineModel" "DrawingMachineModel$ShaderMachineModel" "killed" "Z", Cond.laysFinal "DrawingMachineModel$ShaderMachineModel" "DrawingMachineModel$ShaderMachineModel" "left" "[I", Cond.laysFinal "DrawingMachineModel$ShaderMachineModel" "DrawingMachineModel$ShaderMachineModel" "opening" "[I", Cond.initialized "DrawingMachineModel$VertexWorkModel", Cond.instantiable "DrawingMachineModel$VertexWorkModel" 13, Cond.lays "DrawingMachineModel$VertexWorkModel" "DrawingMachineModel$VertexWorkModel" "thrown" "I", Cond.laysFinal "DrawingMachineModel$VertexWorkModel" "DrawingMachineModel$VertexWorkModel" "memory" "[I", Cond.laysFinal "DrawingMachineModel$VertexWorkModel" "DrawingMachineModel$VertexWorkModel" "attributes" "[I", Cond.laysFinal "DrawingMachineModel$VertexWorkModel" "DrawingMachineModel$VertexWorkModel" "corners" "[I", Cond.laysFinal "DrawingMachineModel$VertexWorkModel" "DrawingMachineModel$VertexWorkModel" "view" "[I", Cond.lays "DrawingMachineModel$VertexWorkModel" "DrawingMachineModel$VertexWorkModel" "out" "I", Cond.lays "DrawingMachineModel$VertexWorkModel" "DrawingMachineModel$VertexWorkModel" "clock" "Z", Cond.lays "DrawingMachineModel$VertexWorkModel" "DrawingMachineModel$VertexWorkModel" "many" "I"]
def tw_5 : List Cond := [Cond.laysFinal "DrawingMachineModel$VertexWorkModel" "DrawingMachineModel$VertexWorkModel" "ring" "[I", Cond.lays "DrawingMachineModel$VertexWorkModel" "DrawingMachineModel$VertexWorkModel" "fewer" "I", Cond.laysFinal "DrawingMachineModel$VertexWorkModel" "DrawingMachineModel$VertexWorkModel" "other" "[I", Cond.lays "DrawingMachineModel$VertexWorkModel" "DrawingMachineModel$VertexWorkModel" "made" "I", Cond.laysFinal "DrawingMachineModel$VertexWorkModel" "DrawingMachineModel$VertexWorkModel" "laid" "[I", Cond.initialized "DrawingMachineModel$EdgeRasterModel", Cond.instantiable "DrawingMachineModel$EdgeRasterModel" 6, Cond.lays "DrawingMachineModel$EdgeRasterModel" "DrawingMachineModel$EdgeRasterModel" "thrown" "I", Cond.laysFinal "DrawingMachineModel$EdgeRasterModel" "DrawingMachineModel$EdgeRasterModel" "cornerX" "[I", Cond.laysFinal "DrawingMachineModel$EdgeRasterModel" "DrawingMachineModel$EdgeRasterModel" "cornerY" "[I", Cond.laysFinal "DrawingMachineModel$EdgeRasterModel" "DrawingMachineModel$EdgeRasterModel" "depths" "[I", Cond.laysFinal "DrawingMachineModel$EdgeRasterModel" "DrawingMachineModel$EdgeRasterModel" "nearness" "[I", Cond.laysFinal "DrawingMachineModel$EdgeRasterModel" "DrawingMachineModel$EdgeRasterModel" "values" "[I", Cond.initialized "DrawingMachineModel$PlaceTestsModel", Cond.instantiable "DrawingMachineModel$PlaceTestsModel" 22, Cond.lays "DrawingMachineModel$PlaceTestsModel" "DrawingMachineModel$PlaceTestsModel" "thrown" "I", Cond.lays "DrawingMachineModel$PlaceTestsModel" "DrawingMachineModel$PlaceTestsModel" "x0" "I", Cond.lays "DrawingMachineModel$PlaceTestsModel" "DrawingMachineModel$PlaceTestsModel" "y0" "I", Cond.lays "DrawingMachineModel$PlaceTestsModel" "DrawingMachineModel$PlaceTestsModel" "wide" "I", Cond.lays "DrawingMachineModel$PlaceTestsModel" "DrawingMachineModel$PlaceTestsModel" "high" "I", Cond.laysFinal "DrawingMachineModel$PlaceTestsModel" "DrawingMachineModel$PlaceTestsModel" "channels" "[I", Cond.laysFinal "DrawingMachineModel$PlaceTestsModel" "DrawingMachineModel$PlaceTestsModel" "depths" "[I", Cond.laysFinal "DrawingMachineModel$PlaceTestsModel" "DrawingMachineModel$PlaceTestsModel" "stencils" "[I", Cond.lays "DrawingMachineModel$PlaceTestsModel" "DrawingMachineModel$PlaceTestsModel" "scissored" "Z", Cond.laysFinal "DrawingMachineModel$PlaceTestsModel" "DrawingMachineModel$PlaceTestsModel" "scissor" "[I", Cond.lays "DrawingMachineModel$PlaceTestsModel" "DrawingMachineModel$PlaceTestsModel" "depthTest" "I", Cond.lays "DrawingMachineModel$PlaceTestsModel" "DrawingMachineModel$PlaceTestsModel" "depthWritten" "Z", Cond.laysFinal "DrawingMachineModel$PlaceTestsModel" "DrawingMachineModel$PlaceTestsModel" "stencil" "[I", Cond.laysFinal "DrawingMachineModel$PlaceTestsModel" "DrawingMachineModel$PlaceTestsModel" "factors" "[I", Cond.lays "DrawingMachineModel$PlaceTestsModel" "DrawingMachineModel$PlaceTestsModel" "equation" "I", Cond.lays "DrawingMachineModel$PlaceTestsModel" "DrawingMachineModel$PlaceTestsModel" "equationA" "I", Cond.laysFinal "DrawingMachineModel$PlaceTestsModel" "DrawingMachineModel$PlaceTestsModel" "constant" "[I", Cond.lays "DrawingMachineModel$PlaceTestsModel" "DrawingMachineModel$PlaceTestsModel" "logic" "I", Cond.lays "DrawingMachineModel$PlaceTestsModel" "DrawingMachineModel$PlaceTestsModel" "mask" "I", Cond.laysFinal "DrawingMachineModel$PlaceTestsModel" "DrawingMachineModel$PlaceTestsModel" "answers" "[I", Cond.laysFinal "DrawingMachineModel$PlaceTestsModel" "DrawingMachineModel$PlaceTestsModel" "s" "[I", Cond.laysFinal "DrawingMachineModel$PlaceTestsModel" "DrawingMachineModel$PlaceTestsModel" "d" "[I", Cond.initialized "DrawingMachineLaw", Cond.arrayClass .int, Cond.arrayClass .long]
def tw_6 : List Cond := [Cond.code ⟨"DrawingMachine", "<init>", "()V"⟩ prog_1_method_1_code 1 none, Cond.methodLink "DrawingMachine" 1 ⟨"java/lang/Object", "<init>", "()V"⟩, Cond.instanceMethod ⟨"java/lang/Object", "<init>", "()V"⟩, Cond.code ⟨"java/lang/Object", "<init>", "()V"⟩ object_method_1_code 1 none, Cond.fieldLink "DrawingMachine" 9 "DrawingMachine" "memory" "[I", Cond.classLink "DrawingMachine" 13 "DrawingMachine$Told", Cond.methodLink "DrawingMachine" 15 ⟨"DrawingMachine$Told", "<init>", "()V"⟩, Cond.instanceMethod ⟨"DrawingMachine$Told", "<init>", "()V"⟩, Cond.code ⟨"DrawingMachine$Told", "<init>", "()V"⟩ prog_11_method_1_code 1 none, Cond.fieldLink "DrawingMachine" 16 "DrawingMachine" "told" "LDrawingMachine$Told;", Cond.classLink "DrawingMachine" 20 "DrawingMachine$Picture", Cond.methodLink "DrawingMachine" 22 ⟨"DrawingMachine$Picture", "<init>", "(LDrawingMachine$Told;)V"⟩, Cond.instanceMethod ⟨"DrawingMachine$Picture", "<init>", "(LDrawingMachine$Told;)V"⟩, Cond.code ⟨"DrawingMachine$Picture", "<init>", "(LDrawingMachine$Told;)V"⟩ prog_6_method_1_code 2 none, Cond.fieldLink "DrawingMachine" 25 "DrawingMachine" "picture" "LDrawingMachine$Picture;", Cond.classLink "DrawingMachine" 29 "DrawingMachine$Course", Cond.methodLink "DrawingMachine" 31 ⟨"DrawingMachine$Course", "<init>", "([I)V"⟩, Cond.instanceMethod ⟨"DrawingMachine$Course", "<init>", "([I)V"⟩, Cond.code ⟨"DrawingMachine$Course", "<init>", "([I)V"⟩ prog_3_method_1_code 2 none, Cond.fieldLink "DrawingMachine" 34 "DrawingMachine" "course" "LDrawingMachine$Course;", Cond.classLink "DrawingMachine" 38 "DrawingMachine$Checker", Cond.instanceMethod ⟨"DrawingMachine$Checker", "<init>", "()V"⟩, Cond.code ⟨"DrawingMachine$Checker", "<init>", "()V"⟩ prog_2_method_1_code 1 none, Cond.fieldLink "DrawingMachine" 41 "DrawingMachine" "checker" "LDrawingMachine$Checker;", Cond.classLink "DrawingMachine" 45 "DrawingMachine$Drawing", Cond.methodLink "DrawingMachine" 47 ⟨"DrawingMachine$Drawing", "<init>", "([ILDrawingMachine$Told;LDrawingMachine$Picture;)V"⟩, Cond.instanceMethod ⟨"DrawingMachine$Drawing", "<init>", "([ILDrawingMachine$Told;LDrawingMachine$Picture;)V"⟩, Cond.code ⟨"DrawingMachine$Drawing", "<init>", "([ILDrawingMachine$Told;LDrawingMachine$Picture;)V"⟩ prog_5_method_1_code 4 none, Cond.fieldLink "DrawingMachine" 50 "DrawingMachine" "drawing" "LDrawingMachine$Drawing;", Cond.classLink "DrawingMachine" 54 "DrawingMachine$Program", Cond.instanceMethod ⟨"DrawingMachine$Program", "<init>", "()V"⟩, Cond.code ⟨"DrawingMachine$Program", "<init>", "()V"⟩ prog_8_method_1_code 1 none, Cond.fieldLink "DrawingMachine" 57 "DrawingMachine" "cornersProgram" "LDrawingMachine$Program;", Cond.fieldLink "DrawingMachine" 61 "DrawingMachine" "placesProgram" "LDrawingMachine$Program;", Cond.fieldLink "DrawingMachine" 64 "DrawingMachine" "spareProgram" "LDrawingMachine$Program;", Cond.code ⟨"DrawingMachine", "frame", "(III)I"⟩ prog_1_method_2_code 4 (Option.some .int), Cond.methodLink "DrawingMachine" 67 ⟨"DrawingMachine", "isSide", "(I)Z"⟩, Cond.static ⟨"DrawingMachine", "isSide", "(I)Z"⟩, Cond.code ⟨"DrawingMachine", "isSide", "(I)Z"⟩ prog_1_method_22_code 1 (Option.some .boolean), Cond.methodLink "DrawingMachine" 71 ⟨"DrawingMachine", "isTileSide", "(I)Z"⟩]
def tw_7 : List Cond := [Cond.static ⟨"DrawingMachine", "isTileSide", "(I)Z"⟩, Cond.code ⟨"DrawingMachine", "isTileSide", "(I)Z"⟩ prog_1_method_23_code 1 (Option.some .boolean), Cond.classLink "DrawingMachine" 74 "java/lang/IllegalArgumentException", Cond.methodLink "DrawingMachine" 78 ⟨"java/lang/IllegalArgumentException", "<init>", "(Ljava/lang/String;)V"⟩, Cond.methodLink "DrawingMachine" 81 ⟨"DrawingMachine$Picture", "makeNew", "(II)V"⟩, Cond.instanceMethod ⟨"DrawingMachine$Picture", "makeNew", "(II)V"⟩, Cond.selects "DrawingMachine$Picture" ⟨"DrawingMachine$Picture", "makeNew", "(II)V"⟩ ⟨"DrawingMachine$Picture", "makeNew", "(II)V"⟩, Cond.code ⟨"DrawingMachine$Picture", "makeNew", "(II)V"⟩ prog_6_method_2_code 4 none, Cond.code ⟨"DrawingMachine", "word", "(II)I"⟩ prog_1_method_3_code 4 (Option.some .int), Cond.classLink "DrawingMachine" 85 "java/lang/IndexOutOfBoundsException", Cond.methodLink "DrawingMachine" 89 ⟨"java/lang/IndexOutOfBoundsException", "<init>", "(Ljava/lang/String;)V"⟩, Cond.code ⟨"DrawingMachine", "look", "(I)I"⟩ prog_1_method_4_code 2 (Option.some .int), Cond.code ⟨"DrawingMachine", "feed", "(IIIII)I"⟩ prog_1_method_5_code 6 (Option.some .int), Cond.fieldLink "DrawingMachine" 90 "DrawingMachine$Course" "words" "I", Cond.classLink "DrawingMachine" 94 "java/lang/UnsupportedOperationException", Cond.methodLink "DrawingMachine" 98 ⟨"java/lang/UnsupportedOperationException", "<init>", "(Ljava/lang/String;)V"⟩, Cond.methodLink "DrawingMachine" 99 ⟨"DrawingMachine$Course", "makeRoom", "(I)V"⟩, Cond.instanceMethod ⟨"DrawingMachine$Course", "makeRoom", "(I)V"⟩, Cond.selects "DrawingMachine$Course" ⟨"DrawingMachine$Course", "makeRoom", "(I)V"⟩ ⟨"DrawingMachine$Course", "makeRoom", "(I)V"⟩, Cond.code ⟨"DrawingMachine$Course", "makeRoom", "(I)V"⟩ prog_3_method_2_code 2 none, Cond.methodLink "DrawingMachine" 103 ⟨"DrawingMachine$Course", "add", "(I)V"⟩, Cond.instanceMethod ⟨"DrawingMachine$Course", "add", "(I)V"⟩, Cond.selects "DrawingMachine$Course" ⟨"DrawingMachine$Course", "add", "(I)V"⟩ ⟨"DrawingMachine$Course", "add", "(I)V"⟩, Cond.code ⟨"DrawingMachine$Course", "add", "(I)V"⟩ prog_3_method_3_code 2 none, Cond.code ⟨"DrawingMachine", "end", "(I)V"⟩ prog_1_method_6_code 2 none, Cond.methodLink "DrawingMachine" 108 ⟨"DrawingMachine", "beginAnew", "()V"⟩, Cond.instanceMethod ⟨"DrawingMachine", "beginAnew", "()V"⟩, Cond.code ⟨"DrawingMachine", "beginAnew", "()V"⟩ prog_1_method_14_code 1 none, Cond.code ⟨"DrawingMachine", "begin", "(Z)V"⟩ prog_1_method_7_code 2 none, Cond.methodLink "DrawingMachine" 111 ⟨"DrawingMachine$Told", "forget", "()V"⟩, Cond.instanceMethod ⟨"DrawingMachine$Told", "forget", "()V"⟩, Cond.selects "DrawingMachine$Told" ⟨"DrawingMachine$Told", "forget", "()V"⟩ ⟨"DrawingMachine$Told", "forget", "()V"⟩, Cond.code ⟨"DrawingMachine$Told", "forget", "()V"⟩ prog_11_method_2_code 2 none, Cond.fieldLink "DrawingMachine" 114 "DrawingMachine$Program" "many" "I", Cond.code ⟨"DrawingMachine", "run", "(I)I"⟩ prog_1_method_8_code 5 (Option.some .int), Cond.fieldLink "DrawingMachine" 119 "DrawingMachine$Course" "over" "Z", Cond.classLink "DrawingMachine" 123 "java/lang/IllegalStateException", Cond.methodLink "DrawingMachine" 127 ⟨"java/lang/IllegalStateException", "<init>", "(Ljava/lang/String;)V"⟩, Cond.fieldLink "DrawingMachine" 128 "DrawingMachine$Course" "done" "I", Cond.methodLink "DrawingMachine" 131 ⟨"DrawingMachine", "refusal", "()I"⟩]
def tw_8 : List Cond := [Cond.instanceMethod ⟨"DrawingMachine", "refusal", "()I"⟩, Cond.code ⟨"DrawingMachine", "refusal", "()I"⟩ prog_1_method_16_code 2 (Option.some .int), Cond.methodLink "DrawingMachine" 135 ⟨"DrawingMachine", "isDraw", "()Z"⟩, Cond.instanceMethod ⟨"DrawingMachine", "isDraw", "()Z"⟩, Cond.code ⟨"DrawingMachine", "isDraw", "()Z"⟩ prog_1_method_15_code 1 (Option.some .boolean), Cond.methodLink "DrawingMachine" 139 ⟨"DrawingMachine$Drawing", "draw", "(LDrawingMachine$Course;LDrawingMachine$Program;LDrawingMachine$Program;)I"⟩, Cond.methodLink "DrawingMachine" 143 ⟨"DrawingMachine", "carryOut", "()I"⟩, Cond.instanceMethod ⟨"DrawingMachine", "carryOut", "()I"⟩, Cond.code ⟨"DrawingMachine", "carryOut", "()I"⟩ prog_1_method_19_code 2 (Option.some .int), Cond.methodLink "DrawingMachine" 146 ⟨"DrawingMachine$Course", "goOn", "(I)V"⟩, Cond.instanceMethod ⟨"DrawingMachine$Course", "goOn", "(I)V"⟩, Cond.selects "DrawingMachine$Course" ⟨"DrawingMachine$Course", "goOn", "(I)V"⟩ ⟨"DrawingMachine$Course", "goOn", "(I)V"⟩, Cond.code ⟨"DrawingMachine$Course", "goOn", "(I)V"⟩ prog_3_method_10_code 2 none, Cond.code ⟨"DrawingMachine", "about", "(I)I"⟩ prog_1_method_9_code 2 (Option.some .int), Cond.fieldLink "DrawingMachine" 149 "DrawingMachine$Course" "refused" "I", Cond.fieldLink "DrawingMachine" 152 "DrawingMachine$Course" "lastPlace" "I", Cond.fieldLink "DrawingMachine" 155 "DrawingMachine$Course" "lastDepth" "I", Cond.fieldLink "DrawingMachine" 158 "DrawingMachine$Drawing" "openQuery" "I", Cond.fieldLink "DrawingMachine" 161 "DrawingMachine$Checker" "fault" "I", Cond.fieldLink "DrawingMachine" 164 "DrawingMachine$Checker" "place" "I", Cond.code ⟨"DrawingMachine", "at", "(III)I"⟩ prog_1_method_10_code 4 (Option.some .int), Cond.fieldLink "DrawingMachine" 171 "DrawingMachine$Picture" "wide" "I", Cond.fieldLink "DrawingMachine" 174 "DrawingMachine$Picture" "high" "I", Cond.methodLink "DrawingMachine" 179 ⟨"DrawingMachine$Picture", "rowOf", "(I)[I"⟩, Cond.instanceMethod ⟨"DrawingMachine$Picture", "rowOf", "(I)[I"⟩, Cond.selects "DrawingMachine$Picture" ⟨"DrawingMachine$Picture", "rowOf", "(I)[I"⟩ ⟨"DrawingMachine$Picture", "rowOf", "(I)[I"⟩, Cond.code ⟨"DrawingMachine$Picture", "rowOf", "(I)[I"⟩ prog_6_method_3_code 2 (Option.some (.array .int)), Cond.code ⟨"DrawingMachine", "sum", "(I)I"⟩ prog_1_method_11_code 6 (Option.some .int), Cond.code ⟨"DrawingMachine", "query", "(I)I"⟩ prog_1_method_12_code 2 (Option.some .int), Cond.fieldLink "DrawingMachine" 187 "DrawingMachine$Drawing" "queries" "[I", Cond.code ⟨"DrawingMachine", "count", "(I)I"⟩ prog_1_method_13_code 2 (Option.some .int), Cond.fieldLink "DrawingMachine" 192 "DrawingMachine$Drawing" "counts" "[I", Cond.methodLink "DrawingMachine" 195 ⟨"DrawingMachine$Course", "beginAnew", "()V"⟩, Cond.instanceMethod ⟨"DrawingMachine$Course", "beginAnew", "()V"⟩, Cond.selects "DrawingMachine$Course" ⟨"DrawingMachine$Course", "beginAnew", "()V"⟩ ⟨"DrawingMachine$Course", "beginAnew", "()V"⟩, Cond.code ⟨"DrawingMachine$Course", "beginAnew", "()V"⟩ prog_3_method_4_code 1 none, Cond.fieldLink "DrawingMachine" 196 "DrawingMachine$Course" "kind" "I", Cond.methodLink "DrawingMachine" 199 ⟨"DrawingMachine$Course", "fetch", "()I"⟩, Cond.instanceMethod ⟨"DrawingMachine$Course", "fetch", "()I"⟩, Cond.selects "DrawingMachine$Course" ⟨"DrawingMachine$Course", "fetch", "()I"⟩ ⟨"DrawingMachine$Course", "fetch", "()I"⟩]
def tw_9 : List Cond := [Cond.code ⟨"DrawingMachine$Course", "fetch", "()I"⟩ prog_3_method_5_code 3 (Option.some .int), Cond.methodLink "DrawingMachine" 202 ⟨"DrawingMachine", "placesAreThere", "()Z"⟩, Cond.instanceMethod ⟨"DrawingMachine", "placesAreThere", "()Z"⟩, Cond.code ⟨"DrawingMachine", "placesAreThere", "()Z"⟩ prog_1_method_17_code 2 (Option.some .boolean), Cond.methodLink "DrawingMachine" 205 ⟨"DrawingMachine", "stateAllows", "()Z"⟩, Cond.instanceMethod ⟨"DrawingMachine", "stateAllows", "()Z"⟩, Cond.code ⟨"DrawingMachine", "stateAllows", "()Z"⟩ prog_1_method_18_code 2 (Option.some .boolean), Cond.fieldLink "DrawingMachine" 208 "DrawingMachine$Course" "given" "[I", Cond.methodLink "DrawingMachine" 211 ⟨"DrawingMachine", "inMemory", "(II)Z"⟩, Cond.fieldLink "DrawingMachine" 215 "DrawingMachine$Course" "depth" "I", Cond.methodLink "DrawingMachine" 218 ⟨"DrawingMachine$Picture", "clear", "(IIII)V"⟩, Cond.methodLink "DrawingMachine" 222 ⟨"DrawingMachine$Told", "keepUniforms", "(II[II)V"⟩, Cond.methodLink "DrawingMachine" 226 ⟨"DrawingMachine", "readProgram", "(II)I"⟩, Cond.methodLink "DrawingMachine" 230 ⟨"DrawingMachine$Drawing", "turnQuery", "(IZ)V"⟩, Cond.methodLink "DrawingMachine" 234 ⟨"DrawingMachine", "copyBack", "()V"⟩, Cond.methodLink "DrawingMachine" 237 ⟨"DrawingMachine$Course", "putWords", "(II)V"⟩, Cond.methodLink "DrawingMachine" 240 ⟨"DrawingMachine$Told", "keep", "(I[I)V"⟩, Cond.instanceMethod ⟨"DrawingMachine$Told", "keep", "(I[I)V"⟩, Cond.selects "DrawingMachine$Told" ⟨"DrawingMachine$Told", "keep", "(I[I)V"⟩ ⟨"DrawingMachine$Told", "keep", "(I[I)V"⟩, Cond.code ⟨"DrawingMachine$Told", "keep", "(I[I)V"⟩ prog_11_method_3_code 6 none, Cond.methodLink "DrawingMachine$Told" 3 ⟨"java/lang/Object", "<init>", "()V"⟩, Cond.fieldLink "DrawingMachine$Told" 9 "DrawingMachine$Told" "kept" "[I", Cond.methodLink "DrawingMachine$Told" 15 ⟨"DrawingMachine$Told", "forget", "()V"⟩, Cond.methodLink "DrawingMachine$Told" 18 ⟨"java/util/Arrays", "fill", "([II)V"⟩, Cond.initialized "java/util/Arrays", Cond.static ⟨"java/util/Arrays", "fill", "([II)V"⟩, Cond.code ⟨"java/util/Arrays", "fill", "([II)V"⟩ prog_39_method_103_code 4 none, Cond.constant "DrawingMachine$Told" 24 (16777215 : Int32), Cond.methodLink "DrawingMachine$Told" 34 ⟨"java/lang/System", "arraycopy", "(Ljava/lang/Object;ILjava/lang/Object;II)V"⟩, Cond.methodLink "DrawingMachine$Picture" 3 ⟨"java/lang/Object", "<init>", "()V"⟩, Cond.fieldLink "DrawingMachine$Picture" 9 "DrawingMachine$Picture" "wide" "I", Cond.fieldLink "DrawingMachine$Picture" 15 "DrawingMachine$Picture" "high" "I", Cond.fieldLink "DrawingMachine$Picture" 18 "DrawingMachine$Picture" "colours" "[I", Cond.fieldLink "DrawingMachine$Picture" 22 "DrawingMachine$Picture" "depths" "[I", Cond.fieldLink "DrawingMachine$Picture" 25 "DrawingMachine$Picture" "stencils" "[I", Cond.fieldLink "DrawingMachine$Picture" 28 "DrawingMachine$Picture" "told" "LDrawingMachine$Told;", Cond.fieldLink "DrawingMachine$Picture" 32 "DrawingMachine$Told" "kept" "[I", Cond.fieldLink "DrawingMachine$Picture" 37 "DrawingMachine$Picture" "kept" "[I", Cond.methodLink "DrawingMachine$Picture" 38 ⟨"java/lang/Math", "max", "(II)I"⟩, Cond.initialized "java/lang/Math"]
def tw_10 : List Cond := [Cond.static ⟨"java/lang/Math", "max", "(II)I"⟩, Cond.code ⟨"java/lang/Math", "max", "(II)I"⟩ prog_30_method_65_code 2 (Option.some .int), Cond.methodLink "DrawingMachine$Picture" 44 ⟨"java/lang/Math", "min", "(II)I"⟩, Cond.static ⟨"java/lang/Math", "min", "(II)I"⟩, Cond.code ⟨"java/lang/Math", "min", "(II)I"⟩ prog_30_method_69_code 2 (Option.some .int), Cond.methodLink "DrawingMachine$Picture" 47 ⟨"java/util/Arrays", "fill", "([IIII)V"⟩, Cond.static ⟨"java/util/Arrays", "fill", "([IIII)V"⟩, Cond.code ⟨"java/util/Arrays", "fill", "([IIII)V"⟩ prog_39_method_104_code 5 none, Cond.methodLink "DrawingMachine$Course" 3 ⟨"java/lang/Object", "<init>", "()V"⟩, Cond.fieldLink "DrawingMachine$Course" 9 "DrawingMachine$Course" "given" "[I", Cond.fieldLink "DrawingMachine$Course" 15 "DrawingMachine$Course" "lastPlace" "I", Cond.fieldLink "DrawingMachine$Course" 19 "DrawingMachine$Course" "lastDepth" "I", Cond.fieldLink "DrawingMachine$Course" 22 "DrawingMachine$Course" "returns" "[I", Cond.fieldLink "DrawingMachine$Course" 25 "DrawingMachine$Course" "stream" "[I", Cond.fieldLink "DrawingMachine$Course" 28 "DrawingMachine$Course" "memory" "[I", Cond.fieldLink "DrawingMachine$Course" 31 "DrawingMachine$Course" "words" "I", Cond.methodLink "DrawingMachine$Course" 34 ⟨"java/lang/Math", "min", "(II)I"⟩, Cond.methodLink "DrawingMachine$Course" 40 ⟨"java/util/Arrays", "copyOf", "([II)[I"⟩, Cond.fieldLink "DrawingMachine$Course" 46 "DrawingMachine$Course" "position" "I", Cond.fieldLink "DrawingMachine$Course" 49 "DrawingMachine$Course" "depth" "I", Cond.fieldLink "DrawingMachine$Course" 52 "DrawingMachine$Course" "done" "I", Cond.fieldLink "DrawingMachine$Course" 55 "DrawingMachine$Course" "refused" "I", Cond.fieldLink "DrawingMachine$Course" 58 "DrawingMachine$Course" "over" "Z", Cond.fieldLink "DrawingMachine$Course" 62 "DrawingMachine$Course" "work" "J", Cond.methodLink "DrawingMachine$Course" 66 ⟨"DrawingMachine$Course", "source", "()[I"⟩, Cond.instanceMethod ⟨"DrawingMachine$Course", "source", "()[I"⟩, Cond.code ⟨"DrawingMachine$Course", "source", "()[I"⟩ prog_3_method_6_code 1 (Option.some (.array .int)), Cond.methodLink "DrawingMachine$Course" 70 ⟨"DrawingMachine$Course", "limit", "()I"⟩, Cond.instanceMethod ⟨"DrawingMachine$Course", "limit", "()I"⟩, Cond.code ⟨"DrawingMachine$Course", "limit", "()I"⟩ prog_3_method_7_code 1 (Option.some .int), Cond.fieldLink "DrawingMachine$Course" 74 "DrawingMachine$Course" "kind" "I", Cond.fieldLink "DrawingMachine$Course" 77 "DrawingMachine$Course" "length" "I", Cond.methodLink "DrawingMachine$Course" 87 ⟨"java/lang/System", "arraycopy", "(Ljava/lang/Object;ILjava/lang/Object;II)V"⟩, Cond.methodLink "DrawingMachine$Course" 93 ⟨"DrawingMachine$Course", "valuesMayBe", "()Z"⟩, Cond.methodLink "DrawingMachine$Checker" 3 ⟨"java/lang/Object", "<init>", "()V"⟩, Cond.fieldLink "DrawingMachine$Checker" 9 "DrawingMachine$Checker" "place" "I", Cond.fieldLink "DrawingMachine$Checker" 15 "DrawingMachine$Checker" "loopOf" "[I", Cond.fieldLink "DrawingMachine$Checker" 19 "DrawingMachine$Checker" "open" "[I", Cond.fieldLink "DrawingMachine$Checker" 22 "DrawingMachine$Checker" "times" "[J", Cond.methodLink "DrawingMachine$Program" 1 ⟨"java/lang/Object", "<init>", "()V"⟩]
def tw_11 : List Cond := [Cond.fieldLink "DrawingMachine$Program" 7 "DrawingMachine$Program" "words" "[I", Cond.methodLink "DrawingMachine$Drawing" 3 ⟨"java/lang/Object", "<init>", "()V"⟩, Cond.fieldLink "DrawingMachine$Drawing" 9 "DrawingMachine$Drawing" "counts" "[I", Cond.fieldLink "DrawingMachine$Drawing" 15 "DrawingMachine$Drawing" "queries" "[I", Cond.fieldLink "DrawingMachine$Drawing" 18 "DrawingMachine$Drawing" "openQuery" "I", Cond.fieldLink "DrawingMachine$Drawing" 22 "DrawingMachine$Told" "kept" "[I", Cond.fieldLink "DrawingMachine$Drawing" 27 "DrawingMachine$Drawing" "kept" "[I", Cond.fieldLink "DrawingMachine$Drawing" 28 "DrawingMachine$Drawing" "picture" "LDrawingMachine$Picture;", Cond.classLink "DrawingMachine$Drawing" 32 "DrawingMachine$Processor", Cond.methodLink "DrawingMachine$Drawing" 34 ⟨"DrawingMachine$Processor", "<init>", "([ILDrawingMachine$Told;)V"⟩, Cond.instanceMethod ⟨"DrawingMachine$Processor", "<init>", "([ILDrawingMachine$Told;)V"⟩, Cond.code ⟨"DrawingMachine$Processor", "<init>", "([ILDrawingMachine$Told;)V"⟩ prog_7_method_1_code 3 none, Cond.fieldLink "DrawingMachine$Drawing" 37 "DrawingMachine$Drawing" "processor" "LDrawingMachine$Processor;", Cond.classLink "DrawingMachine$Drawing" 41 "DrawingMachine$Vertices", Cond.methodLink "DrawingMachine$Drawing" 43 ⟨"DrawingMachine$Vertices", "<init>", "([ILDrawingMachine$Told;)V"⟩, Cond.instanceMethod ⟨"DrawingMachine$Vertices", "<init>", "([ILDrawingMachine$Told;)V"⟩, Cond.code ⟨"DrawingMachine$Vertices", "<init>", "([ILDrawingMachine$Told;)V"⟩ prog_12_method_1_code 3 none, Cond.fieldLink "DrawingMachine$Drawing" 44 "DrawingMachine$Drawing" "vertices" "LDrawingMachine$Vertices;", Cond.classLink "DrawingMachine$Drawing" 48 "DrawingMachine$Shape", Cond.methodLink "DrawingMachine$Drawing" 50 ⟨"DrawingMachine$Shape", "<init>", "(LDrawingMachine$Told;)V"⟩, Cond.instanceMethod ⟨"DrawingMachine$Shape", "<init>", "(LDrawingMachine$Told;)V"⟩, Cond.code ⟨"DrawingMachine$Shape", "<init>", "(LDrawingMachine$Told;)V"⟩ prog_9_method_1_code 2 none, Cond.fieldLink "DrawingMachine$Drawing" 53 "DrawingMachine$Drawing" "shape" "LDrawingMachine$Shape;", Cond.classLink "DrawingMachine$Drawing" 57 "DrawingMachine$Covering", Cond.methodLink "DrawingMachine$Drawing" 59 ⟨"DrawingMachine$Covering", "<init>", "(LDrawingMachine$Shape;)V"⟩, Cond.instanceMethod ⟨"DrawingMachine$Covering", "<init>", "(LDrawingMachine$Shape;)V"⟩, Cond.code ⟨"DrawingMachine$Covering", "<init>", "(LDrawingMachine$Shape;)V"⟩ prog_4_method_1_code 2 none, Cond.fieldLink "DrawingMachine$Drawing" 62 "DrawingMachine$Drawing" "covering" "LDrawingMachine$Covering;", Cond.methodLink "DrawingMachine$Processor" 3 ⟨"java/lang/Object", "<init>", "()V"⟩, Cond.fieldLink "DrawingMachine$Processor" 9 "DrawingMachine$Processor" "bank" "[I", Cond.fieldLink "DrawingMachine$Processor" 15 "DrawingMachine$Processor" "a" "[I", Cond.fieldLink "DrawingMachine$Processor" 18 "DrawingMachine$Processor" "b" "[I", Cond.fieldLink "DrawingMachine$Processor" 21 "DrawingMachine$Processor" "c" "[I", Cond.fieldLink "DrawingMachine$Processor" 24 "DrawingMachine$Processor" "result" "[I", Cond.fieldLink "DrawingMachine$Processor" 27 "DrawingMachine$Processor" "starts" "[I", Cond.fieldLink "DrawingMachine$Processor" 30 "DrawingMachine$Processor" "left" "[I", Cond.fieldLink "DrawingMachine$Processor" 33 "DrawingMachine$Processor" "memory" "[I", Cond.classLink "DrawingMachine$Processor" 36 "DrawingMachine$Textures", Cond.methodLink "DrawingMachine$Processor" 38 ⟨"DrawingMachine$Textures", "<init>", "([ILDrawingMachine$Told;)V"⟩, Cond.instanceMethod ⟨"DrawingMachine$Textures", "<init>", "([ILDrawingMachine$Told;)V"⟩]
def tw_12 : List Cond := [Cond.code ⟨"DrawingMachine$Textures", "<init>", "([ILDrawingMachine$Told;)V"⟩ prog_10_method_1_code 3 none, Cond.fieldLink "DrawingMachine$Processor" 41 "DrawingMachine$Processor" "textures" "LDrawingMachine$Textures;", Cond.methodLink "DrawingMachine$Textures" 3 ⟨"java/lang/Object", "<init>", "()V"⟩, Cond.fieldLink "DrawingMachine$Textures" 9 "DrawingMachine$Textures" "nextLevel" "[I", Cond.fieldLink "DrawingMachine$Textures" 15 "DrawingMachine$Textures" "beside" "[I", Cond.fieldLink "DrawingMachine$Textures" 18 "DrawingMachine$Textures" "below" "[I", Cond.fieldLink "DrawingMachine$Textures" 21 "DrawingMachine$Textures" "belowBeside" "[I", Cond.fieldLink "DrawingMachine$Textures" 24 "DrawingMachine$Textures" "memory" "[I", Cond.fieldLink "DrawingMachine$Textures" 27 "DrawingMachine$Told" "kept" "[I", Cond.fieldLink "DrawingMachine$Textures" 32 "DrawingMachine$Textures" "kept" "[I", Cond.methodLink "DrawingMachine$Vertices" 3 ⟨"java/lang/Object", "<init>", "()V"⟩, Cond.fieldLink "DrawingMachine$Vertices" 9 "DrawingMachine$Vertices" "memory" "[I", Cond.fieldLink "DrawingMachine$Vertices" 15 "DrawingMachine$Told" "kept" "[I", Cond.fieldLink "DrawingMachine$Vertices" 20 "DrawingMachine$Vertices" "kept" "[I", Cond.methodLink "DrawingMachine$Shape" 3 ⟨"java/lang/Object", "<init>", "()V"⟩, Cond.classLink "DrawingMachine$Shape" 11 "[[I", Cond.fieldLink "DrawingMachine$Shape" 13 "DrawingMachine$Shape" "corners" "[[I", Cond.fieldLink "DrawingMachine$Shape" 16 "DrawingMachine$Shape" "x" "[I", Cond.fieldLink "DrawingMachine$Shape" 20 "DrawingMachine$Shape" "y" "[I", Cond.fieldLink "DrawingMachine$Shape" 23 "DrawingMachine$Shape" "depth" "[I", Cond.fieldLink "DrawingMachine$Shape" 26 "DrawingMachine$Shape" "nearness" "[I", Cond.fieldLink "DrawingMachine$Shape" 29 "DrawingMachine$Shape" "spare" "[[I", Cond.fieldLink "DrawingMachine$Shape" 32 "DrawingMachine$Told" "kept" "[I", Cond.fieldLink "DrawingMachine$Shape" 37 "DrawingMachine$Shape" "kept" "[I", Cond.methodLink "DrawingMachine$Covering" 3 ⟨"java/lang/Object", "<init>", "()V"⟩, Cond.fieldLink "DrawingMachine$Covering" 9 "DrawingMachine$Covering" "who" "[I", Cond.fieldLink "DrawingMachine$Covering" 15 "DrawingMachine$Covering" "along" "[J", Cond.fieldLink "DrawingMachine$Covering" 19 "DrawingMachine$Covering" "down" "[J", Cond.fieldLink "DrawingMachine$Covering" 22 "DrawingMachine$Covering" "start" "[J", Cond.fieldLink "DrawingMachine$Covering" 25 "DrawingMachine$Covering" "least" "[J", Cond.fieldLink "DrawingMachine$Covering" 28 "DrawingMachine$Covering" "weight" "[J", Cond.fieldLink "DrawingMachine$Covering" 31 "DrawingMachine$Covering" "share" "[J", Cond.fieldLink "DrawingMachine$Covering" 34 "DrawingMachine$Covering" "shape" "LDrawingMachine$Shape;", Cond.code ⟨"DrawingMachineModel", "<init>", "()V"⟩ prog_14_method_1_code 1 none, Cond.methodLink "DrawingMachineModel" 1 ⟨"java/lang/Object", "<init>", "()V"⟩, Cond.fieldLink "DrawingMachineModel" 7 "DrawingMachineModel" "wide" "I", Cond.fieldLink "DrawingMachineModel" 13 "DrawingMachineModel" "high" "I", Cond.classLink "DrawingMachineModel" 16 "DrawingMachineModel$DrawCommandsModel", Cond.methodLink "DrawingMachineModel" 18 ⟨"DrawingMachineModel$DrawCommandsModel", "<init>", "()V"⟩, Cond.instanceMethod ⟨"DrawingMachineModel$DrawCommandsModel", "<init>", "()V"⟩]
def tw_13 : List Cond := [Cond.code ⟨"DrawingMachineModel$DrawCommandsModel", "<init>", "()V"⟩ prog_15_method_1_code 1 none, Cond.fieldLink "DrawingMachineModel" 19 "DrawingMachineModel" "commands" "LDrawingMachineModel$DrawCommandsModel;", Cond.classLink "DrawingMachineModel" 23 "DrawingMachineModel$TextureUnitsModel", Cond.methodLink "DrawingMachineModel" 29 ⟨"DrawingMachineModel$TextureUnitsModel", "<init>", "([I)V"⟩, Cond.instanceMethod ⟨"DrawingMachineModel$TextureUnitsModel", "<init>", "([I)V"⟩, Cond.code ⟨"DrawingMachineModel$TextureUnitsModel", "<init>", "([I)V"⟩ prog_19_method_1_code 3 none, Cond.fieldLink "DrawingMachineModel" 32 "DrawingMachineModel" "units" "LDrawingMachineModel$TextureUnitsModel;", Cond.classLink "DrawingMachineModel" 36 "DrawingMachineModel$ShaderMachineModel", Cond.methodLink "DrawingMachineModel" 38 ⟨"DrawingMachineModel$ShaderMachineModel", "<init>", "([ILDrawingMachineModel$TextureUnitsModel;)V"⟩, Cond.instanceMethod ⟨"DrawingMachineModel$ShaderMachineModel", "<init>", "([ILDrawingMachineModel$TextureUnitsModel;)V"⟩, Cond.code ⟨"DrawingMachineModel$ShaderMachineModel", "<init>", "([ILDrawingMachineModel$TextureUnitsModel;)V"⟩ prog_18_method_1_code 3 none, Cond.fieldLink "DrawingMachineModel" 41 "DrawingMachineModel" "corners" "LDrawingMachineModel$ShaderMachineModel;", Cond.fieldLink "DrawingMachineModel" 45 "DrawingMachineModel" "places" "LDrawingMachineModel$ShaderMachineModel;", Cond.classLink "DrawingMachineModel" 48 "DrawingMachineModel$VertexWorkModel", Cond.methodLink "DrawingMachineModel" 50 ⟨"DrawingMachineModel$VertexWorkModel", "<init>", "([I)V"⟩, Cond.instanceMethod ⟨"DrawingMachineModel$VertexWorkModel", "<init>", "([I)V"⟩, Cond.code ⟨"DrawingMachineModel$VertexWorkModel", "<init>", "([I)V"⟩ prog_20_method_1_code 2 none, Cond.fieldLink "DrawingMachineModel" 51 "DrawingMachineModel" "vertices" "LDrawingMachineModel$VertexWorkModel;", Cond.classLink "DrawingMachineModel" 55 "DrawingMachineModel$EdgeRasterModel", Cond.methodLink "DrawingMachineModel" 57 ⟨"DrawingMachineModel$EdgeRasterModel", "<init>", "()V"⟩, Cond.instanceMethod ⟨"DrawingMachineModel$EdgeRasterModel", "<init>", "()V"⟩, Cond.code ⟨"DrawingMachineModel$EdgeRasterModel", "<init>", "()V"⟩ prog_16_method_1_code 2 none, Cond.fieldLink "DrawingMachineModel" 58 "DrawingMachineModel" "raster" "LDrawingMachineModel$EdgeRasterModel;", Cond.classLink "DrawingMachineModel" 62 "DrawingMachineModel$PlaceTestsModel", Cond.methodLink "DrawingMachineModel" 64 ⟨"DrawingMachineModel$PlaceTestsModel", "<init>", "()V"⟩, Cond.instanceMethod ⟨"DrawingMachineModel$PlaceTestsModel", "<init>", "()V"⟩, Cond.code ⟨"DrawingMachineModel$PlaceTestsModel", "<init>", "()V"⟩ prog_17_method_1_code 1 none, Cond.fieldLink "DrawingMachineModel" 65 "DrawingMachineModel" "tests" "LDrawingMachineModel$PlaceTestsModel;", Cond.fieldLink "DrawingMachineModel" 69 "DrawingMachineModel" "faultPlace" "I", Cond.fieldLink "DrawingMachineModel" 72 "DrawingMachineModel" "queries" "[I", Cond.fieldLink "DrawingMachineModel" 75 "DrawingMachineModel" "counts" "[I", Cond.fieldLink "DrawingMachineModel" 78 "DrawingMachineModel" "before" "[I", Cond.fieldLink "DrawingMachineModel" 81 "DrawingMachineModel" "shares" "[J", Cond.methodLink "DrawingMachineModel$DrawCommandsModel" 1 ⟨"java/lang/Object", "<init>", "()V"⟩, Cond.fieldLink "DrawingMachineModel$DrawCommandsModel" 7 "DrawingMachineModel$DrawCommandsModel" "memory" "[I", Cond.fieldLink "DrawingMachineModel$DrawCommandsModel" 13 "DrawingMachineModel$DrawCommandsModel" "wide" "I", Cond.fieldLink "DrawingMachineModel$DrawCommandsModel" 17 "DrawingMachineModel$DrawCommandsModel" "high" "I", Cond.fieldLink "DrawingMachineModel$DrawCommandsModel" 20 "DrawingMachineModel$DrawCommandsModel" "stream" "[I", Cond.fieldLink "DrawingMachineModel$DrawCommandsModel" 23 "DrawingMachineModel$DrawCommandsModel" "back" "[I", Cond.fieldLink "DrawingMachineModel$DrawCommandsModel" 26 "DrawingMachineModel$DrawCommandsModel" "place" "I"]
def tw_14 : List Cond := [Cond.fieldLink "DrawingMachineModel$DrawCommandsModel" 29 "DrawingMachineModel$DrawCommandsModel" "deep" "I", Cond.fieldLink "DrawingMachineModel$DrawCommandsModel" 32 "DrawingMachineModel$DrawCommandsModel" "query" "I", Cond.fieldLink "DrawingMachineModel$DrawCommandsModel" 35 "DrawingMachineModel$DrawCommandsModel" "argument" "[I", Cond.fieldLink "DrawingMachineModel$DrawCommandsModel" 38 "DrawingMachineModel$DrawCommandsModel" "kept" "[I", Cond.methodLink "DrawingMachineModel$DrawCommandsModel" 41 ⟨"DrawingMachineModel$DrawCommandsModel", "nothingTold", "()V"⟩, Cond.instanceMethod ⟨"DrawingMachineModel$DrawCommandsModel", "nothingTold", "()V"⟩, Cond.code ⟨"DrawingMachineModel$DrawCommandsModel", "nothingTold", "()V"⟩ prog_15_method_12_code 3 none, Cond.methodLink "DrawingMachineModel$TextureUnitsModel" 1 ⟨"java/lang/Object", "<init>", "()V"⟩, Cond.fieldLink "DrawingMachineModel$TextureUnitsModel" 7 "DrawingMachineModel$TextureUnitsModel" "units" "[I", Cond.fieldLink "DrawingMachineModel$TextureUnitsModel" 13 "DrawingMachineModel$TextureUnitsModel" "borders" "[I", Cond.fieldLink "DrawingMachineModel$TextureUnitsModel" 16 "DrawingMachineModel$TextureUnitsModel" "latest" "[I", Cond.fieldLink "DrawingMachineModel$TextureUnitsModel" 19 "DrawingMachineModel$TextureUnitsModel" "found" "[I", Cond.fieldLink "DrawingMachineModel$TextureUnitsModel" 22 "DrawingMachineModel$TextureUnitsModel" "row" "[I", Cond.fieldLink "DrawingMachineModel$TextureUnitsModel" 25 "DrawingMachineModel$TextureUnitsModel" "upper" "[I", Cond.fieldLink "DrawingMachineModel$TextureUnitsModel" 28 "DrawingMachineModel$TextureUnitsModel" "near" "[I", Cond.fieldLink "DrawingMachineModel$TextureUnitsModel" 31 "DrawingMachineModel$TextureUnitsModel" "first" "[I", Cond.fieldLink "DrawingMachineModel$TextureUnitsModel" 34 "DrawingMachineModel$TextureUnitsModel" "size" "[I", Cond.fieldLink "DrawingMachineModel$TextureUnitsModel" 37 "DrawingMachineModel$TextureUnitsModel" "memory" "[I", Cond.methodLink "DrawingMachineModel$ShaderMachineModel" 1 ⟨"java/lang/Object", "<init>", "()V"⟩, Cond.fieldLink "DrawingMachineModel$ShaderMachineModel" 7 "DrawingMachineModel$ShaderMachineModel" "program" "[I", Cond.fieldLink "DrawingMachineModel$ShaderMachineModel" 13 "DrawingMachineModel$ShaderMachineModel" "fresh" "[I", Cond.fieldLink "DrawingMachineModel$ShaderMachineModel" 16 "DrawingMachineModel$ShaderMachineModel" "place" "I", Cond.fieldLink "DrawingMachineModel$ShaderMachineModel" 20 "DrawingMachineModel$ShaderMachineModel" "temporaries" "[I", Cond.fieldLink "DrawingMachineModel$ShaderMachineModel" 23 "DrawingMachineModel$ShaderMachineModel" "ins" "[I", Cond.fieldLink "DrawingMachineModel$ShaderMachineModel" 26 "DrawingMachineModel$ShaderMachineModel" "outs" "[I", Cond.fieldLink "DrawingMachineModel$ShaderMachineModel" 29 "DrawingMachineModel$ShaderMachineModel" "uniforms" "[I", Cond.fieldLink "DrawingMachineModel$ShaderMachineModel" 32 "DrawingMachineModel$ShaderMachineModel" "read" "[I", Cond.fieldLink "DrawingMachineModel$ShaderMachineModel" 35 "DrawingMachineModel$ShaderMachineModel" "result" "[I", Cond.fieldLink "DrawingMachineModel$ShaderMachineModel" 38 "DrawingMachineModel$ShaderMachineModel" "left" "[I", Cond.fieldLink "DrawingMachineModel$ShaderMachineModel" 41 "DrawingMachineModel$ShaderMachineModel" "opening" "[I", Cond.fieldLink "DrawingMachineModel$ShaderMachineModel" 44 "DrawingMachineModel$ShaderMachineModel" "memory" "[I", Cond.fieldLink "DrawingMachineModel$ShaderMachineModel" 47 "DrawingMachineModel$ShaderMachineModel" "units" "LDrawingMachineModel$TextureUnitsModel;", Cond.methodLink "DrawingMachineModel$VertexWorkModel" 1 ⟨"java/lang/Object", "<init>", "()V"⟩, Cond.fieldLink "DrawingMachineModel$VertexWorkModel" 7 "DrawingMachineModel$VertexWorkModel" "attributes" "[I", Cond.fieldLink "DrawingMachineModel$VertexWorkModel" 13 "DrawingMachineModel$VertexWorkModel" "corners" "[I", Cond.fieldLink "DrawingMachineModel$VertexWorkModel" 16 "DrawingMachineModel$VertexWorkModel" "view" "[I", Cond.fieldLink "DrawingMachineModel$VertexWorkModel" 19 "DrawingMachineModel$VertexWorkModel" "ring" "[I", Cond.fieldLink "DrawingMachineModel$VertexWorkModel" 22 "DrawingMachineModel$VertexWorkModel" "other" "[I", Cond.fieldLink "DrawingMachineModel$VertexWorkModel" 25 "DrawingMachineModel$VertexWorkModel" "laid" "[I", Cond.fieldLink "DrawingMachineModel$VertexWorkModel" 28 "DrawingMachineModel$VertexWorkModel" "memory" "[I"]
def tw_15 : List Cond := [Cond.constant "DrawingMachineModel$VertexWorkModel" 31 (16777215 : Int32), Cond.methodLink "DrawingMachineModel$EdgeRasterModel" 1 ⟨"java/lang/Object", "<init>", "()V"⟩, Cond.fieldLink "DrawingMachineModel$EdgeRasterModel" 7 "DrawingMachineModel$EdgeRasterModel" "cornerX" "[I", Cond.fieldLink "DrawingMachineModel$EdgeRasterModel" 13 "DrawingMachineModel$EdgeRasterModel" "cornerY" "[I", Cond.fieldLink "DrawingMachineModel$EdgeRasterModel" 16 "DrawingMachineModel$EdgeRasterModel" "depths" "[I", Cond.fieldLink "DrawingMachineModel$EdgeRasterModel" 19 "DrawingMachineModel$EdgeRasterModel" "nearness" "[I", Cond.fieldLink "DrawingMachineModel$EdgeRasterModel" 22 "DrawingMachineModel$EdgeRasterModel" "values" "[I", Cond.methodLink "DrawingMachineModel$PlaceTestsModel" 1 ⟨"java/lang/Object", "<init>", "()V"⟩, Cond.fieldLink "DrawingMachineModel$PlaceTestsModel" 7 "DrawingMachineModel$PlaceTestsModel" "wide" "I", Cond.fieldLink "DrawingMachineModel$PlaceTestsModel" 13 "DrawingMachineModel$PlaceTestsModel" "high" "I", Cond.constant "DrawingMachineModel$PlaceTestsModel" 16 (65536 : Int32), Cond.fieldLink "DrawingMachineModel$PlaceTestsModel" 17 "DrawingMachineModel$PlaceTestsModel" "channels" "[I", Cond.fieldLink "DrawingMachineModel$PlaceTestsModel" 21 "DrawingMachineModel$PlaceTestsModel" "depths" "[I", Cond.fieldLink "DrawingMachineModel$PlaceTestsModel" 24 "DrawingMachineModel$PlaceTestsModel" "stencils" "[I", Cond.fieldLink "DrawingMachineModel$PlaceTestsModel" 27 "DrawingMachineModel$PlaceTestsModel" "scissor" "[I", Cond.fieldLink "DrawingMachineModel$PlaceTestsModel" 30 "DrawingMachineModel$PlaceTestsModel" "depthTest" "I", Cond.fieldLink "DrawingMachineModel$PlaceTestsModel" 33 "DrawingMachineModel$PlaceTestsModel" "stencil" "[I", Cond.fieldLink "DrawingMachineModel$PlaceTestsModel" 36 "DrawingMachineModel$PlaceTestsModel" "factors" "[I", Cond.fieldLink "DrawingMachineModel$PlaceTestsModel" 39 "DrawingMachineModel$PlaceTestsModel" "equation" "I", Cond.fieldLink "DrawingMachineModel$PlaceTestsModel" 42 "DrawingMachineModel$PlaceTestsModel" "constant" "[I", Cond.fieldLink "DrawingMachineModel$PlaceTestsModel" 45 "DrawingMachineModel$PlaceTestsModel" "logic" "I", Cond.fieldLink "DrawingMachineModel$PlaceTestsModel" 48 "DrawingMachineModel$PlaceTestsModel" "mask" "I", Cond.fieldLink "DrawingMachineModel$PlaceTestsModel" 51 "DrawingMachineModel$PlaceTestsModel" "answers" "[I", Cond.fieldLink "DrawingMachineModel$PlaceTestsModel" 54 "DrawingMachineModel$PlaceTestsModel" "s" "[I", Cond.fieldLink "DrawingMachineModel$PlaceTestsModel" 57 "DrawingMachineModel$PlaceTestsModel" "d" "[I", Cond.code ⟨"DrawingMachineModel", "thrown", "()I"⟩ prog_14_method_2_code 1 (Option.some .int), Cond.fieldLink "DrawingMachineModel" 85 "DrawingMachineModel" "thrown" "I", Cond.code ⟨"DrawingMachineModel", "refuse", "(ZZ)Z"⟩ prog_14_method_3_code 3 (Option.some .boolean), Cond.code ⟨"DrawingMachineModel", "in", "(JJJ)Z"⟩ prog_14_method_4_code 6 (Option.some .boolean), Cond.code ⟨"DrawingMachineModel", "frame", "(III)I"⟩ prog_14_method_5_code 5 (Option.some .int), Cond.constantLong "DrawingMachineModel" 88 (128 : Int64), Cond.methodLink "DrawingMachineModel" 90 ⟨"DrawingMachineModel", "in", "(JJJ)Z"⟩, Cond.static ⟨"DrawingMachineModel", "in", "(JJJ)Z"⟩, Cond.methodLink "DrawingMachineModel" 94 ⟨"DrawingMachineModel", "refuse", "(ZZ)Z"⟩, Cond.instanceMethod ⟨"DrawingMachineModel", "refuse", "(ZZ)Z"⟩, Cond.methodLink "DrawingMachineModel" 98 ⟨"DrawingMachineModel$DrawCommandsModel", "frame", "(II)V"⟩, Cond.instanceMethod ⟨"DrawingMachineModel$DrawCommandsModel", "frame", "(II)V"⟩, Cond.selects "DrawingMachineModel$DrawCommandsModel" ⟨"DrawingMachineModel$DrawCommandsModel", "frame", "(II)V"⟩ ⟨"DrawingMachineModel$DrawCommandsModel", "frame", "(II)V"⟩, Cond.code ⟨"DrawingMachineModel$DrawCommandsModel", "frame", "(II)V"⟩ prog_15_method_14_code 3 none, Cond.methodLink "DrawingMachineModel" 102 ⟨"DrawingMachineModel$PlaceTestsModel", "frame", "(IIII)V"⟩]
def tw_16 : List Cond := [Cond.instanceMethod ⟨"DrawingMachineModel$PlaceTestsModel", "frame", "(IIII)V"⟩, Cond.selects "DrawingMachineModel$PlaceTestsModel" ⟨"DrawingMachineModel$PlaceTestsModel", "frame", "(IIII)V"⟩ ⟨"DrawingMachineModel$PlaceTestsModel", "frame", "(IIII)V"⟩, Cond.code ⟨"DrawingMachineModel$PlaceTestsModel", "frame", "(IIII)V"⟩ prog_17_method_4_code 6 none, Cond.code ⟨"DrawingMachineModel", "word", "(II)I"⟩ prog_14_method_6_code 3 (Option.some .int), Cond.constantLong "DrawingMachineModel" 105 (4095 : Int64), Cond.methodLink "DrawingMachineModel" 107 ⟨"DrawingMachineModel$DrawCommandsModel", "word", "(II)I"⟩, Cond.instanceMethod ⟨"DrawingMachineModel$DrawCommandsModel", "word", "(II)I"⟩, Cond.selects "DrawingMachineModel$DrawCommandsModel" ⟨"DrawingMachineModel$DrawCommandsModel", "word", "(II)I"⟩ ⟨"DrawingMachineModel$DrawCommandsModel", "word", "(II)I"⟩, Cond.code ⟨"DrawingMachineModel$DrawCommandsModel", "word", "(II)I"⟩ prog_15_method_13_code 4 (Option.some .int), Cond.code ⟨"DrawingMachineModel", "look", "(I)I"⟩ prog_14_method_7_code 2 (Option.some .int), Cond.code ⟨"DrawingMachineModel", "feed", "(IIIII)I"⟩ prog_14_method_8_code 6 (Option.some .int), Cond.methodLink "DrawingMachineModel" 114 ⟨"DrawingMachineModel$DrawCommandsModel", "put", "(I)I"⟩, Cond.instanceMethod ⟨"DrawingMachineModel$DrawCommandsModel", "put", "(I)I"⟩, Cond.selects "DrawingMachineModel$DrawCommandsModel" ⟨"DrawingMachineModel$DrawCommandsModel", "put", "(I)I"⟩ ⟨"DrawingMachineModel$DrawCommandsModel", "put", "(I)I"⟩, Cond.code ⟨"DrawingMachineModel$DrawCommandsModel", "put", "(I)I"⟩ prog_15_method_15_code 2 (Option.some .int), Cond.code ⟨"DrawingMachineModel", "end", "(I)V"⟩ prog_14_method_9_code 2 none, Cond.methodLink "DrawingMachineModel" 118 ⟨"DrawingMachineModel$DrawCommandsModel", "begin", "(Z)V"⟩, Cond.instanceMethod ⟨"DrawingMachineModel$DrawCommandsModel", "begin", "(Z)V"⟩, Cond.selects "DrawingMachineModel$DrawCommandsModel" ⟨"DrawingMachineModel$DrawCommandsModel", "begin", "(Z)V"⟩ ⟨"DrawingMachineModel$DrawCommandsModel", "begin", "(Z)V"⟩, Cond.code ⟨"DrawingMachineModel$DrawCommandsModel", "begin", "(Z)V"⟩ prog_15_method_18_code 2 none, Cond.fieldLink "DrawingMachineModel" 122 "DrawingMachineModel" "work" "J", Cond.code ⟨"DrawingMachineModel", "begin", "(Z)V"⟩ prog_14_method_10_code 2 none, Cond.code ⟨"DrawingMachineModel", "kept", "(III)I"⟩ prog_14_method_11_code 4 (Option.some .int), Cond.static ⟨"DrawingMachineModel$DrawCommandsModel", "rowOf", "(II)I"⟩, Cond.code ⟨"DrawingMachineModel$DrawCommandsModel", "rowOf", "(II)I"⟩ prog_15_method_11_code 2 (Option.some .int), Cond.code ⟨"DrawingMachineModel", "run", "(I)I"⟩ prog_14_method_12_code 3 (Option.some .int), Cond.methodLink "DrawingMachineModel" 136 ⟨"DrawingMachineModel", "step", "()Z"⟩, Cond.instanceMethod ⟨"DrawingMachineModel", "step", "()Z"⟩, Cond.code ⟨"DrawingMachineModel", "step", "()Z"⟩ prog_14_method_13_code 2 (Option.some .boolean), Cond.methodLink "DrawingMachineModel" 140 ⟨"DrawingMachineModel", "kept", "(III)I"⟩, Cond.instanceMethod ⟨"DrawingMachineModel", "kept", "(III)I"⟩, Cond.methodLink "DrawingMachineModel" 143 ⟨"DrawingMachineModel$DrawCommandsModel", "next", "()I"⟩, Cond.instanceMethod ⟨"DrawingMachineModel$DrawCommandsModel", "next", "()I"⟩, Cond.selects "DrawingMachineModel$DrawCommandsModel" ⟨"DrawingMachineModel$DrawCommandsModel", "next", "()I"⟩ ⟨"DrawingMachineModel$DrawCommandsModel", "next", "()I"⟩, Cond.code ⟨"DrawingMachineModel$DrawCommandsModel", "next", "()I"⟩ prog_15_method_26_code 4 (Option.some .int), Cond.methodLink "DrawingMachineModel" 147 ⟨"DrawingMachineModel", "settle", "()V"⟩, Cond.methodLink "DrawingMachineModel" 153 ⟨"DrawingMachineModel$PlaceTestsModel", "clear", "(IIII)I"⟩, Cond.methodLink "DrawingMachineModel" 157 ⟨"DrawingMachineModel", "program", "(LDrawingMachineModel$ShaderMachineModel;Z)Z"⟩, Cond.methodLink "DrawingMachineModel" 161 ⟨"DrawingMachineModel", "isMuch", "()Z"⟩, Cond.methodLink "DrawingMachineModel" 164 ⟨"DrawingMachineModel", "no", "(I)Z"⟩]
def tw_17 : List Cond := [Cond.methodLink "DrawingMachineModel" 168 ⟨"DrawingMachineModel", "draw", "(IIZ)V"⟩, Cond.methodLink "DrawingMachineModel" 172 ⟨"DrawingMachineModel", "copy", "()V"⟩, Cond.code ⟨"DrawingMachineModel", "about", "(I)I"⟩ prog_14_method_28_code 2 (Option.some .int), Cond.constantLong "DrawingMachineModel" 362 (8 : Int64), Cond.fieldLink "DrawingMachineModel" 182 "DrawingMachineModel" "fault" "I", Cond.methodLink "DrawingMachineModel" 364 ⟨"DrawingMachineModel$DrawCommandsModel", "about", "(I)I"⟩, Cond.instanceMethod ⟨"DrawingMachineModel$DrawCommandsModel", "about", "(I)I"⟩, Cond.selects "DrawingMachineModel$DrawCommandsModel" ⟨"DrawingMachineModel$DrawCommandsModel", "about", "(I)I"⟩ ⟨"DrawingMachineModel$DrawCommandsModel", "about", "(I)I"⟩, Cond.code ⟨"DrawingMachineModel$DrawCommandsModel", "about", "(I)I"⟩ prog_15_method_31_code 2 (Option.some .int), Cond.code ⟨"DrawingMachineModel", "at", "(III)I"⟩ prog_14_method_29_code 5 (Option.some .int), Cond.constantLong "DrawingMachineModel" 367 (2 : Int64), Cond.instanceMethod ⟨"DrawingMachineModel$PlaceTestsModel", "show", "(II)I"⟩, Cond.code ⟨"DrawingMachineModel$PlaceTestsModel", "show", "(II)I"⟩ prog_17_method_27_code 5 (Option.some .int), Cond.code ⟨"DrawingMachineModel", "sum", "(I)I"⟩ prog_14_method_30_code 2 (Option.some .int), Cond.methodLink "DrawingMachineModel" 369 ⟨"DrawingMachineModel$PlaceTestsModel", "sum", "(I)I"⟩, Cond.instanceMethod ⟨"DrawingMachineModel$PlaceTestsModel", "sum", "(I)I"⟩, Cond.selects "DrawingMachineModel$PlaceTestsModel" ⟨"DrawingMachineModel$PlaceTestsModel", "sum", "(I)I"⟩ ⟨"DrawingMachineModel$PlaceTestsModel", "sum", "(I)I"⟩, Cond.code ⟨"DrawingMachineModel$PlaceTestsModel", "sum", "(I)I"⟩ prog_17_method_30_code 4 (Option.some .int), Cond.code ⟨"DrawingMachineModel", "query", "(I)I"⟩ prog_14_method_31_code 2 (Option.some .int), Cond.constantLong "DrawingMachineModel" 372 (7 : Int64), Cond.code ⟨"DrawingMachineModel", "count", "(I)I"⟩ prog_14_method_32_code 2 (Option.some .int), Cond.methodLink "DrawingMachineModel$DrawCommandsModel" 110 ⟨"DrawingMachineModel$DrawCommandsModel", "many", "(I)I"⟩, Cond.static ⟨"DrawingMachineModel$DrawCommandsModel", "many", "(I)I"⟩, Cond.code ⟨"DrawingMachineModel$DrawCommandsModel", "many", "(I)I"⟩ prog_15_method_10_code 1 (Option.some .int), Cond.methodLink "DrawingMachineModel$DrawCommandsModel" 113 ⟨"DrawingMachineModel$DrawCommandsModel", "rowOf", "(II)I"⟩, Cond.constant "DrawingMachineModel$DrawCommandsModel" 117 (16777215 : Int32), Cond.methodLink "DrawingMachineModel$DrawCommandsModel" 106 ⟨"DrawingMachineModel$DrawCommandsModel", "count", "(I)I"⟩, Cond.static ⟨"DrawingMachineModel$DrawCommandsModel", "count", "(I)I"⟩, Cond.code ⟨"DrawingMachineModel$DrawCommandsModel", "count", "(I)I"⟩ prog_15_method_4_code 1 (Option.some .int), Cond.code ⟨"DrawingMachineModel$DrawCommandsModel", "refuse", "(Z)Z"⟩ prog_15_method_2_code 2 (Option.some .boolean), Cond.fieldLink "DrawingMachineModel$DrawCommandsModel" 44 "DrawingMachineModel$DrawCommandsModel" "thrown" "I", Cond.code ⟨"DrawingMachineModel$DrawCommandsModel", "in", "(JJJ)Z"⟩ prog_15_method_3_code 6 (Option.some .boolean), Cond.constantLong "DrawingMachineModel$DrawCommandsModel" 118 (4095 : Int64), Cond.methodLink "DrawingMachineModel$DrawCommandsModel" 51 ⟨"DrawingMachineModel$DrawCommandsModel", "in", "(JJJ)Z"⟩, Cond.static ⟨"DrawingMachineModel$DrawCommandsModel", "in", "(JJJ)Z"⟩, Cond.methodLink "DrawingMachineModel$DrawCommandsModel" 120 ⟨"DrawingMachineModel$DrawCommandsModel", "refuse", "(Z)Z"⟩, Cond.instanceMethod ⟨"DrawingMachineModel$DrawCommandsModel", "refuse", "(Z)Z"⟩, Cond.constantLong "DrawingMachineModel$DrawCommandsModel" 75 (128 : Int64), Cond.fieldLink "DrawingMachineModel$DrawCommandsModel" 124 "DrawingMachineModel$DrawCommandsModel" "size" "I", Cond.code ⟨"DrawingMachineModel$DrawCommandsModel", "anew", "()V"⟩ prog_15_method_16_code 1 none]
def tw_18 : List Cond := [Cond.fieldLink "DrawingMachineModel$DrawCommandsModel" 127 "DrawingMachineModel$DrawCommandsModel" "at" "I", Cond.fieldLink "DrawingMachineModel$DrawCommandsModel" 130 "DrawingMachineModel$DrawCommandsModel" "depth" "I", Cond.fieldLink "DrawingMachineModel$DrawCommandsModel" 133 "DrawingMachineModel$DrawCommandsModel" "over" "Z", Cond.fieldLink "DrawingMachineModel$DrawCommandsModel" 137 "DrawingMachineModel$DrawCommandsModel" "refusal" "I", Cond.fieldLink "DrawingMachineModel$DrawCommandsModel" 140 "DrawingMachineModel$DrawCommandsModel" "done" "I", Cond.fieldLink "DrawingMachineModel$DrawCommandsModel" 143 "DrawingMachineModel$DrawCommandsModel" "arguments" "I", Cond.methodLink "DrawingMachineModel$DrawCommandsModel" 146 ⟨"DrawingMachineModel$DrawCommandsModel", "anew", "()V"⟩, Cond.instanceMethod ⟨"DrawingMachineModel$DrawCommandsModel", "anew", "()V"⟩, Cond.methodLink "DrawingMachineModel$DrawCommandsModel" 175 ⟨"DrawingMachineModel$DrawCommandsModel", "look", "()I"⟩, Cond.instanceMethod ⟨"DrawingMachineModel$DrawCommandsModel", "look", "()I"⟩, Cond.code ⟨"DrawingMachineModel$DrawCommandsModel", "look", "()I"⟩ prog_15_method_25_code 6 (Option.some .int), Cond.methodLink "DrawingMachineModel$DrawCommandsModel" 153 ⟨"DrawingMachineModel$DrawCommandsModel", "read", "(I)I"⟩, Cond.methodLink "DrawingMachineModel$DrawCommandsModel" 179 ⟨"DrawingMachineModel$DrawCommandsModel", "perform", "(I)V"⟩, Cond.instanceMethod ⟨"DrawingMachineModel$DrawCommandsModel", "perform", "(I)V"⟩, Cond.code ⟨"DrawingMachineModel$DrawCommandsModel", "perform", "(I)V"⟩ prog_15_method_27_code 3 none, Cond.methodLink "DrawingMachineModel$DrawCommandsModel" 149 ⟨"DrawingMachineModel$DrawCommandsModel", "isThere", "(I)Z"⟩, Cond.constantLong "DrawingMachineModel$DrawCommandsModel" 160 (25 : Int64), Cond.methodLink "DrawingMachineModel$DrawCommandsModel" 162 ⟨"DrawingMachineModel$DrawCommandsModel", "length", "(I)I"⟩, Cond.methodLink "DrawingMachineModel$DrawCommandsModel" 165 ⟨"DrawingMachineModel$DrawCommandsModel", "may", "(III)Z"⟩, Cond.methodLink "DrawingMachineModel$DrawCommandsModel" 169 ⟨"DrawingMachineModel$DrawCommandsModel", "liesRight", "(I)Z"⟩, Cond.methodLink "DrawingMachineModel$DrawCommandsModel" 172 ⟨"DrawingMachineModel$DrawCommandsModel", "fitsState", "(I)Z"⟩, Cond.methodLink "DrawingMachineModel$DrawCommandsModel" 183 ⟨"DrawingMachineModel$DrawCommandsModel", "keep", "(I)V"⟩, Cond.constantLong "DrawingMachineModel$DrawCommandsModel" 186 (6 : Int64), Cond.code ⟨"DrawingMachineModel$PlaceTestsModel", "refuse", "(ZZ)Z"⟩ prog_17_method_2_code 3 (Option.some .boolean), Cond.fieldLink "DrawingMachineModel$PlaceTestsModel" 60 "DrawingMachineModel$PlaceTestsModel" "thrown" "I", Cond.code ⟨"DrawingMachineModel$PlaceTestsModel", "in", "(III)Z"⟩ prog_17_method_3_code 3 (Option.some .boolean), Cond.methodLink "DrawingMachineModel$PlaceTestsModel" 63 ⟨"DrawingMachineModel$PlaceTestsModel", "in", "(III)Z"⟩, Cond.static ⟨"DrawingMachineModel$PlaceTestsModel", "in", "(III)Z"⟩, Cond.methodLink "DrawingMachineModel$PlaceTestsModel" 67 ⟨"DrawingMachineModel$PlaceTestsModel", "refuse", "(ZZ)Z"⟩, Cond.instanceMethod ⟨"DrawingMachineModel$PlaceTestsModel", "refuse", "(ZZ)Z"⟩, Cond.fieldLink "DrawingMachineModel$PlaceTestsModel" 71 "DrawingMachineModel$PlaceTestsModel" "x0" "I", Cond.fieldLink "DrawingMachineModel$PlaceTestsModel" 74 "DrawingMachineModel$PlaceTestsModel" "y0" "I", Cond.methodLink "DrawingMachineModel$PlaceTestsModel" 133 ⟨"DrawingMachineModel$PlaceTestsModel", "show", "(II)I"⟩, Cond.methodLink "java/util/Arrays" 13 ⟨"java/util/Arrays", "rangeCheck", "(III)V"⟩, Cond.static ⟨"java/util/Arrays", "rangeCheck", "(III)V"⟩, Cond.code ⟨"java/util/Arrays", "rangeCheck", "(III)V"⟩ prog_39_method_30_code 3 none, Cond.classLink "java/util/Arrays" 43 "java/lang/IllegalArgumentException", Cond.classLink "java/util/Arrays" 45 "java/lang/StringBuilder", Cond.methodLink "java/util/Arrays" 47 ⟨"java/lang/StringBuilder", "<init>", "()V"⟩, Cond.methodLink "java/util/Arrays" 50 ⟨"java/lang/StringBuilder", "append", "(Ljava/lang/String;)Ljava/lang/StringBuilder;"⟩]
def tw_19 : List Cond := [Cond.methodLink "java/util/Arrays" 54 ⟨"java/lang/StringBuilder", "append", "(I)Ljava/lang/StringBuilder;"⟩, Cond.methodLink "java/util/Arrays" 61 ⟨"java/lang/StringBuilder", "toString", "()Ljava/lang/String;"⟩, Cond.methodLink "java/util/Arrays" 65 ⟨"java/lang/IllegalArgumentException", "<init>", "(Ljava/lang/String;)V"⟩, Cond.classLink "java/util/Arrays" 68 "java/lang/ArrayIndexOutOfBoundsException", Cond.methodLink "java/util/Arrays" 70 ⟨"java/lang/ArrayIndexOutOfBoundsException", "<init>", "(I)V"⟩, Cond.codeWith ⟨"DrawingMachineLaw", "frame", "(LDrawingMachine;III[J)I"⟩ method_3_code 6 (Option.some .int) [(0, 12, 15, 13)], Cond.methodLink "DrawingMachineLaw" 7 ⟨"DrawingMachine", "frame", "(III)I"⟩, Cond.instanceMethod ⟨"DrawingMachine", "frame", "(III)I"⟩, Cond.selects "DrawingMachine" ⟨"DrawingMachine", "frame", "(III)I"⟩ ⟨"DrawingMachine", "frame", "(III)I"⟩, Cond.codeWith ⟨"DrawingMachineLaw", "word", "(LDrawingMachine;II[J)I"⟩ method_4_code 5 (Option.some .int) [(0, 10, 13, 19)], Cond.methodLink "DrawingMachineLaw" 15 ⟨"DrawingMachine", "word", "(II)I"⟩, Cond.instanceMethod ⟨"DrawingMachine", "word", "(II)I"⟩, Cond.selects "DrawingMachine" ⟨"DrawingMachine", "word", "(II)I"⟩ ⟨"DrawingMachine", "word", "(II)I"⟩, Cond.codeWith ⟨"DrawingMachineLaw", "look", "(LDrawingMachine;I[J)I"⟩ method_5_code 4 (Option.some .int) [(0, 9, 12, 19)], Cond.methodLink "DrawingMachineLaw" 21 ⟨"DrawingMachine", "look", "(I)I"⟩, Cond.instanceMethod ⟨"DrawingMachine", "look", "(I)I"⟩, Cond.selects "DrawingMachine" ⟨"DrawingMachine", "look", "(I)I"⟩ ⟨"DrawingMachine", "look", "(I)I"⟩, Cond.codeWith ⟨"DrawingMachineLaw", "feed", "(LDrawingMachine;IIIII[J)I"⟩ method_6_code 8 (Option.some .int) [(0, 16, 19, 29)], Cond.methodLink "DrawingMachineLaw" 25 ⟨"DrawingMachine", "feed", "(IIIII)I"⟩, Cond.instanceMethod ⟨"DrawingMachine", "feed", "(IIIII)I"⟩, Cond.selects "DrawingMachine" ⟨"DrawingMachine", "feed", "(IIIII)I"⟩ ⟨"DrawingMachine", "feed", "(IIIII)I"⟩, Cond.codeWith ⟨"DrawingMachineLaw", "end", "(LDrawingMachine;I)I"⟩ method_7_code 3 (Option.some .int) [(0, 5, 8, 13)], Cond.methodLink "DrawingMachineLaw" 31 ⟨"DrawingMachine", "end", "(I)V"⟩, Cond.instanceMethod ⟨"DrawingMachine", "end", "(I)V"⟩, Cond.selects "DrawingMachine" ⟨"DrawingMachine", "end", "(I)V"⟩ ⟨"DrawingMachine", "end", "(I)V"⟩, Cond.codeWith ⟨"DrawingMachineLaw", "run", "(LDrawingMachine;I[J)I"⟩ method_8_code 4 (Option.some .int) [(0, 9, 12, 13), (0, 9, 15, 38)], Cond.methodLink "DrawingMachineLaw" 35 ⟨"DrawingMachine", "run", "(I)I"⟩, Cond.instanceMethod ⟨"DrawingMachine", "run", "(I)I"⟩, Cond.selects "DrawingMachine" ⟨"DrawingMachine", "run", "(I)I"⟩ ⟨"DrawingMachine", "run", "(I)I"⟩, Cond.codeWith ⟨"DrawingMachineLaw", "about", "(LDrawingMachine;I[J)I"⟩ method_9_code 4 (Option.some .int) [(0, 9, 12, 13)], Cond.methodLink "DrawingMachineLaw" 40 ⟨"DrawingMachine", "about", "(I)I"⟩, Cond.instanceMethod ⟨"DrawingMachine", "about", "(I)I"⟩, Cond.selects "DrawingMachine" ⟨"DrawingMachine", "about", "(I)I"⟩ ⟨"DrawingMachine", "about", "(I)I"⟩, Cond.codeWith ⟨"DrawingMachineLaw", "at", "(LDrawingMachine;III[J)I"⟩ method_10_code 6 (Option.some .int) [(0, 12, 15, 13), (0, 12, 19, 19)], Cond.methodLink "DrawingMachineLaw" 43 ⟨"DrawingMachine", "at", "(III)I"⟩, Cond.instanceMethod ⟨"DrawingMachine", "at", "(III)I"⟩, Cond.selects "DrawingMachine" ⟨"DrawingMachine", "at", "(III)I"⟩ ⟨"DrawingMachine", "at", "(III)I"⟩, Cond.codeWith ⟨"DrawingMachineLaw", "sum", "(LDrawingMachine;I[J)I"⟩ method_11_code 4 (Option.some .int) [(0, 9, 12, 13)], Cond.methodLink "DrawingMachineLaw" 46 ⟨"DrawingMachine", "sum", "(I)I"⟩, Cond.instanceMethod ⟨"DrawingMachine", "sum", "(I)I"⟩]
def tw_20 : List Cond := [Cond.selects "DrawingMachine" ⟨"DrawingMachine", "sum", "(I)I"⟩ ⟨"DrawingMachine", "sum", "(I)I"⟩, Cond.codeWith ⟨"DrawingMachineLaw", "query", "(LDrawingMachine;I[J)I"⟩ method_12_code 4 (Option.some .int) [(0, 9, 12, 13)], Cond.methodLink "DrawingMachineLaw" 49 ⟨"DrawingMachine", "query", "(I)I"⟩, Cond.instanceMethod ⟨"DrawingMachine", "query", "(I)I"⟩, Cond.selects "DrawingMachine" ⟨"DrawingMachine", "query", "(I)I"⟩ ⟨"DrawingMachine", "query", "(I)I"⟩, Cond.codeWith ⟨"DrawingMachineLaw", "count", "(LDrawingMachine;I[J)I"⟩ method_13_code 4 (Option.some .int) [(0, 9, 12, 13)], Cond.methodLink "DrawingMachineLaw" 52 ⟨"DrawingMachine", "count", "(I)I"⟩, Cond.instanceMethod ⟨"DrawingMachine", "count", "(I)I"⟩, Cond.selects "DrawingMachine" ⟨"DrawingMachine", "count", "(I)I"⟩ ⟨"DrawingMachine", "count", "(I)I"⟩, Cond.classLink "DrawingMachineLaw" 13 "java/lang/IllegalArgumentException", Cond.classLink "DrawingMachineLaw" 19 "java/lang/IndexOutOfBoundsException", Cond.classLink "DrawingMachineLaw" 29 "java/lang/UnsupportedOperationException", Cond.classLink "DrawingMachineLaw" 38 "java/lang/IllegalStateException", Cond.classLink "DrawingMachineLaw" 8 "DrawingMachine", Cond.methodLink "DrawingMachineLaw" 55 ⟨"DrawingMachine", "<init>", "()V"⟩, Cond.instanceMethod ⟨"DrawingMachine", "<init>", "()V"⟩, Cond.classLink "DrawingMachineLaw" 56 "DrawingMachineModel", Cond.methodLink "DrawingMachineLaw" 58 ⟨"DrawingMachineModel", "<init>", "()V"⟩, Cond.instanceMethod ⟨"DrawingMachineModel", "<init>", "()V"⟩, Cond.methodLink "DrawingMachineLaw" 59 ⟨"DrawingMachineLaw", "frame", "(LDrawingMachine;III[J)I"⟩, Cond.static ⟨"DrawingMachineLaw", "frame", "(LDrawingMachine;III[J)I"⟩, Cond.methodLink "DrawingMachineLaw" 64 ⟨"DrawingMachineModel", "frame", "(III)I"⟩, Cond.instanceMethod ⟨"DrawingMachineModel", "frame", "(III)I"⟩, Cond.selects "DrawingMachineModel" ⟨"DrawingMachineModel", "frame", "(III)I"⟩ ⟨"DrawingMachineModel", "frame", "(III)I"⟩, Cond.methodLink "DrawingMachineLaw" 65 ⟨"DrawingMachineModel", "thrown", "()I"⟩, Cond.instanceMethod ⟨"DrawingMachineModel", "thrown", "()I"⟩, Cond.selects "DrawingMachineModel" ⟨"DrawingMachineModel", "thrown", "()I"⟩ ⟨"DrawingMachineModel", "thrown", "()I"⟩, Cond.methodLink "DrawingMachineLaw" 69 ⟨"DrawingMachineLaw", "word", "(LDrawingMachine;II[J)I"⟩, Cond.static ⟨"DrawingMachineLaw", "word", "(LDrawingMachine;II[J)I"⟩, Cond.methodLink "DrawingMachineLaw" 72 ⟨"DrawingMachineModel", "word", "(II)I"⟩, Cond.instanceMethod ⟨"DrawingMachineModel", "word", "(II)I"⟩, Cond.selects "DrawingMachineModel" ⟨"DrawingMachineModel", "word", "(II)I"⟩ ⟨"DrawingMachineModel", "word", "(II)I"⟩, Cond.methodLink "DrawingMachineLaw" 73 ⟨"DrawingMachineLaw", "look", "(LDrawingMachine;I[J)I"⟩, Cond.static ⟨"DrawingMachineLaw", "look", "(LDrawingMachine;I[J)I"⟩, Cond.methodLink "DrawingMachineLaw" 76 ⟨"DrawingMachineModel", "look", "(I)I"⟩, Cond.instanceMethod ⟨"DrawingMachineModel", "look", "(I)I"⟩, Cond.selects "DrawingMachineModel" ⟨"DrawingMachineModel", "look", "(I)I"⟩ ⟨"DrawingMachineModel", "look", "(I)I"⟩, Cond.methodLink "DrawingMachineLaw" 77 ⟨"DrawingMachineLaw", "feed", "(LDrawingMachine;IIIII[J)I"⟩, Cond.static ⟨"DrawingMachineLaw", "feed", "(LDrawingMachine;IIIII[J)I"⟩, Cond.methodLink "DrawingMachineLaw" 80 ⟨"DrawingMachineModel", "feed", "(IIIII)I"⟩]
def tw_21 : List Cond := [Cond.instanceMethod ⟨"DrawingMachineModel", "feed", "(IIIII)I"⟩, Cond.selects "DrawingMachineModel" ⟨"DrawingMachineModel", "feed", "(IIIII)I"⟩ ⟨"DrawingMachineModel", "feed", "(IIIII)I"⟩, Cond.methodLink "DrawingMachineLaw" 81 ⟨"DrawingMachineLaw", "end", "(LDrawingMachine;I)I"⟩, Cond.static ⟨"DrawingMachineLaw", "end", "(LDrawingMachine;I)I"⟩, Cond.methodLink "DrawingMachineLaw" 84 ⟨"DrawingMachineModel", "end", "(I)V"⟩, Cond.instanceMethod ⟨"DrawingMachineModel", "end", "(I)V"⟩, Cond.selects "DrawingMachineModel" ⟨"DrawingMachineModel", "end", "(I)V"⟩ ⟨"DrawingMachineModel", "end", "(I)V"⟩, Cond.methodLink "DrawingMachineLaw" 85 ⟨"DrawingMachine", "begin", "(Z)V"⟩, Cond.instanceMethod ⟨"DrawingMachine", "begin", "(Z)V"⟩, Cond.selects "DrawingMachine" ⟨"DrawingMachine", "begin", "(Z)V"⟩ ⟨"DrawingMachine", "begin", "(Z)V"⟩, Cond.methodLink "DrawingMachineLaw" 89 ⟨"DrawingMachineModel", "begin", "(Z)V"⟩, Cond.instanceMethod ⟨"DrawingMachineModel", "begin", "(Z)V"⟩, Cond.selects "DrawingMachineModel" ⟨"DrawingMachineModel", "begin", "(Z)V"⟩ ⟨"DrawingMachineModel", "begin", "(Z)V"⟩, Cond.methodLink "DrawingMachineLaw" 90 ⟨"DrawingMachineLaw", "run", "(LDrawingMachine;I[J)I"⟩, Cond.static ⟨"DrawingMachineLaw", "run", "(LDrawingMachine;I[J)I"⟩, Cond.methodLink "DrawingMachineLaw" 92 ⟨"DrawingMachineModel", "run", "(I)I"⟩, Cond.instanceMethod ⟨"DrawingMachineModel", "run", "(I)I"⟩, Cond.selects "DrawingMachineModel" ⟨"DrawingMachineModel", "run", "(I)I"⟩ ⟨"DrawingMachineModel", "run", "(I)I"⟩, Cond.methodLink "DrawingMachineLaw" 93 ⟨"DrawingMachineLaw", "about", "(LDrawingMachine;I[J)I"⟩, Cond.static ⟨"DrawingMachineLaw", "about", "(LDrawingMachine;I[J)I"⟩, Cond.methodLink "DrawingMachineLaw" 95 ⟨"DrawingMachineModel", "about", "(I)I"⟩, Cond.instanceMethod ⟨"DrawingMachineModel", "about", "(I)I"⟩, Cond.selects "DrawingMachineModel" ⟨"DrawingMachineModel", "about", "(I)I"⟩ ⟨"DrawingMachineModel", "about", "(I)I"⟩, Cond.methodLink "DrawingMachineLaw" 96 ⟨"DrawingMachineLaw", "at", "(LDrawingMachine;III[J)I"⟩, Cond.static ⟨"DrawingMachineLaw", "at", "(LDrawingMachine;III[J)I"⟩, Cond.methodLink "DrawingMachineLaw" 98 ⟨"DrawingMachineModel", "at", "(III)I"⟩, Cond.instanceMethod ⟨"DrawingMachineModel", "at", "(III)I"⟩, Cond.selects "DrawingMachineModel" ⟨"DrawingMachineModel", "at", "(III)I"⟩ ⟨"DrawingMachineModel", "at", "(III)I"⟩, Cond.methodLink "DrawingMachineLaw" 99 ⟨"DrawingMachineLaw", "sum", "(LDrawingMachine;I[J)I"⟩, Cond.static ⟨"DrawingMachineLaw", "sum", "(LDrawingMachine;I[J)I"⟩, Cond.methodLink "DrawingMachineLaw" 101 ⟨"DrawingMachineModel", "sum", "(I)I"⟩, Cond.instanceMethod ⟨"DrawingMachineModel", "sum", "(I)I"⟩, Cond.selects "DrawingMachineModel" ⟨"DrawingMachineModel", "sum", "(I)I"⟩ ⟨"DrawingMachineModel", "sum", "(I)I"⟩, Cond.methodLink "DrawingMachineLaw" 102 ⟨"DrawingMachineLaw", "query", "(LDrawingMachine;I[J)I"⟩, Cond.static ⟨"DrawingMachineLaw", "query", "(LDrawingMachine;I[J)I"⟩, Cond.methodLink "DrawingMachineLaw" 104 ⟨"DrawingMachineModel", "query", "(I)I"⟩, Cond.instanceMethod ⟨"DrawingMachineModel", "query", "(I)I"⟩, Cond.selects "DrawingMachineModel" ⟨"DrawingMachineModel", "query", "(I)I"⟩ ⟨"DrawingMachineModel", "query", "(I)I"⟩, Cond.methodLink "DrawingMachineLaw" 105 ⟨"DrawingMachineLaw", "count", "(LDrawingMachine;I[J)I"⟩, Cond.static ⟨"DrawingMachineLaw", "count", "(LDrawingMachine;I[J)I"⟩]
def tw_22 : List Cond := [Cond.methodLink "DrawingMachineLaw" 107 ⟨"DrawingMachineModel", "count", "(I)I"⟩, Cond.instanceMethod ⟨"DrawingMachineModel", "count", "(I)I"⟩, Cond.selects "DrawingMachineModel" ⟨"DrawingMachineModel", "count", "(I)I"⟩ ⟨"DrawingMachineModel", "count", "(I)I"⟩, Cond.initialized "java/lang/Exception", Cond.initialized "java/lang/RuntimeException", Cond.initialized "java/lang/IllegalArgumentException", Cond.initialized "java/lang/IndexOutOfBoundsException", Cond.instantiable "java/lang/IllegalArgumentException" 6, Cond.selects "java/lang/IllegalArgumentException" ⟨"java/lang/Throwable", "fillInStackTrace", "(I)Ljava/lang/Throwable;"⟩ ⟨"java/lang/Throwable", "fillInStackTrace", "(I)Ljava/lang/Throwable;"⟩, Cond.selects "java/lang/IllegalArgumentException" ⟨"java/lang/Throwable", "fillInStackTrace", "()Ljava/lang/Throwable;"⟩ ⟨"java/lang/Throwable", "fillInStackTrace", "()Ljava/lang/Throwable;"⟩, Cond.lays "java/lang/IllegalArgumentException" "java/lang/Throwable" "cause" "Ljava/lang/Throwable;", Cond.lays "java/lang/Throwable" "java/lang/Throwable" "cause" "Ljava/lang/Throwable;", Cond.lays "java/lang/IllegalArgumentException" "java/lang/Throwable" "stackTrace" "[Ljava/lang/StackTraceElement;", Cond.lays "java/lang/Throwable" "java/lang/Throwable" "stackTrace" "[Ljava/lang/StackTraceElement;", Cond.lays "java/lang/IllegalArgumentException" "java/lang/Throwable" "suppressedExceptions" "Ljava/util/List;", Cond.lays "java/lang/Throwable" "java/lang/Throwable" "suppressedExceptions" "Ljava/util/List;", Cond.lays "java/lang/IllegalArgumentException" "java/lang/Throwable" "detailMessage" "Ljava/lang/String;", Cond.lays "java/lang/Throwable" "java/lang/Throwable" "detailMessage" "Ljava/lang/String;", Cond.lays "java/lang/IllegalArgumentException" "java/lang/Throwable" "backtrace" "Ljava/lang/Object;", Cond.lays "java/lang/Throwable" "java/lang/Throwable" "backtrace" "Ljava/lang/Object;", Cond.fieldLink "java/lang/Throwable" 198 "java/lang/Throwable" "backtrace" "Ljava/lang/Object;", Cond.superclass "java/lang/Throwable" "java/lang/Object", Cond.instanceMethod ⟨"java/lang/Throwable", "<init>", "()V"⟩, Cond.code ⟨"java/lang/Throwable", "<init>", "()V"⟩ prog_37_method_1_code 1 none, Cond.methodLink "java/lang/Throwable" 1 ⟨"java/lang/Object", "<init>", "()V"⟩, Cond.fieldLink "java/lang/Throwable" 13 "java/lang/Throwable" "UNASSIGNED_STACK" "[Ljava/lang/StackTraceElement;", Cond.fieldLink "java/lang/Throwable" 20 "java/lang/Throwable" "SUPPRESSED_SENTINEL" "Ljava/util/List;", Cond.methodLink "java/lang/Throwable" 27 ⟨"java/lang/Throwable", "fillInStackTrace", "()Ljava/lang/Throwable;"⟩, Cond.instanceMethod ⟨"java/lang/Throwable", "fillInStackTrace", "()Ljava/lang/Throwable;"⟩, Cond.selects "java/lang/IllegalStateException" ⟨"java/lang/Throwable", "fillInStackTrace", "()Ljava/lang/Throwable;"⟩ ⟨"java/lang/Throwable", "fillInStackTrace", "()Ljava/lang/Throwable;"⟩, Cond.selects "java/lang/IndexOutOfBoundsException" ⟨"java/lang/Throwable", "fillInStackTrace", "()Ljava/lang/Throwable;"⟩ ⟨"java/lang/Throwable", "fillInStackTrace", "()Ljava/lang/Throwable;"⟩, Cond.codeSync ⟨"java/lang/Throwable", "fillInStackTrace", "()Ljava/lang/Throwable;"⟩ prog_37_method_18_code 1 (Option.some (.object "java/lang/Throwable")), Cond.methodLink "java/lang/Throwable" 202 ⟨"java/lang/Throwable", "fillInStackTrace", "(I)Ljava/lang/Throwable;"⟩, Cond.instanceMethod ⟨"java/lang/Throwable", "fillInStackTrace", "(I)Ljava/lang/Throwable;"⟩, Cond.native ⟨"java/lang/Throwable", "fillInStackTrace", "(I)Ljava/lang/Throwable;"⟩, Cond.instanceMethod ⟨"java/lang/IllegalArgumentException", "<init>", "(Ljava/lang/String;)V"⟩, Cond.code ⟨"java/lang/IllegalArgumentException", "<init>", "(Ljava/lang/String;)V"⟩ prog_25_method_2_code 2 none, Cond.methodLink "java/lang/IllegalArgumentException" 7 ⟨"java/lang/RuntimeException", "<init>", "(Ljava/lang/String;)V"⟩, Cond.instanceMethod ⟨"java/lang/RuntimeException", "<init>", "(Ljava/lang/String;)V"⟩, Cond.code ⟨"java/lang/RuntimeException", "<init>", "(Ljava/lang/String;)V"⟩ prog_31_method_2_code 2 none]
def tw_23 : List Cond := [Cond.methodLink "java/lang/RuntimeException" 7 ⟨"java/lang/Exception", "<init>", "(Ljava/lang/String;)V"⟩, Cond.instanceMethod ⟨"java/lang/Exception", "<init>", "(Ljava/lang/String;)V"⟩, Cond.code ⟨"java/lang/Exception", "<init>", "(Ljava/lang/String;)V"⟩ prog_24_method_2_code 2 none, Cond.methodLink "java/lang/Exception" 7 ⟨"java/lang/Throwable", "<init>", "(Ljava/lang/String;)V"⟩, Cond.instanceMethod ⟨"java/lang/Throwable", "<init>", "(Ljava/lang/String;)V"⟩, Cond.code ⟨"java/lang/Throwable", "<init>", "(Ljava/lang/String;)V"⟩ prog_37_method_2_code 2 none, Cond.fieldLink "java/lang/Throwable" 31 "java/lang/Throwable" "detailMessage" "Ljava/lang/String;", Cond.fieldLink "java/lang/Throwable" 7 "java/lang/Throwable" "cause" "Ljava/lang/Throwable;", Cond.fieldLink "java/lang/Throwable" 17 "java/lang/Throwable" "stackTrace" "[Ljava/lang/StackTraceElement;", Cond.fieldLink "java/lang/Throwable" 24 "java/lang/Throwable" "suppressedExceptions" "Ljava/util/List;", Cond.lays "java/lang/IllegalArgumentException" "java/lang/Throwable" "depth" "I", Cond.instanceMethod ⟨"java/lang/IndexOutOfBoundsException", "<init>", "(Ljava/lang/String;)V"⟩, Cond.code ⟨"java/lang/IndexOutOfBoundsException", "<init>", "(Ljava/lang/String;)V"⟩ prog_27_method_2_code 2 none, Cond.methodLink "java/lang/IndexOutOfBoundsException" 7 ⟨"java/lang/RuntimeException", "<init>", "(Ljava/lang/String;)V"⟩, Cond.lays "java/lang/ArrayIndexOutOfBoundsException" "java/lang/Throwable" "backtrace" "Ljava/lang/Object;", Cond.lays "java/lang/ArrayIndexOutOfBoundsException" "java/lang/Throwable" "detailMessage" "Ljava/lang/String;", Cond.lays "java/lang/ArrayIndexOutOfBoundsException" "java/lang/Throwable" "cause" "Ljava/lang/Throwable;", Cond.lays "java/lang/ArrayIndexOutOfBoundsException" "java/lang/Throwable" "stackTrace" "[Ljava/lang/StackTraceElement;", Cond.lays "java/lang/ArrayIndexOutOfBoundsException" "java/lang/Throwable" "depth" "I", Cond.lays "java/lang/ArrayIndexOutOfBoundsException" "java/lang/Throwable" "suppressedExceptions" "Ljava/util/List;", Cond.instantiable "java/lang/IndexOutOfBoundsException" 6, Cond.selects "java/lang/IndexOutOfBoundsException" ⟨"java/lang/Throwable", "fillInStackTrace", "(I)Ljava/lang/Throwable;"⟩ ⟨"java/lang/Throwable", "fillInStackTrace", "(I)Ljava/lang/Throwable;"⟩, Cond.lays "java/lang/IndexOutOfBoundsException" "java/lang/Throwable" "cause" "Ljava/lang/Throwable;", Cond.lays "java/lang/IndexOutOfBoundsException" "java/lang/Throwable" "stackTrace" "[Ljava/lang/StackTraceElement;", Cond.lays "java/lang/IndexOutOfBoundsException" "java/lang/Throwable" "suppressedExceptions" "Ljava/util/List;", Cond.lays "java/lang/IndexOutOfBoundsException" "java/lang/Throwable" "detailMessage" "Ljava/lang/String;", Cond.lays "java/lang/IndexOutOfBoundsException" "java/lang/Throwable" "backtrace" "Ljava/lang/Object;", Cond.lays "java/lang/IndexOutOfBoundsException" "java/lang/Throwable" "depth" "I", Cond.lays "java/lang/UnsupportedOperationException" "java/lang/Throwable" "cause" "Ljava/lang/Throwable;", Cond.lays "java/lang/UnsupportedOperationException" "java/lang/Throwable" "stackTrace" "[Ljava/lang/StackTraceElement;", Cond.lays "java/lang/UnsupportedOperationException" "java/lang/Throwable" "suppressedExceptions" "Ljava/util/List;", Cond.lays "java/lang/UnsupportedOperationException" "java/lang/Throwable" "detailMessage" "Ljava/lang/String;", Cond.lays "java/lang/UnsupportedOperationException" "java/lang/Throwable" "backtrace" "Ljava/lang/Object;", Cond.lays "java/lang/UnsupportedOperationException" "java/lang/Throwable" "depth" "I", Cond.selects "java/lang/IllegalStateException" ⟨"java/lang/Throwable", "fillInStackTrace", "(I)Ljava/lang/Throwable;"⟩ ⟨"java/lang/Throwable", "fillInStackTrace", "(I)Ljava/lang/Throwable;"⟩, Cond.lays "java/lang/IllegalStateException" "java/lang/Throwable" "cause" "Ljava/lang/Throwable;", Cond.lays "java/lang/IllegalStateException" "java/lang/Throwable" "stackTrace" "[Ljava/lang/StackTraceElement;", Cond.lays "java/lang/IllegalStateException" "java/lang/Throwable" "suppressedExceptions" "Ljava/util/List;", Cond.lays "java/lang/IllegalStateException" "java/lang/Throwable" "detailMessage" "Ljava/lang/String;", Cond.lays "java/lang/IllegalStateException" "java/lang/Throwable" "backtrace" "Ljava/lang/Object;"]
def tw_24 : List Cond := [Cond.lays "java/lang/IllegalStateException" "java/lang/Throwable" "depth" "I", Cond.arrayClass .int, Cond.arrayClass .int, Cond.arrayClass .int, Cond.arrayClass .int, Cond.arrayClass .int, Cond.arrayClass .int, Cond.arrayClass .int, Cond.arrayClass .int, Cond.arrayClass .int, Cond.arrayClass .int, Cond.arrayClass .int, Cond.arrayClass .int, Cond.arrayClass .int, Cond.arrayClass .int, Cond.arrayClass .int, Cond.arrayClass .int, Cond.arrayClass .int, Cond.arrayClass .int, Cond.arrayClass .int, Cond.arrayClass .int, Cond.arrayClass .int, Cond.arrayClass .int, Cond.arrayClass .int, Cond.arrayClass .int, Cond.arrayClass .int, Cond.arrayClass .int, Cond.arrayClass .int, Cond.arrayClass .int, Cond.arrayClass .int, Cond.arrayClass .int, Cond.arrayClass .int, Cond.arrayClass .int, Cond.arrayClass .int, Cond.arrayClass .int, Cond.arrayClass .int, Cond.arrayClass .int, Cond.arrayClass .int, Cond.arrayClass .int, Cond.arrayClass .int]
def tw_25 : List Cond := [Cond.selects "DrawingMachine" ⟨"DrawingMachine", "beginAnew", "()V"⟩ ⟨"DrawingMachine", "beginAnew", "()V"⟩, Cond.selects "DrawingMachine" ⟨"DrawingMachine", "refusal", "()I"⟩ ⟨"DrawingMachine", "refusal", "()I"⟩, Cond.selects "DrawingMachine" ⟨"DrawingMachine", "isDraw", "()Z"⟩ ⟨"DrawingMachine", "isDraw", "()Z"⟩, Cond.selects "DrawingMachine" ⟨"DrawingMachine", "carryOut", "()I"⟩ ⟨"DrawingMachine", "carryOut", "()I"⟩, Cond.selects "DrawingMachine" ⟨"DrawingMachine", "placesAreThere", "()Z"⟩ ⟨"DrawingMachine", "placesAreThere", "()Z"⟩, Cond.selects "DrawingMachine" ⟨"DrawingMachine", "stateAllows", "()Z"⟩ ⟨"DrawingMachine", "stateAllows", "()Z"⟩, Cond.selects "DrawingMachine$Course" ⟨"DrawingMachine$Course", "source", "()[I"⟩ ⟨"DrawingMachine$Course", "source", "()[I"⟩, Cond.selects "DrawingMachine$Course" ⟨"DrawingMachine$Course", "limit", "()I"⟩ ⟨"DrawingMachine$Course", "limit", "()I"⟩, Cond.selects "DrawingMachineModel$DrawCommandsModel" ⟨"DrawingMachineModel$DrawCommandsModel", "nothingTold", "()V"⟩ ⟨"DrawingMachineModel$DrawCommandsModel", "nothingTold", "()V"⟩, Cond.selects "DrawingMachineModel" ⟨"DrawingMachineModel", "refuse", "(ZZ)Z"⟩ ⟨"DrawingMachineModel", "refuse", "(ZZ)Z"⟩, Cond.selects "DrawingMachineModel" ⟨"DrawingMachineModel", "step", "()Z"⟩ ⟨"DrawingMachineModel", "step", "()Z"⟩, Cond.selects "DrawingMachineModel" ⟨"DrawingMachineModel", "kept", "(III)I"⟩ ⟨"DrawingMachineModel", "kept", "(III)I"⟩, Cond.selects "DrawingMachineModel$PlaceTestsModel" ⟨"DrawingMachineModel$PlaceTestsModel", "show", "(II)I"⟩ ⟨"DrawingMachineModel$PlaceTestsModel", "show", "(II)I"⟩, Cond.selects "DrawingMachineModel$DrawCommandsModel" ⟨"DrawingMachineModel$DrawCommandsModel", "refuse", "(Z)Z"⟩ ⟨"DrawingMachineModel$DrawCommandsModel", "refuse", "(Z)Z"⟩, Cond.selects "DrawingMachineModel$DrawCommandsModel" ⟨"DrawingMachineModel$DrawCommandsModel", "anew", "()V"⟩ ⟨"DrawingMachineModel$DrawCommandsModel", "anew", "()V"⟩, Cond.selects "DrawingMachineModel$DrawCommandsModel" ⟨"DrawingMachineModel$DrawCommandsModel", "look", "()I"⟩ ⟨"DrawingMachineModel$DrawCommandsModel", "look", "()I"⟩, Cond.selects "DrawingMachineModel$DrawCommandsModel" ⟨"DrawingMachineModel$DrawCommandsModel", "perform", "(I)V"⟩ ⟨"DrawingMachineModel$DrawCommandsModel", "perform", "(I)V"⟩, Cond.selects "DrawingMachineModel$PlaceTestsModel" ⟨"DrawingMachineModel$PlaceTestsModel", "refuse", "(ZZ)Z"⟩ ⟨"DrawingMachineModel$PlaceTestsModel", "refuse", "(ZZ)Z"⟩]
def tw : List Cond := tw_0 ++ (tw_1 ++ (tw_2 ++ (tw_3 ++ (tw_4 ++ (tw_5 ++ (tw_6 ++ (tw_7 ++ (tw_8 ++ (tw_9 ++ (tw_10 ++ (tw_11 ++ (tw_12 ++ (tw_13 ++ (tw_14 ++ (tw_15 ++ (tw_16 ++ (tw_17 ++ (tw_18 ++ (tw_19 ++ (tw_20 ++ (tw_21 ++ (tw_22 ++ (tw_23 ++ (tw_24 ++ (tw_25)))))))))))))))))))))))))
theorem tw_0_at : tw_0 = ([1, 41, 439, 441, 443, 445, 447, 449, 451, 453, 455, 2, 49, 68, 4, 73, 89, 91, 93, 95, 97, 99, 101, 5, 105, 137, 139, 141, 143, 145, 147, 149, 151, 153, 155, 157, 159, 161, 163, 165] : List Nat).filterMap (fun i => tables_1[i]?) := by decide +kernel
theorem tw_0_ok : ∀ w ∈ tw_0, w ∈ lw_tbl ∧ goodWord w = true := tw_ok1 tw_0_at (by decide +kernel)
theorem tw_1_at : tw_1 = ([6, 169, 183, 185, 187, 189, 191, 193, 195, 7, 200, 385, 387, 389, 391, 393, 395, 397, 399, 401, 8, 206, 246, 248, 250, 252, 254, 256, 258, 260, 262, 9, 212, 223, 225, 227, 229, 231, 233, 10] : List Nat).filterMap (fun i => tables_1[i]?) := by decide +kernel
theorem tw_1_ok : ∀ w ∈ tw_1, w ∈ lw_tbl ∧ goodWord w = true := tw_ok1 tw_1_at (by decide +kernel)
theorem tw_2_at : tw_2 = ([266, 273, 275, 11, 279, 300, 302, 304, 306, 308, 310, 312, 314, 12, 318, 342, 344, 346, 348, 350, 352, 354, 356, 358, 360, 362, 364, 366, 368, 370, 13, 405, 421, 423, 425, 427, 14, 1418, 1784, 1786] : List Nat).filterMap (fun i => tables_1[i]?) := by decide +kernel
theorem tw_2_ok : ∀ w ∈ tw_2, w ∈ lw_tbl ∧ goodWord w = true := tw_ok1 tw_2_at (by decide +kernel)
theorem tw_3_at : tw_3 = ([1788, 1790, 1792, 1794, 1796, 1798, 1800, 1802, 1804, 1806, 1808, 1810, 1812, 1814, 1816, 1818, 1820, 15, 1424, 1470, 1472, 1474, 1476, 1478, 1480, 1482, 1484, 1486, 1488, 1490, 1492, 1494, 1496, 1498, 1500, 1502, 1504, 16, 1508, 1524] : List Nat).filterMap (fun i => tables_1[i]?) := by decide +kernel
theorem tw_3_ok : ∀ w ∈ tw_3, w ∈ lw_tbl ∧ goodWord w = true := tw_ok1 tw_3_at (by decide +kernel)
theorem tw_4_at : tw_4 = ([1526, 1528, 1530, 1532, 1534, 1536, 1538, 1540, 1542, 1544, 17, 1548, 1577, 1579, 1581, 1583, 1585, 1587, 1589, 1591, 1593, 1595, 1597, 1599, 1601, 1603, 1605, 1607, 1609, 1611, 18, 1615, 1634, 1636, 1638, 1640, 1642, 1644, 1646, 1648] : List Nat).filterMap (fun i => tables_1[i]?) := by decide +kernel
theorem tw_4_ok : ∀ w ∈ tw_4, w ∈ lw_tbl ∧ goodWord w = true := tw_ok1 tw_4_at (by decide +kernel)
theorem tw_5_at : tw_5 = ([1650, 1652, 1654, 1656, 1658, 19, 1662, 1678, 1680, 1682, 1684, 1686, 1688, 20, 1692, 1720, 1722, 1724, 1726, 1728, 1730, 1732, 1734, 1736, 1738, 1740, 1742, 1744, 1746, 1748, 1750, 1752, 1754, 1756, 1758, 1760, 1762, 0, 71, 198] : List Nat).filterMap (fun i => tables_1[i]?) := by decide +kernel
theorem tw_5_ok : ∀ w ∈ tw_5, w ∈ lw_tbl ∧ goodWord w = true := tw_ok1 tw_5_at (by decide +kernel)
theorem tw_6_at : tw_6 = ([44, 45, 46, 47, 430, 48, 50, 51, 52, 431, 72, 74, 75, 76, 432, 104, 106, 107, 108, 433, 168, 171, 172, 434, 199, 201, 202, 203, 435, 404, 407, 408, 436, 437, 438, 478, 479, 480, 481, 482] : List Nat).filterMap (fun i => tables_1[i]?) := by decide +kernel
theorem tw_6_ok : ∀ w ∈ tw_6, w ∈ lw_tbl ∧ goodWord w = true := tw_ok1 tw_6_at (by decide +kernel)
theorem tw_7_at : tw_7 = ([483, 484, 485, 529, 555, 556, 557, 558, 838, 839, 849, 858, 866, 114, 867, 877, 883, 884, 885, 886, 896, 897, 898, 899, 906, 462, 464, 465, 461, 470, 55, 56, 57, 416, 915, 129, 917, 927, 121, 933] : List Nat).filterMap (fun i => tables_1[i]?) := by decide +kernel
theorem tw_7_ok : ∀ w ∈ tw_7, w ∈ lw_tbl ∧ goodWord w = true := tw_ok1 tw_7_at (by decide +kernel)
theorem tw_8_at : tw_8 = ([935, 936, 976, 978, 979, 980, 1288, 1290, 1291, 1372, 1373, 1374, 1375, 1382, 123, 125, 127, 378, 175, 177, 1390, 80, 83, 1355, 1356, 1357, 1358, 1399, 1407, 376, 1415, 374, 466, 467, 468, 469, 117, 937, 938, 939] : List Nat).filterMap (fun i => tables_1[i]?) := by decide +kernel
theorem tw_8_ok : ∀ w ∈ tw_8, w ∈ lw_tbl ∧ goodWord w = true := tw_ok1 tw_8_at (by decide +kernel)
theorem tw_9_at : tw_9 = ([940, 965, 967, 968, 972, 974, 975, 112, 969, 119, 1292, 1296, 1301, 1347, 1351, 1359, 1363, 1364, 1365, 1366, 53, 62, 54, 58, 3, 59, 60, 61, 1300, 77, 78, 81, 84, 85, 86, 87, 66, 88, 559, 25] : List Nat).filterMap (fun i => tables_1[i]?) := by decide +kernel
theorem tw_9_ok : ∀ w ∈ tw_9, w ∈ lw_tbl ∧ goodWord w = true := tw_ok1 tw_9_at (by decide +kernel)
theorem tw_10_at : tw_10 = ([560, 561, 562, 563, 564, 565, 566, 567, 109, 110, 124, 126, 133, 134, 132, 113, 887, 888, 135, 118, 120, 122, 128, 131, 941, 943, 944, 945, 947, 948, 116, 136, 954, 955, 173, 176, 178, 179, 180, 409] : List Nat).filterMap (fun i => tables_1[i]?) := by decide +kernel
theorem tw_10_ok : ∀ w ∈ tw_10, w ∈ lw_tbl ∧ goodWord w = true := tw_ok1 tw_10_at (by decide +kernel)
theorem tw_11_at : tw_11 = ([410, 204, 373, 375, 377, 64, 379, 380, 205, 207, 208, 209, 381, 265, 267, 268, 269, 382, 278, 280, 281, 282, 383, 317, 319, 320, 321, 384, 210, 236, 240, 241, 242, 243, 244, 245, 238, 211, 213, 214] : List Nat).filterMap (fun i => tables_1[i]?) := by decide +kernel
theorem tw_11_ok : ∀ w ∈ tw_11, w ∈ lw_tbl ∧ goodWord w = true := tw_ok1 tw_11_at (by decide +kernel)
theorem tw_12_at : tw_12 = ([215, 239, 216, 219, 220, 221, 222, 217, 65, 218, 270, 271, 63, 272, 283, 284, 288, 290, 292, 294, 296, 298, 67, 299, 322, 333, 334, 335, 336, 337, 338, 339, 332, 1421, 1422, 1766, 1767, 1423, 1425, 1426] : List Nat).filterMap (fun i => tables_1[i]?) := by decide +kernel
theorem tw_12_ok : ∀ w ∈ tw_12, w ∈ lw_tbl ∧ goodWord w = true := tw_ok1 tw_12_at (by decide +kernel)
theorem tw_13_at : tw_13 = ([1427, 1768, 1507, 1509, 1510, 1511, 1769, 1547, 1549, 1550, 1551, 1770, 1771, 1614, 1616, 1617, 1618, 1772, 1661, 1663, 1664, 1665, 1773, 1691, 1693, 1694, 1695, 1774, 1776, 1780, 1781, 1782, 1783, 1428, 1444, 1446, 1447, 1448, 1453, 1458] : List Nat).filterMap (fun i => tables_1[i]?) := by decide +kernel
theorem tw_13_ok : ∀ w ∈ tw_13, w ∈ lw_tbl ∧ goodWord w = true := tw_ok1 tw_13_at (by decide +kernel)
theorem tw_14_at : tw_14 = ([1459, 1462, 1466, 1468, 1429, 1431, 1432, 1512, 1515, 1516, 1517, 1518, 1519, 1520, 1521, 1522, 1523, 1514, 1552, 1556, 1557, 1561, 1564, 1565, 1567, 1569, 1571, 1572, 1575, 1576, 1554, 1555, 1619, 1623, 1624, 1625, 1629, 1631, 1633, 1622] : List Nat).filterMap (fun i => tables_1[i]?) := by decide +kernel
theorem tw_14_ok : ∀ w ∈ tw_14, w ∈ lw_tbl ∧ goodWord w = true := tw_ok1 tw_14_at (by decide +kernel)
theorem tw_15_at : tw_15 = ([1620, 1666, 1668, 1670, 1672, 1674, 1676, 1696, 1701, 1702, 1697, 1703, 1704, 1705, 1707, 1708, 1710, 1711, 1712, 1714, 1715, 1716, 1717, 1718, 1719, 1826, 1765, 1838, 1834, 1830, 1831, 1832, 1833, 1835, 1837, 1839, 1840, 1841, 1842, 1851] : List Nat).filterMap (fun i => tables_1[i]?) := by decide +kernel
theorem tw_15_ok : ∀ w ∈ tw_15, w ∈ lw_tbl ∧ goodWord w = true := tw_ok1 tw_15_at (by decide +kernel)
theorem tw_16_at : tw_16 = ([1852, 1853, 1854, 1865, 1866, 1867, 1868, 1869, 1870, 1875, 1879, 1880, 1881, 1882, 1883, 1887, 1888, 1889, 1890, 1891, 1779, 1899, 1911, 1437, 1438, 1903, 1904, 1906, 1907, 1908, 1910, 1913, 1914, 1915, 1916, 1989, 2059, 2080, 2148, 2144] : List Nat).filterMap (fun i => tables_1[i]?) := by decide +kernel
theorem tw_16_ok : ∀ w ∈ tw_16, w ∈ lw_tbl ∧ goodWord w = true := tw_ok1 tw_16_at (by decide +kernel)
theorem tw_17_at : tw_17 = ([2158, 2477, 2488, 2489, 1775, 2490, 2491, 2492, 2493, 2498, 2499, 2483, 2484, 2503, 2504, 2505, 2506, 2507, 2512, 2513, 2517, 1433, 1434, 1435, 1436, 1442, 1439, 1440, 1441, 1850, 1443, 1846, 1871, 1844, 1845, 1847, 1849, 1843, 1450, 1895] : List Nat).filterMap (fun i => tables_1[i]?) := by decide +kernel
theorem tw_17_ok : ∀ w ∈ tw_17, w ∈ lw_tbl ∧ goodWord w = true := tw_ok1 tw_17_at (by decide +kernel)
theorem tw_18_at : tw_18 = ([1451, 1452, 1455, 1457, 1461, 1465, 1892, 1894, 1917, 1919, 1920, 1925, 1981, 1983, 1984, 1921, 1929, 1930, 1934, 1969, 1977, 1985, 2494, 1861, 1698, 1857, 1855, 1856, 1858, 1860, 1699, 1700, 2508, 568, 569, 570, 571, 572, 574, 604] : List Nat).filterMap (fun i => tables_1[i]?) := by decide +kernel
theorem tw_18_ok : ∀ w ∈ tw_18, w ∈ lw_tbl ∧ goodWord w = true := tw_ok1 tw_18_at (by decide +kernel)
theorem tw_19_at : tw_19 = ([720, 747, 784, 809, 811, 473, 475, 476, 477, 833, 835, 836, 837, 854, 855, 856, 857, 861, 863, 864, 865, 902, 903, 904, 905, 910, 912, 913, 914, 1378, 1379, 1380, 1381, 1386, 1387, 1388, 1389, 1395, 1396, 1397] : List Nat).filterMap (fun i => tables_1[i]?) := by decide +kernel
theorem tw_19_ok : ∀ w ∈ tw_19, w ∈ lw_tbl ∧ goodWord w = true := tw_ok1 tw_19_at (by decide +kernel)
theorem tw_20_at : tw_20 = ([1398, 1403, 1404, 1405, 1406, 1411, 1412, 1413, 1414, 474, 834, 862, 911, 40, 42, 43, 1417, 1419, 1420, 471, 472, 1827, 1828, 1829, 1823, 1824, 1825, 831, 832, 1862, 1863, 1864, 852, 853, 1872, 1873, 1874, 859, 860, 1876] : List Nat).filterMap (fun i => tables_1[i]?) := by decide +kernel
theorem tw_20_ok : ∀ w ∈ tw_20, w ∈ lw_tbl ∧ goodWord w = true := tw_ok1 tw_20_at (by decide +kernel)
theorem tw_21_at : tw_21 = ([1877, 1878, 900, 901, 1884, 1885, 1886, 458, 459, 460, 1896, 1897, 1898, 908, 909, 1900, 1901, 1902, 1376, 1377, 2485, 2486, 2487, 1384, 1385, 2495, 2496, 2497, 1393, 1394, 2500, 2501, 2502, 1401, 1402, 2509, 2510, 2511, 1409, 1410] : List Nat).filterMap (fun i => tables_1[i]?) := by decide +kernel
theorem tw_21_ok : ∀ w ∈ tw_21, w ∈ lw_tbl ∧ goodWord w = true := tw_ok1 tw_21_at (by decide +kernel)
theorem tw_22_at : tw_22 = ([2514, 2515, 2516, 22, 23, 24, 35, 486, 494, 495, 496, 497, 498, 499, 500, 501, 502, 503, 504, 505, 506, 507, 508, 509, 510, 511, 513, 515, 516, 519, 520, 522, 523, 525, 527, 530, 531, 532, 533, 534] : List Nat).filterMap (fun i => tables_1[i]?) := by decide +kernel
theorem tw_22_ok : ∀ w ∈ tw_22, w ∈ lw_tbl ∧ goodWord w = true := tw_ok1 tw_22_at (by decide +kernel)
theorem tw_23_at : tw_23 = ([535, 536, 537, 538, 539, 540, 542, 543, 544, 545, 550, 821, 822, 823, 824, 825, 826, 827, 828, 829, 840, 842, 843, 844, 845, 846, 847, 850, 871, 872, 873, 874, 875, 881, 920, 921, 922, 923, 924, 925] : List Nat).filterMap (fun i => tables_1[i]?) := by decide +kernel
theorem tw_23_ok : ∀ w ∈ tw_23, w ∈ lw_tbl ∧ goodWord w = true := tw_ok1 tw_23_at (by decide +kernel)
theorem tw_24_at : tw_24 = ([931, 71, 71, 71, 71, 71, 71, 71, 71, 71, 71, 71, 71, 71, 71, 71, 71, 71, 71, 71, 71, 71, 71, 71, 71, 71, 71, 71, 71, 71, 71, 71, 71, 71, 71, 71, 71, 71, 71, 71] : List Nat).filterMap (fun i => tables_1[i]?) := by decide +kernel
theorem tw_24_ok : ∀ w ∈ tw_24, w ∈ lw_tbl ∧ goodWord w = true := tw_ok1 tw_24_at (by decide +kernel)
theorem tw_25_at : tw_25 = ([0, 2, 8, 36, 6, 7, 3, 4, 43, 44, 48, 49, 116, 45, 47, 50, 57, 46] : List Nat).filterMap (fun i => (k2_sels lw_privs)[i]?) := by decide +kernel
theorem tw_25_ok : ∀ w ∈ tw_25, w ∈ lw_tbl ∧ goodWord w = true := tw_ok2 tw_25_at (by decide +kernel)
theorem tw_ok : ∀ w ∈ tw, w ∈ lw_tbl ∧ goodWord w = true := (List.forall_mem_append.mpr ⟨tw_0_ok, (List.forall_mem_append.mpr ⟨tw_1_ok, (List.forall_mem_append.mpr ⟨tw_2_ok, (List.forall_mem_append.mpr ⟨tw_3_ok, (List.forall_mem_append.mpr ⟨tw_4_ok, (List.forall_mem_append.mpr ⟨tw_5_ok, (List.forall_mem_append.mpr ⟨tw_6_ok, (List.forall_mem_append.mpr ⟨tw_7_ok, (List.forall_mem_append.mpr ⟨tw_8_ok, (List.forall_mem_append.mpr ⟨tw_9_ok, (List.forall_mem_append.mpr ⟨tw_10_ok, (List.forall_mem_append.mpr ⟨tw_11_ok, (List.forall_mem_append.mpr ⟨tw_12_ok, (List.forall_mem_append.mpr ⟨tw_13_ok, (List.forall_mem_append.mpr ⟨tw_14_ok, (List.forall_mem_append.mpr ⟨tw_15_ok, (List.forall_mem_append.mpr ⟨tw_16_ok, (List.forall_mem_append.mpr ⟨tw_17_ok, (List.forall_mem_append.mpr ⟨tw_18_ok, (List.forall_mem_append.mpr ⟨tw_19_ok, (List.forall_mem_append.mpr ⟨tw_20_ok, (List.forall_mem_append.mpr ⟨tw_21_ok, (List.forall_mem_append.mpr ⟨tw_22_ok, (List.forall_mem_append.mpr ⟨tw_23_ok, (List.forall_mem_append.mpr ⟨tw_24_ok, tw_25_ok⟩)⟩)⟩)⟩)⟩)⟩)⟩)⟩)⟩)⟩)⟩)⟩)⟩)⟩)⟩)⟩)⟩)⟩)⟩)⟩)⟩)⟩)⟩)⟩)⟩)
theorem tw_good {big : List Cond} (hs : ∀ w ∈ tw, w ∈ big) {y : MethodName} {b : ByteArray} {n : Nat} {r : Option FieldType} (hm : Cond.code y b n r ∈ tw) : GoodIn big (Cond.code y b n r :: tw) := fun w hw => by
  rcases List.mem_cons.mp hw with h | h
  · subst h; exact ⟨hs _ hm, good_of_word (tw_ok _ hm).2⟩
  · exact ⟨hs _ h, good_of_word (tw_ok _ h).2⟩
theorem tw_goodW {big : List Cond} (hs : ∀ w ∈ tw, w ∈ big) {y : MethodName} {b : ByteArray} {n : Nat} {r : Option FieldType} {hh : List (Nat × Nat × Nat × Nat)} (hm : Cond.codeWith y b n r hh ∈ tw) : GoodIn big (Cond.codeWith y b n r hh :: tw) := fun w hw => by
  rcases List.mem_cons.mp hw with h | h
  · subst h; exact ⟨hs _ hm, good_of_word (tw_ok _ hm).2⟩
  · exact ⟨hs _ h, good_of_word (tw_ok _ h).2⟩
theorem tw_pre {big ws : List Cond} (hs : ∀ w ∈ tw, w ∈ big) (hg : GoodIn big ws) {l : List Cond} (hl : ∀ w ∈ l, w ∈ tw) : GoodIn big (l ++ ws) := fun w hw => by
  rcases List.mem_append.mp hw with h | h
  · exact ⟨hs _ (hl _ h), good_of_word (tw_ok _ (hl _ h)).2⟩
  · exact hg w h
theorem tw_self (h : Cond) : ∀ w ∈ tw, w ∈ h :: tw := fun _ hw => List.mem_cons_of_mem _ hw
theorem tw_tbl : ∀ w ∈ tw, w ∈ lw_tbl := fun w hw => (tw_ok w hw).1
def nw : List Cond := [Cond.methodLinkNest "DrawingMachine" 40 ⟨"DrawingMachine$Checker", "<init>", "()V"⟩ "DrawingMachine", Cond.methodLinkNest "DrawingMachine" 56 ⟨"DrawingMachine$Program", "<init>", "()V"⟩ "DrawingMachine", Cond.fieldLinkNest "DrawingMachine$Told" 25 "DrawingMachine" "KEPT_AT" "[I" "DrawingMachine", Cond.fieldLinkNest "DrawingMachine$Told" 28 "DrawingMachine" "KEPT_BY_FIRST" "[I" "DrawingMachine", Cond.fieldLinkNest "DrawingMachine$Told" 31 "DrawingMachine" "ARGUMENTS" "[I" "DrawingMachine", Cond.fieldLinkNest "DrawingMachine$Course" 80 "DrawingMachine" "ARGUMENTS" "[I" "DrawingMachine", Cond.methodLinkNest "DrawingMachine$Course" 83 ⟨"DrawingMachine", "within", "(JII)I"⟩ "DrawingMachine", Cond.fieldLinkNest "DrawingMachineModel" 25 "DrawingMachineModel$DrawCommandsModel" "memory" "[I" "DrawingMachineModel", Cond.fieldLinkNest "DrawingMachineModel" 111 "DrawingMachineModel$DrawCommandsModel" "size" "I" "DrawingMachineModel", Cond.fieldLinkNest "DrawingMachineModel" 126 "DrawingMachineModel$DrawCommandsModel" "kept" "[I" "DrawingMachineModel", Cond.methodLinkNest "DrawingMachineModel" 129 ⟨"DrawingMachineModel$DrawCommandsModel", "rowOf", "(II)I"⟩ "DrawingMachineModel", Cond.fieldLinkNest "DrawingMachineModel" 132 "DrawingMachineModel$DrawCommandsModel" "over" "Z" "DrawingMachineModel", Cond.fieldLinkNest "DrawingMachineModel" 150 "DrawingMachineModel$DrawCommandsModel" "argument" "[I" "DrawingMachineModel", Cond.methodLinkNest "DrawingMachineModel" 208 ⟨"DrawingMachineModel$PlaceTestsModel", "show", "(II)I"⟩ "DrawingMachineModel", Cond.castable "java/lang/IllegalArgumentException" "java/lang/IllegalArgumentException", Cond.declares ⟨"java/lang/RuntimeException", "<init>", "()V"⟩, Cond.declares ⟨"java/lang/RuntimeException", "<init>", "(Ljava/lang/String;)V"⟩, Cond.declares ⟨"java/lang/Exception", "<init>", "()V"⟩, Cond.declares ⟨"java/lang/Exception", "<init>", "(Ljava/lang/String;)V"⟩, Cond.declares ⟨"java/lang/Throwable", "<init>", "()V"⟩, Cond.declares ⟨"java/lang/Throwable", "<init>", "(Ljava/lang/String;)V"⟩, Cond.castable "java/lang/IndexOutOfBoundsException" "java/lang/IndexOutOfBoundsException"]
theorem nw_on : ∀ w ∈ nw, w.onTables = true := List.all_eq_true.mp (by decide +kernel)
theorem nw_tbl : ∀ w ∈ nw, w ∈ lw_tbl := fun w hw => by
  have h : nw = ([170, 406, 1367, 1369, 1371, 949, 951, 1445, 1449, 1469, 1912, 1454, 1467, 2481, 487, 488, 489, 490, 491, 492, 493, 841] : List Nat).filterMap (fun i => tables_1[i]?) := by decide +kernel
  rw [h] at hw
  obtain ⟨i, -, hi⟩ := List.mem_filterMap.mp hw
  exact List.mem_append_right _ (List.mem_of_getElem? hi)
theorem ao_tbl : Cond.arrayOver (.array .int) ∈ lw_tbl := List.mem_append_right _ (List.mem_of_getElem? (i := 285) (by decide +kernel))
def wN (U : State) : Prop := (∀ w ∈ nw, va_Nw w U) ∧ (Cond.arrayOver (.array .int)).before #[] U = true
theorem wN_same {u U : State} (hv : u.vm = U.vm) (h : wN u) : wN U := ⟨fun w hw => va_Nw.same (nw_on w hw) hv (h.1 w hw), by have h2 := h.2; simp only [Cond.before, Cond.holds, Cond.value] at h2 ⊢; rw [← hv]; exact h2⟩
theorem castable_warm {a b : String} {s U : State} (hW : s.WarmedH U.vm) (hZ : va_Nw (.castable a b) s) : va_Nw (.castable a b) U := va_tabs rfl (rfl : (s.setVm U.vm).vm = U.vm) (by rw [Cond.castable_setVm hW.alike]; exact hZ)
theorem ao_warm {u U : State} (hvm : u.vm.Alike U.vm) (h : (Cond.arrayOver (.array .int)).before #[] u = true) : (Cond.arrayOver (.array .int)).before #[] U = true := by
  obtain ⟨comp, c, k, h1, h2, h3, h4, h5⟩ := arrayOverA_spec h
  obtain ⟨k', hk', he⟩ := hvm.2.2 _ _ h3
  have hi : (U.vm.classes.findIdx? fun (x : Class) => match x.kind with | .array component _ => component == comp | _ => false) = some c := by
    refine (va_idx_bare U.vm comp).symm.trans ?_
    have hbe : U.vm.bare = u.vm.bare := by first | exact hvm.bare_eq | exact hvm.bare_eq.symm
    rw [hbe]
    exact (va_idx_bare u.vm comp).trans h2
  have hkind : k'.kind = .array comp (.array .int) := by rw [he]; exact h4
  have f1 : U.vm.findClass (FieldType.array .int).toString = some comp := by rw [hvm.findClass]; exact h1
  have f2 : U.vm.findClass ("[" ++ (FieldType.array .int).toString) = some c := by rw [hvm.findClass]; exact h5
  unfold Cond.before Cond.holds
  simp only [Cond.value]
  rw [f1, Option.bind_some]
  refine (congrArg (fun o : Option Nat => (o.bind (fun c => (U.vm.classes[c]?).map fun (k : Class) => match k.kind with | .array _ ty => decide (ty = FieldType.array .int) && decide (U.vm.findClass ("[" ++ (FieldType.array .int).toString) = some c) | _ => false) == some true)) hi).trans ?_
  simp [hk', hkind, f2]
theorem wN_warm {s U : State} (hW : s.WarmedH U.vm) (h : wN s) : wN U := ⟨fun w hw => by
  have hh := h.1 w hw
  simp only [nw, List.mem_cons, List.not_mem_nil, or_false] at hw
  rcases hw with rfl | rfl | rfl | rfl | rfl | rfl | rfl | rfl | rfl | rfl | rfl | rfl | rfl | rfl | rfl | rfl | rfl | rfl | rfl | rfl | rfl | rfl
  · exact va_Nw.warmM hW hh
  · exact va_Nw.warmM hW hh
  · exact va_Nw.warmF hW hh
  · exact va_Nw.warmF hW hh
  · exact va_Nw.warmF hW hh
  · exact va_Nw.warmF hW hh
  · exact va_Nw.warmM hW hh
  · exact va_Nw.warmF hW hh
  · exact va_Nw.warmF hW hh
  · exact va_Nw.warmF hW hh
  · exact va_Nw.warmM hW hh
  · exact va_Nw.warmF hW hh
  · exact va_Nw.warmF hW hh
  · exact va_Nw.warmM hW hh
  · exact castable_warm hW hh
  · exact va_Nw.warmD hW hh
  · exact va_Nw.warmD hW hh
  · exact va_Nw.warmD hW hh
  · exact va_Nw.warmD hW hh
  · exact va_Nw.warmD hW hh
  · exact va_Nw.warmD hW hh
  · exact castable_warm hW hh
  , ao_warm hW.alike h.2⟩
end
section
/-! a method's world: its cells, and what nobody writes (statics, texts), which lies below B -/
abbrev TY (cI cL : ClassId) : List (ClassId × FieldType) := [(cI, .int), (cL, .long)]
def tx_strs : List (Nat × String) := [(76, "no such frame"), (87, "no such word"), (106, "the stream has not so many words"), (117, "below 0"), (167, "nothing is told about that"), (169, "a place has no such thing"), (177, "no such place"), (183, "places have no such thing"), (185, "no such query"), (190, "that is not counted")]
/-- a static field that holds a reference or null, in its cell below B -/
def wLs (owner name desc : String) (B : Nat) (U : State) (H : Heap) : Prop := ∃ (c : ClassId) (k : Class) (i : Nat) (f : Field) (a : Nat) (cell : Cell) (v : Value), U.vm.findClass owner = some c ∧ U.fieldFound? owner name desc = some (c, k, i, f) ∧ f.isStatic = true ∧ k.statics = some a ∧ H[a]? = some cell ∧ cell.vm.isStatics = true ∧ cell.cls = c ∧
      f.slot < cell.slots.size ∧ k.staticTypes[f.slot]? = some f.type ∧ cell.slots[f.slot]? = some v ∧ v.isRef = true ∧ ¬ B ≤ a
theorem wLs_moved {o n d : String} {B : Nat} {u U : State} {H : Heap} (hvm : u.vm.Alike U.vm) (h : wLs o n d B u H) : wLs o n d B U H := by
  obtain ⟨c, k, i, f, a, cell, v, h1, h2, h3, h4, h5, h6, h7, h8, h9, h10⟩ := h
  obtain ⟨k', hi', he⟩ := State.fieldFound?_setVm hvm h2
  exact ⟨c, k', i, f, a, cell, v, by rw [hvm.findClass]; exact h1, hi', h3, by rw [he]; exact h4, h5, h6, h7, h8, by rw [he]; exact h9, h10⟩
theorem wLs_kept {o n d : String} {B : Nat} {U : State} {H H1 : Heap} (h : wLs o n d B U H) (hq : ∀ a : Nat, a < H.size → ¬ B ≤ a → H1[a]? = H[a]?) : wLs o n d B U H1 := by
  obtain ⟨c, k, i, f, a, cell, v, h1, h2, h3, h4, h5, h6, h7, h8, h9, h10, h11, h12⟩ := h
  exact ⟨c, k, i, f, a, cell, v, h1, h2, h3, h4, by rw [hq a (Array.getElem?_eq_some_iff.mp h5).1 h12]; exact h5, h6, h7, h8, h9, h10, h11, h12⟩
theorem wLs_use {o n d : String} {B : Nat} {U : State} {args : Array Value} (h : wLs o n d B U U.heap) : (Cond.laysStatic o n d).before args U = true ∧ (Cond.isRef (.static o n d)).before args U = true := by
  obtain ⟨c, k, i, f, a, cell, v, h1, h2, h3, h4, h5, h6, h7, h8, h9, h10, h11, -⟩ := h
  constructor
  · simp [Cond.before, Cond.holds, Cond.value, h1, h2, h3, h4, h5, h6, h7, h8, h9]
  · simp [Cond.before, Cond.holds, Cond.value, Term.eval, State.fieldNamed?, h2, h3, h4, h5, h6, h10]
    cases v <;> simp_all [Value.isRef]
theorem wLs_of {o n d : String} {B : Nat} {s : State} {args : Array Value} (hl : (Cond.laysStatic o n d).before args s = true) (h : (Cond.isRef (.static o n d)).before args s = true) (hB : B = s.heap.size) : wLs o n d B s s.heap := by
  obtain ⟨c, k, i, f, a, cell, hc, hi, hst, ha, hcell, hs, hcls, hlt, hty⟩ := Cond.laysStatic_spec hl
  have hv : ∃ v, cell.slots[f.slot]? = some v ∧ v.isRef = true := by
    refine ⟨cell.slots[f.slot], Array.getElem?_eq_getElem hlt, ?_⟩
    have h2 := h
    simp [Cond.before, Cond.holds, Cond.value, Term.eval, State.fieldNamed?, hi, hst, ha, hcell, hs, hlt] at h2
    exact h2
  obtain ⟨v, hv1, hv2⟩ := hv
  exact ⟨c, k, i, f, a, cell, v, hc, hi, hst, ha, hcell, hs, hcls, hlt, hty, hv1, hv2, by rw [hB]; exact Nat.not_le.mpr (Array.getElem?_eq_some_iff.mp hcell).1⟩
def wX (B : Nat) (U : State) (H : Heap) : Prop :=
  wLs "java/lang/Throwable" "UNASSIGNED_STACK" "[Ljava/lang/StackTraceElement;" B U H ∧ wLs "java/lang/Throwable" "SUPPRESSED_SENTINEL" "Ljava/util/List;" B U H ∧
  (∃ (t : Nat) (f : Nat → Value), va_Z "DrawingMachine" "KEPT_AT" "[I" (.ref t) (fun q => B ≤ q) U H ∧ va_T .int t 26 f (fun q => B ≤ q) U H ∧ f 0 = .int (-1)) ∧
  (∀ x ∈ tx_strs, ∃ q : Nat, vk_R "DrawingMachine" x.1 x.2 q U) ∧ va_Nc "java/lang/IndexOutOfBoundsException" "java/lang/IllegalArgumentException" U
theorem wX_warm {B : Nat} {s U : State} {H : Heap} (hW : s.WarmedH U.vm) (h : wX B s H) : wX B U H := by
  obtain ⟨h1, h2, ⟨t, f, h3, h4, h5⟩, h6, h7⟩ := h
  refine ⟨wLs_moved hW.alike h1, wLs_moved hW.alike h2, ⟨t, f, h3.moved hW.alike, h4.moved hW.alike, h5⟩, fun x hx => ?_, h7.moved hW.alike⟩
  obtain ⟨q, hq⟩ := h6 x hx
  exact ⟨q, hq.warm hW⟩
theorem wX_same {B : Nat} {u U : State} {H : Heap} (hv : u.vm = U.vm) (h : wX B u H) : wX B U H := by
  have hal : u.vm.Alike U.vm := by rw [hv]; exact Vm.Alike.refl _
  obtain ⟨h1, h2, ⟨t, f, h3, h4, h5⟩, h6, h7⟩ := h
  refine ⟨wLs_moved hal h1, wLs_moved hal h2, ⟨t, f, h3.moved hal, h4.moved hal, h5⟩, fun x hx => ?_, h7.moved hal⟩
  obtain ⟨q, hq⟩ := h6 x hx
  exact ⟨q, hq.same hv.symm⟩
theorem wX_kept {B : Nat} {U : State} {H H1 : Heap} (h : wX B U H) (hq : ∀ a : Nat, a < H.size → ¬ B ≤ a → H1[a]? = H[a]?) : wX B U H1 := by
  obtain ⟨h1, h2, ⟨t, f, h3, h4, h5⟩, h6, h7⟩ := h
  exact ⟨wLs_kept h1 hq, wLs_kept h2 hq, ⟨t, f, h3.kept hq, h4.kept hq, h5⟩, h6, h7⟩
/-- a method's start -/
def wP (D : va_G) (cI cL : ClassId) (B sz : Nat) (ws : va_W) (U : State) : Prop :=
  U.heap.size = sz ∧ va_P D classes ws U.heap ∧ va_K D classes (TY cI cL) U ∧ va_D (fun q => B ≤ q) ws ∧ B ≤ sz ∧ wN U ∧ wX B U U.heap
/-- its end -/
def wB (D : va_G) (cI cL : ClassId) (A : Nat → Prop) (ws : va_W) (t : State) : Prop := va_P D classes ws t.heap ∧ va_K D classes (TY cI cL) t ∧ va_D A ws
theorem wP_blind {av : List Value} {D : va_G} {cI cL : ClassId} {B sz : Nat} {ws : va_W} : FrameBlind (va_Pc av (wP D cI cL B sz ws)) := by
  intro a U g mk q
  obtain ⟨q0, q1, qP, qK, qD, qB, qN, qX⟩ := q
  exact ⟨q0, q1, qP, va_K.moved (u := U) (U := U.calling g mk a) (Vm.Alike.refl U.vm) qK, qD, qB, wN_same (u := U) (U := U.calling g mk a) rfl qN, wX_same (u := U) (U := U.calling g mk a) rfl qX⟩
/-- what stands at every point of a walk: the tables, and what is below B -/
def wC (D : va_G) (cI cL : ClassId) (B : Nat) (A : Nat → Prop) (s : State) : Prop := va_K D classes (TY cI cL) s ∧ wN s ∧ wX B s s.heap ∧ (∀ q : Nat, s.heap.size ≤ q → A q) ∧ (∀ q : Nat, A q → B ≤ q) ∧ B ≤ s.heap.size
theorem wC_pre {D : va_G} {cI cL : ClassId} {B : Nat} {A : Nat → Prop} {s : State} {ws wc : va_W} {H : Heap} {locs : List Loc} {As : List Value} (hC : wC D cI cL B A s) (hP : va_P D classes ws H) (hD : va_D A ws) (hS : va_S A s.heap H locs) (isC : List Nat) (hnd : va_nd isC = true) (hc : isC.map (fun i => ws[i]?) = wc.map some) :
    PreS s H (va_Pc As (wP D cI cL B H.size wc)) As := by
  obtain ⟨hK, hN, hX, hA, hAB, hB⟩ := hC
  refine ⟨wP_blind, fun U hU hW => ⟨rfl, by rw [hU], ?_, hK.moved hW.alike, (hD.sub isC hnd hc).weaken (fun _ _ _ h => hAB _ h), Nat.le_trans hB hS.1, wN_warm hW hN, ?_⟩⟩
  · rw [hU]
    intro k q hq
    have h1 : (isC.map (fun i => ws[i]?))[k]? = some (some q) := by rw [hc, List.getElem?_map, hq]; rfl
    rw [List.getElem?_map] at h1
    cases hi : isC[k]? with
    | none => rw [hi] at h1; cases h1
    | some i => rw [hi] at h1; exact hP i q (Option.some.inj h1)
  · rw [hU]
    exact wX_warm hW (wX_kept hX (fun a h1 h2 => hS.2.1 a h1 (fun h => h2 (hAB a h))))
theorem wC_preV {D : va_G} {cI cL : ClassId} {B : Nat} {A : Nat → Prop} {s : State} {ws wc : va_W} {H : Heap} {locs : List Loc} {As : List Value} {b q0 ci : Nat} {fs : List Value} {r : vw_C} (hC : wC D cI cL B A s) (hP : va_P D classes ws H) (hD : va_D A ws) (hS : va_S A s.heap H locs) (isC : List Nat) (hnd : va_nd isC = true) (hc : isC.map (fun i => ws[i]?) = wc.map some)
    (he : ws[q0]? = some (b, .inr (ci, fs))) (hcl : classes[ci]? = some r) : PreV s H r.1 b (va_Pc (.ref b :: As) (wP D cI cL B H.size wc)) As :=
  ⟨(wC_pre (As := .ref b :: As) hC hP hD hS isC hnd hc).1, va_recv hC.1 hP hcl he, (wC_pre (As := .ref b :: As) hC hP hD hS isC hnd hc).2⟩
theorem wC_init {D : va_G} {cI cL : ClassId} {B sz : Nat} {ws : va_W} {s : State} (h : wP D cI cL B sz ws s) : wC D cI cL B (va_A ws s.heap.size) s ∧ va_P D classes ws s.heap ∧ va_D (va_A ws s.heap.size) ws ∧ s.heap.size = sz := by
  obtain ⟨h1, h2, h3, h4, h5, h6, h7⟩ := h
  refine ⟨⟨h3, h6, h7, fun q hq => Or.inr hq, fun q hq => ?_, by rw [h1]; exact h5⟩, h2, h4.self, h1⟩
  rcases hq with ⟨k, e, hk⟩ | hq
  · exact h4.2 k _ hk
  · exact Nat.le_trans (by rw [h1]; exact h5) hq
section WC
variable {p : Program} {l : Launch} {e : Env} {R : Room} {s : State} {m : MethodId} {args : Array Value} {below : List Frame} {meth : Method} {c : Code} {H : Heap} {locs : List Loc} {cells slots : Nat} {Q : State → Prop}
variable {cc : ByteArray} {pc : Nat} {ls : Array Slot} {rest st0 : List Value} {a : Array Value} {D : va_G} {cI cL : ClassId} {B mc ms : Nat} {A : Nat → Prop} {ws wc wr : va_W}
theorem wc_i {S : Type} {post : Int32 → S → Prop} {w1 : S → va_W} (hC : wC D cI cL B A s) (hP : va_P D classes ws H) (hD : va_D A ws) (hS : va_S A s.heap H locs) (isC isR : List Nat) (hc : isC.map (fun i => ws[i]?) = wc.map some) (hR : isR.map (fun i => ws[i]?) = wr.map some) (hn : va_nd isR = true) (hdis : ∀ i ∈ isR, i ∉ isC)
    (hr : va_Run p l e R s m args below meth c H locs cells slots mc ms (F0 m pc ls st0) rest (va_Qi post (fun u => wB D cI cL (va_A wc H.size) (w1 u)) (va_A wc H.size) a) (va_A wc H.size))
    (kk : ∀ (r : Int32) (u : S) (H1 : Heap) (locs1 : List Loc), post r u → va_P D classes (wr ++ w1 u) H1 → va_D A (wr ++ w1 u) → va_S A s.heap H1 locs1 → W p l e R s m args below meth c H1 locs1 (cells + mc) (slots + ms) Q (F0 m (pc + 3) ls (.int r :: rest))) : W p l e R s m args below meth c H locs cells slots Q (F0 m pc ls st0) := by
  have hFc := va_free (wc := wc) hD hS hC.2.2.2.1 isC hc
  refine va_calli hr hS (fun q _ h => hFc q h) hFc (fun r u t H1 locs1 ht hvm hw hB hz1 hk1 hS1 => ?_)
  obtain ⟨hP1, hK1, hD1⟩ := hB
  rw [ht] at hP1
  obtain ⟨hP2, hD2⟩ := va_join (wr := wr) (w1 := w1 u) hP hD isC isR hc hR hn hdis hk1 hFc hP1 hD1
  exact kk r u H1 locs1 hw hP2 hD2 hS1
theorem wc_v {S : Type} {post : S → Prop} {w1 : S → va_W} (hC : wC D cI cL B A s) (hP : va_P D classes ws H) (hD : va_D A ws) (hS : va_S A s.heap H locs) (isC isR : List Nat) (hc : isC.map (fun i => ws[i]?) = wc.map some) (hR : isR.map (fun i => ws[i]?) = wr.map some) (hn : va_nd isR = true) (hdis : ∀ i ∈ isR, i ∉ isC)
    (hr : va_Run p l e R s m args below meth c H locs cells slots mc ms (F0 m pc ls st0) rest (va_Qv post (fun u => wB D cI cL (va_A wc H.size) (w1 u)) (va_A wc H.size) a) (va_A wc H.size))
    (kk : ∀ (u : S) (H1 : Heap) (locs1 : List Loc), post u → va_P D classes (wr ++ w1 u) H1 → va_D A (wr ++ w1 u) → va_S A s.heap H1 locs1 → W p l e R s m args below meth c H1 locs1 (cells + mc) (slots + ms) Q (F0 m (pc + 3) ls rest)) : W p l e R s m args below meth c H locs cells slots Q (F0 m pc ls st0) := by
  have hFc := va_free (wc := wc) hD hS hC.2.2.2.1 isC hc
  refine va_callv hr hS (fun q _ h => hFc q h) hFc (fun u t H1 locs1 ht hvm hw hB hz1 hk1 hS1 => ?_)
  obtain ⟨hP1, hK1, hD1⟩ := hB
  rw [ht] at hP1
  obtain ⟨hP2, hD2⟩ := va_join (wr := wr) (w1 := w1 u) hP hD isC isR hc hR hn hdis hk1 hFc hP1 hD1
  exact kk u H1 locs1 hw hP2 hD2 hS1
theorem wc_r {S : Type} {post : S → Prop} {w1 : S → va_W} {ra : S → Nat} (hC : wC D cI cL B A s) (hP : va_P D classes ws H) (hD : va_D A ws) (hS : va_S A s.heap H locs) (isC isR : List Nat) (hc : isC.map (fun i => ws[i]?) = wc.map some) (hR : isR.map (fun i => ws[i]?) = wr.map some) (hn : va_nd isR = true) (hdis : ∀ i ∈ isR, i ∉ isC)
    (hr : va_Run p l e R s m args below meth c H locs cells slots mc ms (F0 m pc ls st0) rest (va_Qr post (fun u q t => q = ra u ∧ wB D cI cL (va_A wc H.size) (w1 u) t) (va_A wc H.size) a) (va_A wc H.size))
    (kk : ∀ (u : S) (H1 : Heap) (locs1 : List Loc), post u → va_P D classes (wr ++ w1 u) H1 → va_D A (wr ++ w1 u) → va_S A s.heap H1 locs1 → W p l e R s m args below meth c H1 locs1 (cells + mc) (slots + ms) Q (F0 m (pc + 3) ls (.ref (ra u) :: rest))) : W p l e R s m args below meth c H locs cells slots Q (F0 m pc ls st0) := by
  have hFc := va_free (wc := wc) hD hS hC.2.2.2.1 isC hc
  refine va_callr hr hS (fun q _ h => hFc q h) hFc (fun u q t H1 locs1 ht hvm hw hB hz1 hk1 hS1 => ?_)
  obtain ⟨hq, hP1, hK1, hD1⟩ := hB
  subst hq
  rw [ht] at hP1
  obtain ⟨hP2, hD2⟩ := va_join (wr := wr) (w1 := w1 u) hP hD isC isR hc hR hn hdis hk1 hFc hP1 hD1
  exact kk u H1 locs1 hw hP2 hD2 hS1
theorem wi_c {x v : Int32} (h : x = v) (k : W p l e R s m args below meth c H locs cells slots Q (F0 m pc ls (.int v :: rest))) : W p l e R s m args below meth c H locs cells slots Q (F0 m pc ls (.int x :: rest)) := by subst h; exact k
theorem wl_c {x v : Int64} (h : x = v) (k : W p l e R s m args below meth c H locs cells slots Q (F0 m pc ls (.long v :: rest))) : W p l e R s m args below meth c H locs cells slots Q (F0 m pc ls (.long x :: rest)) := by subst h; exact k
theorem wna_i (hexec : p.tables.exec = Jvm.exec) (hb : c.code = cc) (harr : (Cond.arrayClass .int).before args s = true) (hC : wC D cI cL B A s) (hP : va_P D classes ws H) (hD : va_D A ws) (hS : va_S A s.heap H locs)
    {n : Int32} {N : Nat} (hn : n = nI N) (hN : N ≤ 100000) (hcells : cells + 1 ≤ R.cells) (hslots : slots + N ≤ R.slots) (hdg : decode cc pc = .ok (.newarray .int, 2))
    (kk : ∀ (q : Nat) (H1 : Heap), va_P D classes (ws ++ [(q, .inl (cI, N, .inl (fun _ => 0)))]) H1 → va_D A (ws ++ [(q, .inl (cI, N, .inl (fun _ => 0)))]) → va_S A s.heap H1 locs →
      W p l e R s m args below meth c H1 locs (cells + 1) (slots + N) Q (F0 m (pc + 2) ls (.ref q :: rest))) : W p l e R s m args below meth c H locs cells slots Q (F0 m pc ls (.int n :: rest)) := by
  subst hn
  refine va_newa (atype := .int) (ty := .int) hexec hb harr rfl hC.1 hP hD hS hC.2.2.2.1 (N' := N) (a0 := (N, .inl (fun _ => 0))) (fun _ => rfl) (nI_pos (by omega)) (nI_clamp (by omega)) (by show N * 4 ≤ _; omega) hcells hslots hdg (fun q cA H1 hK1 hP1 hD1 hS1 => ?_)
  have e1 : cA = cI := by
    have h1 := (hK1.2 2 _ rfl).2
    have h2 := (hK1.2 0 _ rfl).2
    exact Option.some.inj ((show s.vm.findClass ("[" ++ FieldType.int.toString) = some cA from h1).symm.trans h2)
  subst e1
  exact kk q H1 hP1 hD1 hS1
theorem wna_l (hexec : p.tables.exec = Jvm.exec) (hb : c.code = cc) (harr : (Cond.arrayClass .long).before args s = true) (hC : wC D cI cL B A s) (hP : va_P D classes ws H) (hD : va_D A ws) (hS : va_S A s.heap H locs)
    {n : Int32} {N : Nat} (hn : n = nI N) (hN : N ≤ 100000) (hcells : cells + 1 ≤ R.cells) (hslots : slots + N ≤ R.slots) (hdg : decode cc pc = .ok (.newarray .long, 2))
    (kk : ∀ (q : Nat) (H1 : Heap), va_P D classes (ws ++ [(q, .inl (cL, N, .inr (.inl (fun _ => 0))))]) H1 → va_D A (ws ++ [(q, .inl (cL, N, .inr (.inl (fun _ => 0))))]) → va_S A s.heap H1 locs →
      W p l e R s m args below meth c H1 locs (cells + 1) (slots + N) Q (F0 m (pc + 2) ls (.ref q :: rest))) : W p l e R s m args below meth c H locs cells slots Q (F0 m pc ls (.int n :: rest)) := by
  subst hn
  refine va_newa (atype := .long) (ty := .long) hexec hb harr rfl hC.1 hP hD hS hC.2.2.2.1 (N' := N) (a0 := (N, .inr (.inl (fun _ => 0)))) (fun _ => rfl) (nI_pos (by omega)) (nI_clamp (by omega)) (by show N * 8 ≤ _; omega) hcells hslots hdg (fun q cA H1 hK1 hP1 hD1 hS1 => ?_)
  have e1 : cA = cL := by
    have h1 := (hK1.2 2 _ rfl).2
    have h2 := (hK1.2 1 _ rfl).2
    exact Option.some.inj ((show s.vm.findClass ("[" ++ FieldType.long.toString) = some cA from h1).symm.trans h2)
  subst e1
  exact kk q H1 hP1 hD1 hS1
end WC
end
