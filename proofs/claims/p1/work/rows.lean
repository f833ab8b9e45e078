section
/-! throwing methods: contracts and calls of methods that end in an exception, and an exception caught in a method with a table -/
def tq_End (first t : State) (k n : Nat) : Prop := first.WarmedH t.vm ∧ first.sameButNew ({ t with vm := first.vm } : State) [] k n
def tq_Met (l : Launch) (y : MethodName) (ws : List Cond) (rm : Room) (Pc : Array Value → State → Prop) (Qc : Array Value → State → Addr → State → Prop) (mc ms : Nat) : Prop :=
  MetFree l y (headSpec ws rm) Pc (fun _ _ _ _ _ => True) (fun a st o t => ∃ x, o = .threw x ∧ Qc a st x t ∧ tq_End st t mc ms)
def tq_MQ (below : List Frame) (Qc : Array Value → State → Addr → State → Prop) (a : Array Value) (s : State) (mc ms : Nat) : State → Prop := fun t => ∃ x, t.status = .running ∧ Ended t below (.threw x) ∧ Qc a s x t ∧ tq_End s t mc ms
theorem tq_ofW {l : Launch} {y : MethodName} {ws ws' : List Cond} {rm : Room} {Pc : Array Value → State → Prop} {Qc : Array Value → State → Addr → State → Prop} {mc ms : Nat} {cc : ByteArray} {maxL : Nat} {ret : Option FieldType}
    (hy : plainName y.cls = true) (hw : ws = Cond.code y cc maxL ret :: ws')
    (body : ∀ p e s m args below meth c s₁, BodyLoose p l y (headSpec ws rm) cc maxL ret e s m args below meth c s₁ → c.maxLocals = maxL → Pc args s →
      W p l e (headSpec ws rm).room s m args below meth c s.heap [] 0 0 (tq_MQ below Qc args s mc ms) (entryFrame m args maxL)) : tq_Met l y ws rm Pc Qc mc ms := by
  refine MetFree.of_bodyS (code := cc) (maxLocals := maxL) (ret := ret) hy ?_ ?_
  · intro args s m h hn
    obtain ⟨meth, c, h1, h2, h3, h4, h5, h6, -, -⟩ := Cond.code_spec hn (atoms_spec (ws := ws) h _ (by rw [hw]; exact List.mem_cons_self))
    exact ⟨meth, c, h1, h2, h3, h4, h5, h6⟩
  · intro p e s m args below meth c s₁ B hml hP _
    have hh0 : s₁.heap = s.heap := by rw [B.state]; rfl
    obtain ⟨t, a1, x, b1, b2, b3⟩ := body p e s m args below meth c s₁ B hml hP s₁ hh0 (Stand.of_body B)
    exact ⟨t, .threw x, a1, b1, b2, x, rfl, b3.1, b3.2⟩
/-- what an exception's thrower leaves: the object, and all that was there as it was -/
def tq_Q (cls : String) : Array Value → State → Addr → State → Prop := fun _ st x t => st.heap.size ≤ x ∧ (∃ ce : Cell, t.heap[x]? = some ce ∧ st.vm.findClass cls = some ce.cls ∧ ce.vm = .none) ∧ (∀ z : Nat, z < st.heap.size → t.heap[z]? = st.heap[z]?)
section TQ
variable {p : Program} {l : Launch} {e : Env} {R : Room} {s : State} {m : MethodId} {args : Array Value} {below : List Frame} {meth : Method} {c : Code} {H : Heap} {locs : List Loc} {cells slots : Nat} {Q : State → Prop}
/-- new E; dup; ldc text; invokespecial E(String); athrow, in a method that has changed nothing yet -/
theorem tq_throw {cc : ByteArray} (hexec : p.tables.exec = Jvm.exec) (hb : c.code = cc) (htr : e.platform.stackTraces = false) {own cls tx : String} {names : List String} {ia ib ic q pc : Nat} {ls : Array Slot}
    (hown : s.vm.findClass own = some m.cls) (hcls : Bundle.fit cls = true) (hnames : ∀ n ∈ names, Bundle.fit n = true) (h : ∀ a ∈ Bundle.ownAtoms own ic cls names, a.before args s = true)
    (hcl : (Cond.classLink own ia cls).before args s = true) (hini : (Cond.initialized cls).before args s = true) (hZ : vk_R own ib tx q s) (hml : c.maxLocals = ls.size) (hout : c.exceptionTable.isEmpty = true) (hlocks : meth.locks = false)
    (hd0 : decode cc pc = .ok (.new ia, 3)) (hd3 : decode cc (pc + 3) = .ok (.dup, 1)) (hd4 : decode cc (pc + 3 + 1) = .ok (.ldc ib, 2)) (hd6 : decode cc (pc + 3 + 1 + 2) = .ok (.invokespecial ic, 3)) (hd9 : decode cc (pc + 3 + 1 + 2 + 3) = .ok (.athrow, 1))
    (hRf : names.length + 3 < R.frames) (hRl : 1 + (13 * (names.length + 1) + 42) ≤ R.locals) (hRc : 0 + 1 ≤ R.cells) (hRs : 0 + 6 ≤ R.slots) :
    W p l e R s m args below meth c s.heap [] 0 0 (tq_MQ below (tq_Q cls) args s 1 6) (F0 m pc ls []) := by
  have hins : (Cond.instantiable cls 6).before args s = true := h _ (by simp [Bundle.ownAtoms])
  refine W.newc hexec hb hown hcl hins hini rfl hd0 hRc hRs fun cC kC h1 h2 h3 h4 => ?_
  refine lv_dup hexec hb hd3 rfl ?_
  refine va_ldcS hexec hb hown hZ hd4 ?_
  intro T hT X
  have hcell : T.heap[s.heap.size]? = some (freshCell cC kC) := by rw [hT]; simp [freshCell]
  obtain ⟨U, st, hrun, hend, hWm, hsame, ce, hce, hO⟩ := X.ctorThrowS hexec htr hown hcls hnames h (fun _ hx => by cases hx) h1 h2 hcell (Nat.le_refl _) (msg := .ref q) rfl (g := F0 m (pc + 3 + 1 + 2) ls [.ref q, .ref s.heap.size, .ref s.heap.size]) rfl hml.symm rfl rfl (rest := []) rfl (by rw [hb]; exact hd6) (by rw [hb]; exact hd9)
    (fun x hx => by rw [show c.exceptionTable.toList = [] from List.eq_nil_of_length_eq_zero (by simpa [Array.isEmpty] using hout)] at hx; cases hx) hRf (by simp [JFrame.monitorRoom, Value.category]; omega) hlocks
  refine ⟨U, st, s.heap.size, hrun, hend, ⟨Nat.le_refl _, ⟨ce, hce, hO.cls, hO.vm⟩, fun z hz => ?_⟩, hWm, hsame⟩
  obtain ⟨cz, hcz⟩ : ∃ cz, s.heap[z]? = some cz := ⟨_, Array.getElem?_eq_getElem hz⟩
  rw [hcz]
  exact hsame.old_cell hcz
end TQ
end
section
/-! an exception is caught where the catch's class may not have been resolved yet -/
def tq_Finds (e : Env) (s : State) (f : JFrame) (a : Addr) (h : Handler) (s' : State) : Prop :=
  ∀ (Q : Handler → Pre) (E : CtlPost) (d : Bool) (acts : List Action), wp (findHandler f a) Q E e d acts s ↔ Q h d acts s'
theorem tq_go {Q : Handler → Pre} {E : CtlPost} {e : Env} {d : Bool} {acts : List Action} {s : State} {f : JFrame} {a : Addr} {x : ExceptionTableEntry} {t : List ExceptionTableEntry} {c : ClassId} {cell : Cell} {vm' : Vm} (hx : covers x f.pc = true) (h0 : x.catchType ≠ 0)
    (hg : (Jvm.resolveClass f.method.cls x.catchType).Gives e.toSetting s.vm (.ok c) vm') (hsz : vm'.classes.size ≤ s.vm.classes.size) (hcell : s.heap[a]? = some cell) (hobj : ∀ k, cell.vm ≠ .statics k)
    (hk : ∃ k, vm'.classes[cell.cls]? = some k) (hc : ∃ k, vm'.classes[c]? = some k) :
    wp (findHandler.go f a (x :: t)) Q E e d acts s ↔
      if vm'.assignable cell.cls c = true then Q (.found x.handlerPc) d acts (s.setVm vm') else wp (findHandler.go f a t) Q E e d acts (s.setVm vm') := by
  simp only [covers] at hx
  obtain ⟨ha, ht⟩ := hg.op (op := VmOp.resolveClass f.method.cls x.catchType) rfl
  cases hfit : vm'.assignable cell.cls c <;>
    simp [findHandler.go, hx, h0, ha, ht, hsz, hcell, hobj, hk, hc, hfit, VmOp.dirties, VmOp.acts]
theorem tq_stepc {e : Env} {s s' : State} {a : Addr} {f : JFrame} {r : List Frame} {pc : Nat} (hfind : tq_Finds e s f a (.found pc) s') :
    (stepThrowing e s a (.java f :: r)).Is (s'.setFrames (.java { f with pc := pc, stack := [.ref a] } :: r)) [] := by
  simp only [stepThrowing, searchFrame, vmDo]
  generalize hr : Sem.go _ e false [] s = res
  obtain ⟨as, rfl, ha⟩ := Sem.eq_ok_of hr (a := Handler.found pc) (s' := s') (acts' := []) (by simp [hfind _ _ _ _])
  exact ⟨rfl, ha⟩
theorem tq_caught {tb : Tables} {e : Env} {s target : State} {g : JFrame} {c : Code} {below : List Frame} {a : Addr} {vm' : Vm} (h : At s g.method c below) {pc : Nat} (hfind : tq_Finds e ((s.setTop g).pushFrame (.throwing a)) g a (.found pc) (((s.setTop g).pushFrame (.throwing a)).setVm vm'))
    (hrest : Steps tb e below ((s.setVm vm').setTop { g with pc := pc, stack := [.ref a] }) target) :
    Steps tb e below ((s.setTop g).pushFrame (.throwing a)) target := by
  obtain ⟨hgo, hw⟩ := h.throwing a
  refine Steps.head hgo hw ?_
  rw [stepThread_throwing (frames_entered h.top _), (tq_stepc (s := (s.setTop g).pushFrame (.throwing a)) hfind).1]
  obtain ⟨g₀, hg⟩ := Option.isSome_iff_exists.mp h.top
  obtain ⟨r, hr⟩ := State.topJava?_eq_some.mp hg
  have hr' : (s.setVm vm').frames = .java g₀ :: r := hr
  have e1 : (((s.setTop g).pushFrame (.throwing a)).setVm vm').setFrames (.java { g with pc := pc, stack := [.ref a] } :: s.frames.tail) = (s.setVm vm').setTop { g with pc := pc, stack := [.ref a] } := by
    rw [State.pushFrame, State.setTop_of_frames _ hr, State.setFrames_setFrames, State.setTop_of_frames _ hr', hr]
    show ((s.setVm vm').setFrames _).setFrames _ = _
    rw [State.setFrames_setFrames]
    rfl
  rw [e1]
  exact hrest
section TQC
variable {p : Program} {l : Launch} {e : Env} {R : Room} {s : State} {m : MethodId} {args : Array Value} {below : List Frame} {meth : Method} {c : Code} {T : State} {H : Heap} {locs : List Loc} {cells slots : Nat} {Q : State → Prop}
/-- caught by the first entry of the table that covers the place -/
theorem tq_at1 (X : Stand p l e R s m args below meth c T locs cells slots) (a : Addr) {g : JFrame} (hg : g.method = m) {own C : String} (hown : s.vm.findClass own = some m.cls) {x : ExceptionTableEntry} {rest : List ExceptionTableEntry}
    (ht : c.exceptionTable.toList = x :: rest) (hx : covers x g.pc = true) (h0 : x.catchType ≠ 0) (hlink : (Cond.classLink own x.catchType C).before args s = true)
    {ce : Cell} (hce : T.heap[a]? = some ce) (hv : ce.vm = .none) (hC : s.vm.findClass C = some ce.cls) :
    ∃ vm' : Vm, Stand p l e R s m args below meth c (T.setVm vm') locs cells slots ∧ ∀ target, Steps p.tables e below ((T.setVm vm').setTop { g with pc := x.handlerPc, stack := [.ref a] }) target → Steps p.tables e below ((T.setTop g).pushFrame (.throwing a)) target := by
  subst hg
  have hpl : e.platform.magicAccessors = ({} : Platform).magicAccessors := by rw [X.admits.platform]
  obtain ⟨cc, hfcc, hcl⟩ := Cond.classLink_spec hown hlink e.platform hpl
  cases hC.symm.trans hfcc
  obtain ⟨hg₁, hwarm₁, hready₁⟩ := State.classEntry (e := e) X.warmed hcl
  have hsz : (T.vm.noted g.method.cls x.catchType (.cls ce.cls)).classes.size ≤ T.vm.classes.size := by no_record
  generalize T.vm.noted g.method.cls x.catchType (.cls ce.cls) = vm₁ at hg₁ hwarm₁ hready₁ hsz
  obtain ⟨k0, hk0, -⟩ := Vm.findClass_spec hC
  obtain ⟨k1, hk1, -⟩ := hwarm₁.alike.2.2 _ _ hk0
  have X₁ := X.noted hwarm₁
  refine ⟨vm₁, X₁, fun target hrest => tq_caught X.here (vm' := vm₁) (pc := x.handlerPc) ?_ hrest⟩
  intro Q E d acts
  rw [W.findHandler_eq (meth := meth) (code := c) (by rw [Stand.throwing_vm]; exact X.method') X.code, ht, tq_go hx h0 (by rw [Stand.throwing_vm]; exact hg₁) (by rw [Stand.throwing_vm]; exact hsz) (by rw [Stand.throwing_heap]; exact hce) (fun k h => by rw [hv] at h; cases h) ⟨k1, hk1⟩ ⟨k1, hk1⟩, if_pos (va_asg _ _)]
/-- caught by the second, the first names another class -/
theorem tq_at2 (X : Stand p l e R s m args below meth c T locs cells slots) (a : Addr) {g : JFrame} (hg : g.method = m) {own C C0 : String} (hown : s.vm.findClass own = some m.cls) {x0 x : ExceptionTableEntry} {rest : List ExceptionTableEntry}
    (ht : c.exceptionTable.toList = x0 :: x :: rest) (hx0 : covers x0 g.pc = true) (hx : covers x g.pc = true) (h00 : x0.catchType ≠ 0) (h0 : x.catchType ≠ 0) (hlink0 : (Cond.classLink own x0.catchType C0).before args s = true) (hlink : (Cond.classLink own x.catchType C).before args s = true)
    {ce : Cell} (hce : T.heap[a]? = some ce) (hv : ce.vm = .none) (hC : s.vm.findClass C = some ce.cls) (hno : va_Nc C C0 s) :
    ∃ vm' : Vm, Stand p l e R s m args below meth c (T.setVm vm') locs cells slots ∧ ∀ target, Steps p.tables e below ((T.setVm vm').setTop { g with pc := x.handlerPc, stack := [.ref a] }) target → Steps p.tables e below ((T.setTop g).pushFrame (.throwing a)) target := by
  subst hg
  have hpl : e.platform.magicAccessors = ({} : Platform).magicAccessors := by rw [X.admits.platform]
  obtain ⟨cc0, hfcc0, hcl0⟩ := Cond.classLink_spec hown hlink0 e.platform hpl
  obtain ⟨cc, hfcc, hcl⟩ := Cond.classLink_spec hown hlink e.platform hpl
  cases hC.symm.trans hfcc
  obtain ⟨n1, n2, hn1, hn2, hn3⟩ := hno
  cases hC.symm.trans hn1
  cases hfcc0.symm.trans hn2
  obtain ⟨hg₁, hwarm₁, hready₁⟩ := State.classEntry (e := e) X.warmed hcl0
  have hsz : (T.vm.noted g.method.cls x0.catchType (.cls cc0)).classes.size ≤ T.vm.classes.size := by no_record
  generalize T.vm.noted g.method.cls x0.catchType (.cls cc0) = vm₁ at hg₁ hwarm₁ hready₁ hsz
  have X₁ := X.noted hwarm₁
  obtain ⟨hg₂, hwarm₂, hready₂⟩ := State.classEntry (e := e) X₁.warmed hcl
  have hsz2 : ((T.setVm vm₁).vm.noted g.method.cls x.catchType (.cls ce.cls)).classes.size ≤ (T.setVm vm₁).vm.classes.size := by no_record
  generalize (T.setVm vm₁).vm.noted g.method.cls x.catchType (.cls ce.cls) = vm₂ at hg₂ hwarm₂ hready₂ hsz2
  obtain ⟨k0, hk0, -⟩ := Vm.findClass_spec hC
  obtain ⟨k1, hk1, -⟩ := hwarm₁.alike.2.2 _ _ hk0
  obtain ⟨k2, hk2, -⟩ := hwarm₂.alike.2.2 _ _ hk0
  obtain ⟨j0, hj0, -⟩ := Vm.findClass_spec hfcc0
  obtain ⟨j1, hj1, -⟩ := hwarm₁.alike.2.2 _ _ hj0
  have X₂ := X₁.noted hwarm₂
  refine ⟨vm₂, X₂, fun target hrest => tq_caught X.here (vm' := vm₂) (pc := x.handlerPc) ?_ hrest⟩
  intro Q E d acts
  rw [W.findHandler_eq (meth := meth) (code := c) (by rw [Stand.throwing_vm]; exact X.method') X.code, ht, tq_go hx0 h00 (by rw [Stand.throwing_vm]; exact hg₁) (by rw [Stand.throwing_vm]; exact hsz) (by rw [Stand.throwing_heap]; exact hce) (fun k h => by rw [hv] at h; cases h) ⟨k1, hk1⟩ ⟨j1, hj1⟩,
    if_neg (by rw [hwarm₁.alike.assignable, hn3]; decide), tq_go (s := ((T.setTop g).pushFrame (.throwing a)).setVm vm₁) hx h0 hg₂ hsz2 (by show ((T.setTop g).pushFrame (.throwing a)).heap[a]? = _; rw [Stand.throwing_heap]; exact hce) (fun k h => by rw [hv] at h; cases h) ⟨k2, hk2⟩ ⟨k2, hk2⟩, if_pos (va_asg _ _)]
  rfl
end TQC
end
section
section TQV
variable {p : Program} {l : Launch} {e : Env} {R : Room} {s : State} {m : MethodId} {args : Array Value} {below : List Frame} {meth : Method} {c : Code} {T : State} {H : Heap} {locs : List Loc} {cells slots : Nat} {Q : State → Prop}
/-- a call whose method throws -/
theorem tq_callV (X : Stand p l e R s m args below meth c T locs cells slots) (hexec : p.tables.exec = Jvm.exec) {own C : String} {index : Nat} {y : MethodName} {bytes : ByteArray} {maxL : Nat} {ret : Option FieldType}
    {ws : List Cond} {rm : Room} {Pc : Array Value → State → Prop} {Qc : Array Value → State → Addr → State → Prop} {mc ms n : Nat} (hM : tq_Met l y ws rm Pc Qc mc ms) (cw : CallW R s args own C index y bytes maxL ret ws rm mc ms n) (hblind : FrameBlind Pc)
    (hown : s.vm.findClass own = some m.cls) {b : Addr} {cellB : Cell} (hcell : T.heap[b]? = some cellB) (hobj : cellB.vm.isStatics = false) (hcls : s.vm.findClass C = some cellB.cls)
    {g : JFrame} (hg : g.method = m) (hsize : g.locals.size = c.maxLocals) {argsL rest : List Value} (hlen : argsL.length = n)
    (hstack : g.stack = argsL.reverse ++ .ref b :: rest) (hW : 2 * g.monitorRoom + (rest.map fun v => v.category).sum ≤ 8) (hdg : decode c.code g.pc = .ok (.invokevirtual index, 3))
    (hcells : cells + mc ≤ R.cells) (hslots : slots + ms ≤ R.slots) (hPc : ∀ vm₁, s.WarmedH vm₁ → Pc (Value.ref b :: argsL).toArray (T.setVm vm₁)) :
    ∃ (x : Addr) (vm₁ : Vm) (g' : JFrame) (mk : MethodId) (t T' : State), Stand p l e R s m args below meth c T' locs (cells + mc) (slots + ms) ∧ s.WarmedH vm₁ ∧ T'.heap = t.heap ∧ T'.vm = t.vm ∧
      Qc (Value.ref b :: argsL).toArray ((T.setVm vm₁).calling g' mk (Value.ref b :: argsL).toArray) x t ∧
      ∀ target, Steps p.tables e below ((T'.setTop { g with stack := rest }).pushFrame (.throwing x)) target → Steps p.tables e below (T.setTop g) target := by
  obtain ⟨⟨hrc, hrs, hframes, hlocals, hws, hcw, hcode, hini, hy, hln, hlink⟩, hinst, hsel⟩ := cw
  obtain ⟨mk, methM, hnamed, hmethM, hstM, habM⟩ := Cond.instanceMethod_spec hinst
  obtain ⟨methM', cM, hmethM', -, -, -, -, -, -, hsigM⟩ := Cond.code_spec hnamed hcode
  cases hmethM.symm.trans hmethM'
  obtain ⟨c2, r2, m2, q1, q2, q3, q4, kP, hkP, hkPi⟩ := Cond.selects_spec hsel
  cases hcls.symm.trans q1
  cases (State.methodFound?_of_named hnamed hy).symm.trans q2
  cases hnamed.symm.trans q3
  have hselP : selectMethod e.platform s.vm cellB.cls mk = .method mk := by rw [Launch.admits_selectMethod X.admits]; exact q4
  obtain ⟨vm₁, X₁, hstep₁⟩ := X.invokevirtual hexec hown hlink hnamed hmethM hstM hkP hkPi hy (a := b) (cell := cellB) hcell
    (fun z h => by rw [h] at hobj; cases hobj) hselP hmethM habM hkP hkPi (g := g) hg (argsL := argsL) (rest := rest) (hlen.trans (hln _ hsigM)) hstack hdg
  obtain ⟨kY, hkY, -⟩ := className_of_methodNamed (X₁.named hnamed)
  have hinitY : kY.init = .initialized := Cond.initialized_spec (args := #[]) (findClass_of_methodNamed (X₁.named hnamed)) hkY (word_at (a' := #[]) X₁.warmed (Or.inl (by first | rfl | simp [Cond.onTables, Cond.keeps, Cond.steady])) hini)
  obtain ⟨methY, cY, hmY, hcY, -, hlY, -⟩ := Cond.code_spec (X₁.named hnamed) (hws _ hcw (Value.ref b :: argsL).toArray _ X₁.warmed)
  have h : At (T.setVm vm₁) ({ g with stack := rest } : JFrame).method c below := by show At _ g.method _ _; rw [hg]; exact X₁.here
  have happ : (headSpec ws rm).appliesLoose y e.platform ((T.setVm vm₁).calling { g with stack := rest } mk (Value.ref b :: argsL).toArray) = true :=
    Spec.appliesLoose_calling (g := { g with stack := rest }) h hdg (X₁.named hnamed) hkY hinitY
      (X₁.room_calling (g := { g with stack := rest }) (R' := (headSpec ws rm).room) hsize hmY hcY hframes (by rw [hlY]; show 2 * g.monitorRoom + (rest.map fun v => v.category).sum + (maxL + 11) + rm.locals ≤ _; omega) (by rw [show (headSpec ws rm).room.cells = mc from hrc]; exact hcells) (by rw [show (headSpec ws rm).room.slots = ms from hrs]; exact hslots))
      (atoms_intro fun w hw => hws w hw _ _ X₁.warmed)
  obtain ⟨mid, hmid⟩ := h.above
  have hfr : ((T.setVm vm₁).setTop { g with stack := rest }).frames = (.java { g with stack := rest } :: mid) ++ below := by rw [State.frames_setTop' _ h.top, hmid]; rfl
  obtain ⟨o, s₂, hsteps, -, hend, hq0⟩ := Steps.callFree hM p X.admits X.cas X.clock (acts := []) hfr happ (hblind _ _ _ _ (hPc vm₁ X₁.warmed)) trivial
  have hq1 : ∃ x, o = .threw x ∧ Qc (Value.ref b :: argsL).toArray ((T.setVm vm₁).calling { g with stack := rest } mk (Value.ref b :: argsL).toArray) x s₂ ∧ tq_End ((T.setVm vm₁).calling { g with stack := rest } mk (Value.ref b :: argsL).toArray) s₂ mc ms := hq0
  obtain ⟨x, rfl, hq, hW₂, e2, q2, q3, q4, q5, q6⟩ := hq1
  rw [State.frames_setTop' _ h.top] at hend
  have e3 : s₂ = ({ ((T.setVm vm₁).calling { g with stack := rest } mk (Value.ref b :: argsL).toArray).setFrames s₂.frames with heap := s₂.heap, slotsUsed := s₂.slotsUsed } : State).setVm s₂.vm := by
    have : s₂ = ({ s₂ with vm := ((T.setVm vm₁).calling { g with stack := rest } mk (Value.ref b :: argsL).toArray).vm } : State).setVm s₂.vm := rfl
    rw [e2] at this
    exact this
  have hW' : (T.setVm vm₁).WarmedH s₂.vm := hW₂
  obtain ⟨g₀, hg0⟩ := Option.isSome_iff_exists.mp h.top
  obtain ⟨r, hr⟩ := State.topJava?_eq_some.mp hg0
  have hs₂ : s₂ = ((({ T.setVm vm₁ with heap := s₂.heap, slotsUsed := s₂.slotsUsed } : State).setVm s₂.vm).setTop { g with stack := rest }).pushFrame (.throwing x) := by
    have hr' : (({ T.setVm vm₁ with heap := s₂.heap, slotsUsed := s₂.slotsUsed } : State).setVm s₂.vm).frames = .java g₀ :: r := hr
    have hf₂ : s₂.frames = .throwing x :: .java { g with stack := rest } :: (T.setVm vm₁).frames.tail := hend
    refine e3.trans ?_
    rw [hf₂, State.calling_eq h.top, State.setFrames_setFrames, State.pushFrame, State.frames_setTop _ hr', State.setTop_of_frames _ hr', State.setFrames_setFrames, hr]
    rfl
  have hsame : (T.setVm vm₁).sameButNew ({ T.setVm vm₁ with heap := s₂.heap, slotsUsed := s₂.slotsUsed } : State) [] mc ms := by
    refine ⟨?_, q2, q3, q4, q5, q6⟩
    obtain ⟨t, ht, -⟩ := State.frames_cons hr
    show ({ T.setVm vm₁ with heap := s₂.heap, slotsUsed := s₂.slotsUsed } : State) = { (T.setVm vm₁).setFrames (T.setVm vm₁).frames with heap := s₂.heap, slotsUsed := s₂.slotsUsed }
    rw [State.setFrames_self ht]
  subst hg
  have hS2 := X₁.same.trans (hsame.setVm s.vm)
  rw [List.append_nil] at hS2
  refine ⟨x, vm₁, { g with stack := rest }, mk, s₂, (({ T.setVm vm₁ with heap := s₂.heap, slotsUsed := s₂.slotsUsed } : State).setVm s₂.vm),
    ⟨X₁.admits, X₁.cas, X₁.clock, X₁.frames, X₁.room, X₁.hears, X₁.method, X₁.code, (X₁.here.setHeapUsed s₂.heap s₂.slotsUsed).setVm hW'.alike, X₁.tail, State.WarmedH.trans X₁.warmed hW', X₁.limits, X₁.bytes, hS2⟩,
    X₁.warmed, rfl, rfl, hq, fun target ht => hstep₁ _ fun acts => ?_⟩
  rw [doInvoke_state]
  rw [← hs₂] at ht
  exact hsteps.trans ht
variable {cc : ByteArray} {nL index maxL mc ms n pc : Nat} {own C : String} {Ts : List Cond} {y : MethodName} {bytes : ByteArray} {ret : Option FieldType} {ws : List Cond} {rm : Room} {Pc : Array Value → State → Prop} {b : Addr} {As rest st0 : List Value} {ls : Array Slot} {E : String}
/-- a call that throws an E, caught by the table's first entry -/
theorem tq_c1 (S : CallFix p m c cc nL s args Ts own) (hM : tq_Met l y ws rm Pc (tq_Q E) mc ms) (cw : CallW R s args own C index y bytes maxL ret ws rm mc ms n) (hp : PreV s H C b Pc As)
    (hn : As.length = n) (hsize : ls.size = nL) (hstack : st0 = As.reverse ++ .ref b :: rest) (hW : (rest.map fun v => v.category).sum ≤ 8) (hdg : decode cc pc = .ok (.invokevirtual index, 3)) (hf : cells + mc ≤ R.cells ∧ slots + ms ≤ R.slots)
    {x : ExceptionTableEntry} {tl : List ExceptionTableEntry} (ht : c.exceptionTable.toList = x :: tl) (hx : covers x pc = true) (h0 : x.catchType ≠ 0) (hlink : (Cond.classLink own x.catchType E).before args s = true)
    (kk : ∀ (a : Addr) (H1 : Heap), H.size ≤ H1.size → (∀ q : Nat, q < H.size → H1[q]? = H[q]?) → W p l e R s m args below meth c H1 locs (cells + mc) (slots + ms) Q (F0 m x.handlerPc ls [.ref a])) : W p l e R s m args below meth c H locs cells slots Q (F0 m pc ls st0) := by
  obtain ⟨hexec, hb, hml, ho, -⟩ := S
  obtain ⟨hblind, ⟨cellB, hcB, hoB, hclB⟩, hPc⟩ := hp
  intro T hT X
  obtain ⟨a, vm₁, g', mk, t, T', X', hwm, e1, e2, ⟨q1, ⟨ce, hce, hcc, hcv⟩, q3⟩, st⟩ := tq_callV X hexec hM cw hblind ho (by rw [hT]; exact hcB) hoB hclB (g := F0 m pc ls st0) rfl (hsize.trans hml.symm) (argsL := As) (rest := rest) hn hstack (by show 2 * 0 + _ ≤ _; omega) (by rw [hb]; exact hdg) hf.1 hf.2 (fun vm₁ hW₁ => hPc (T.setVm vm₁) hT hW₁)
  have hcE : s.vm.findClass E = some ce.cls := by rw [← hwm.alike.findClass]; exact hcc
  obtain ⟨vm₂, X₂, st₂⟩ := tq_at1 X' a (g := { F0 m pc ls st0 with stack := rest }) rfl ho ht hx h0 hlink (by rw [e1]; exact hce) hcv hcE
  have hk : ∀ q : Nat, q < H.size → T'.heap[q]? = H[q]? := fun q hq => by
    rw [e1, q3 q (by show q < T.heap.size; rw [hT]; exact hq)]
    show T.heap[q]? = _
    rw [hT]
  have hsz : H.size ≤ T'.heap.size := by
    have h1 := X'.heapSize
    have h2 := X.heapSize
    rcases Nat.lt_or_ge T'.heap.size H.size with h | h
    · exfalso
      have h3 := hk T'.heap.size h
      rw [Array.getElem?_eq_none (Nat.le_refl _), Array.getElem?_eq_getElem h] at h3
      cases h3
    · exact h
  obtain ⟨t2, a1, b1⟩ := kk a T'.heap hsz hk (T'.setVm vm₂) rfl X₂
  exact ⟨t2, st _ (st₂ _ a1), b1⟩
/-- a call that throws an E, caught by the table's second entry, the first naming an E0 -/
theorem tq_c2 {E0 : String} (S : CallFix p m c cc nL s args Ts own) (hM : tq_Met l y ws rm Pc (tq_Q E) mc ms) (cw : CallW R s args own C index y bytes maxL ret ws rm mc ms n) (hp : PreV s H C b Pc As)
    (hn : As.length = n) (hsize : ls.size = nL) (hstack : st0 = As.reverse ++ .ref b :: rest) (hW : (rest.map fun v => v.category).sum ≤ 8) (hdg : decode cc pc = .ok (.invokevirtual index, 3)) (hf : cells + mc ≤ R.cells ∧ slots + ms ≤ R.slots)
    {x0 x : ExceptionTableEntry} {tl : List ExceptionTableEntry} (ht : c.exceptionTable.toList = x0 :: x :: tl) (hx0 : covers x0 pc = true) (hx : covers x pc = true) (h00 : x0.catchType ≠ 0) (h0 : x.catchType ≠ 0) (hlink0 : (Cond.classLink own x0.catchType E0).before args s = true) (hlink : (Cond.classLink own x.catchType E).before args s = true) (hno : va_Nc E E0 s)
    (kk : ∀ (a : Addr) (H1 : Heap), H.size ≤ H1.size → (∀ q : Nat, q < H.size → H1[q]? = H[q]?) → W p l e R s m args below meth c H1 locs (cells + mc) (slots + ms) Q (F0 m x.handlerPc ls [.ref a])) : W p l e R s m args below meth c H locs cells slots Q (F0 m pc ls st0) := by
  obtain ⟨hexec, hb, hml, ho, -⟩ := S
  obtain ⟨hblind, ⟨cellB, hcB, hoB, hclB⟩, hPc⟩ := hp
  intro T hT X
  obtain ⟨a, vm₁, g', mk, t, T', X', hwm, e1, e2, ⟨q1, ⟨ce, hce, hcc, hcv⟩, q3⟩, st⟩ := tq_callV X hexec hM cw hblind ho (by rw [hT]; exact hcB) hoB hclB (g := F0 m pc ls st0) rfl (hsize.trans hml.symm) (argsL := As) (rest := rest) hn hstack (by show 2 * 0 + _ ≤ _; omega) (by rw [hb]; exact hdg) hf.1 hf.2 (fun vm₁ hW₁ => hPc (T.setVm vm₁) hT hW₁)
  have hcE : s.vm.findClass E = some ce.cls := by rw [← hwm.alike.findClass]; exact hcc
  obtain ⟨vm₂, X₂, st₂⟩ := tq_at2 X' a (g := { F0 m pc ls st0 with stack := rest }) rfl ho ht hx0 hx h00 h0 hlink0 hlink (by rw [e1]; exact hce) hcv hcE hno
  have hk : ∀ q : Nat, q < H.size → T'.heap[q]? = H[q]? := fun q hq => by
    rw [e1, q3 q (by show q < T.heap.size; rw [hT]; exact hq)]
    show T.heap[q]? = _
    rw [hT]
  have hsz : H.size ≤ T'.heap.size := by
    rcases Nat.lt_or_ge T'.heap.size H.size with h | h
    · exfalso
      have h3 := hk T'.heap.size h
      rw [Array.getElem?_eq_none (Nat.le_refl _), Array.getElem?_eq_getElem h] at h3
      cases h3
    · exact h
  obtain ⟨t2, a1, b1⟩ := kk a T'.heap hsz hk (T'.setVm vm₂) rfl X₂
  exact ⟨t2, st _ (st₂ _ a1), b1⟩
end TQV
end
section
/-! multianewarray of two dimensions of ints, made in one instruction -/
def tq_fill (a : Nat) (inner : Cell) : Nat → Nat → Cell → State → State
  | 0, _, _, U => U
  | k + 1, i, c, U => tq_fill a inner k (i + 1) (c.setSlot i (.ref U.heap.size)) ((U.pushCell inner).setCell a (c.setSlot i (.ref U.heap.size)))
theorem tq_fill_heap {a : Nat} {inner : Cell} : ∀ (k i : Nat) (c : Cell) (U : State), a < U.heap.size → (tq_fill a inner k i c U).heap.size = U.heap.size + k ∧ ∀ q : Nat, q < U.heap.size → q ≠ a → (tq_fill a inner k i c U).heap[q]? = U.heap[q]? := by
  intro k
  induction k with
  | zero => intro i c U ha; exact ⟨rfl, fun _ _ _ => rfl⟩
  | succ k ih =>
    intro i c U ha
    have hz : ((U.pushCell inner).setCell a (c.setSlot i (.ref U.heap.size))).heap.size = U.heap.size + 1 := by rw [size_setCell, size_pushCell]
    obtain ⟨h1, h2⟩ := ih (i + 1) (c.setSlot i (.ref U.heap.size)) ((U.pushCell inner).setCell a (c.setSlot i (.ref U.heap.size))) (by omega)
    refine ⟨by show (tq_fill a inner k _ _ _).heap.size = _; rw [h1, hz]; omega, fun q hq hne => ?_⟩
    show (tq_fill a inner k _ _ _).heap[q]? = _
    rw [h2 q (by omega) hne, heapAt_setCell_ne _ (Ne.symm hne)]
    exact State.heap_pushCell_of_lt _ _ hq
theorem tq_newArray {Q : Addr → Pre} {E : CtlPost} {e : Env} {d : Bool} {acts : List Action} {s : State} {c n : Nat} {v : Value} {k : Class} {comp : ClassId} {ty : FieldType} (hk : s.vm.classes[c]? = some k) (hkind : k.kind = .array comp ty) (hlim : ¬ n > e.platform.arrayLengthLimit) (hhp : ¬ n * componentBytes ty > e.platform.maxHeapBytes)
    (h1 : s.heap.size < e.platform.maxCells) (h2 : s.slotsUsed + n ≤ e.platform.maxSlots) (hv : fits ty v = true) (hq : ∀ acts', Q s.heap.size d acts' (s.pushCell { cls := c, slots := Array.replicate n v, vm := .none })) : wp (Jvm.newArray c n v) Q E e d acts s := by
  have hs : ¬ n > e.platform.maxSlots := by omega
  simp only [Jvm.newArray, Jvm.arrayFits, wp_bind', W.ask, W.ite, hlim, if_false, wp_pure', W.theClass, hk]
  refine ⟨k, rfl, ?_⟩
  rw [hkind]
  simp only [wp_bind', W.ask, W.ite, hhp, hs, if_false, wp_pure', W.alloc]
  refine ⟨h1, by simpa using h2, fun i w hw => ?_, hq _⟩
  simp only [Array.getElem?_replicate] at hw
  split at hw
  · cases hw; simp [State.fitsSlot, State.slotType?, hk, hkind, hv]
  · cases hw
section TQM
variable {p : Program} {l : Launch} {e : Env} {R : Room} {s : State} {m : MethodId} {args : Array Value} {below : List Frame} {meth : Method} {c : Code} {H : Heap} {locs : List Loc} {Q : State → Prop}
theorem tq_fill_stand {a : Nat} {inner : Cell} (ha : s.heap.size ≤ a) : ∀ (k i : Nat) (co : Cell) (U : State) (cells slots : Nat), U.heap[a]? = some co → Stand p l e R s m args below meth c U locs cells slots → Stand p l e R s m args below meth c (tq_fill a inner k i co U) locs (cells + k) (slots + k * inner.slots.size) := by
  intro k
  induction k with
  | zero => intro i co U cells slots _ X; rw [Nat.zero_mul]; exact X
  | succ k ih =>
    intro i co U cells slots hc X
    have hl : a < U.heap.size := (Array.getElem?_eq_some_iff.mp hc).1
    have X1 := X.pushed inner
    have hc1 : (U.pushCell inner).heap[a]? = some co := by rw [State.heap_pushCell_of_lt _ _ hl]; exact hc
    have X2 := X1.stored hc1 i (.ref U.heap.size)
    have X3 : Stand p l e R s m args below meth c ((U.pushCell inner).setCell a (co.setSlot i (.ref U.heap.size))) locs (cells + 1) (slots + inner.slots.size) := by
      refine Stand.forget X2 (fun q hq => ?_)
      rw [List.mem_singleton.mp hq]
      exact ha
    have X4 := ih (i + 1) (co.setSlot i (.ref U.heap.size)) _ _ _ (heapAt_setCell_self (s := U.pushCell inner) _ (show a < (U.pushCell inner).heap.size by rw [size_pushCell]; omega)) X3
    rw [show cells + (k + 1) = cells + 1 + k by omega, show slots + (k + 1) * inner.slots.size = slots + inner.slots.size + k * inner.slots.size by rw [Nat.succ_mul]; omega]
    exact X4
theorem tq_fill_wp {a n : Nat} {comp cO : ClassId} {kO kI : Class} {tI : ClassId} (ha : s.heap.size ≤ a) (hn : ¬ n > 536870912 / 4) {f : JFrame} {body : Nat → PUnit → Sem (ForInStep PUnit)}
    (hbody : ∀ i u, body i u = (do let x ← multianewarray.make comp [Int32.ofNat n]; Jvm.writeLoc a i (.ref x); Pure.pure (ForInStep.yield PUnit.unit)))
    (hN : n < 2 ^ 31) :
    ∀ (k i : Nat) (co : Cell) (U : State) (cells slots : Nat) (d : Bool) (acts : List Action) (E : CtlPost) (Q : PUnit → Pre), U.heap[a]? = some co → co.cls = cO → co.vm = .none → U.vm.classes[cO]? = some kO → kO.kind = .array comp (.array .int) → U.vm.classes[comp]? = some kI → kI.kind = .array tI .int → i + k ≤ co.slots.size →
      Stand p l e R s m args below meth c U locs cells slots → cells + k ≤ R.cells → slots + k * n ≤ R.slots →
      (∀ d' acts', Q PUnit.unit d' acts' ((tq_fill a { cls := comp, slots := Array.replicate n (.int 0), vm := .none } k i co U).setTop f)) → wp (forIn (List.range' i k) PUnit.unit body) Q E e d acts (U.setTop f) := by
  intro k
  induction k with
  | zero =>
    intro i co U cells slots d acts E Q _ _ _ _ _ _ _ _ _ _ _ hq
    simp only [List.range'_zero, List.forIn_nil, wp_pure']
    exact hq d acts
  | succ k ih =>
    intro i co U cells slots d acts E Q hc h1 h2 h3 h4 h5 h6 hi X hcl hsl hq
    have hl : a < U.heap.size := (Array.getElem?_eq_some_iff.mp hc).1
    have hr1 := X.cellsAbove (n := k + 1) hcl
    have hr2 := X.slotsAbove (n := (k + 1) * n) hsl
    have hneg : ¬ Int32.ofNat n < 0 := nI_pos hN
    have hcl2 : (Int32.ofNat n).toNatClampNeg = n := nI_clamp hN
    have hlim : ¬ n > e.platform.arrayLengthLimit := by rw [Launch.admits_arrayLengthLimit X.admits]; omega
    have hhp : ¬ n * componentBytes .int > e.platform.maxHeapBytes := by rw [Launch.admits_maxHeapBytes X.admits]; show ¬ n * 4 > 536870912; omega
    have hm : n ≤ (k + 1) * n := Nat.le_mul_of_pos_left n (Nat.succ_pos k)
    simp only [List.range'_succ, List.forIn_cons, hbody, wp_bind', multianewarray.make, W.ite, hneg, if_false, wp_pure', W.theClass, State.vm_setTop, h5, hcl2]
    refine ⟨kI, rfl, ?_⟩
    rw [h6]
    refine tq_newArray (s := U.setTop f) (k := kI) (comp := tI) (ty := .int) h5 h6 hlim hhp (by show U.heap.size < _; omega) (by show U.slotsUsed + n ≤ _; omega) rfl (fun acts' => ?_)
    simp only [wp_bind', W.writeLoc, wp_pure']
    have hc1 : (U.pushCell { cls := comp, slots := Array.replicate n (defaultValue .int), vm := .none }).heap[a]? = some co := by rw [State.heap_pushCell_of_lt _ _ hl]; exact hc
    refine ⟨co, hc1, (by rw [h2]; exact fun h => nomatch h), by omega, ?_, ?_⟩
    · show State.fitsSlot _ co.cls co.vm i _ = true
      rw [h1, h2]
      simp [State.fitsSlot, State.slotType?, h3, h4, fits]
    · have hX1 := X.pushed { cls := comp, slots := Array.replicate n (.int 0), vm := .none }
      have hX2 := hX1.stored hc1 i (.ref U.heap.size)
      have hX3 := Stand.forget hX2 (fun q hq => by rw [List.mem_singleton.mp hq]; exact ha)
      have hsz : ({ cls := comp, slots := Array.replicate n (.int 0), vm := .none } : Cell).slots.size = n := by simp
      have hX4 : Stand p l e R s m args below meth c ((U.pushCell { cls := comp, slots := Array.replicate n (.int 0), vm := .none }).setCell a (co.setSlot i (.ref U.heap.size))) locs (cells + 1) (slots + n) := by
        rw [hsz] at hX3
        exact hX3
      refine ih (i + 1) (co.setSlot i (.ref U.heap.size)) ((U.pushCell { cls := comp, slots := Array.replicate n (.int 0), vm := .none }).setCell a (co.setSlot i (.ref U.heap.size))) (cells + 1) (slots + n) _ _ E Q (heapAt_setCell_self (s := U.pushCell _) _ (show a < (U.pushCell _).heap.size by rw [size_pushCell]; omega)) h1 h2 h3 h4 h5 h6 (by simp [Cell.setSlot]; omega) hX4 (by omega) (by rw [Nat.succ_mul] at hsl; omega) hq
variable {cells slots : Nat} {cc : ByteArray} {pc : Nat} {ls : Array Slot} {rest : List Value}
theorem tq_multi (hexec : p.tables.exec = Jvm.exec) (hb : c.code = cc) {own : String} {index : Nat} (hown : s.vm.findClass own = some m.cls) (hclink : (Cond.classLink own index "[[I").before args s = true) (hover : (Cond.arrayOver (.array .int)).before args s = true) (harr : (Cond.arrayClass .int).before args s = true)
    {k n : Nat} (hk : k ≤ 65536) (hn : n ≤ 65536) (hk0 : 0 < k) (hdg : decode cc pc = .ok (.multianewarray index 2, 4)) (hcells : cells + (1 + k) ≤ R.cells) (hslots : slots + (k + k * n) ≤ R.slots) (hsH : s.heap.size ≤ H.size)
    (kk : ∀ H1 : Heap, H1.size = H.size + (1 + k) → (∀ z : Nat, z < H.size → H1[z]? = H[z]?) → W p l e R s m args below meth c H1 locs (cells + (1 + k)) (slots + (k + k * n)) Q (F0 m (pc + 4) ls (.ref H.size :: rest))) : W p l e R s m args below meth c H locs cells slots Q (F0 m pc ls (.int (nI n) :: .int (nI k) :: rest)) := by
  intro T hT X
  have hpl : e.platform.magicAccessors = ({} : Platform).magicAccessors := by rw [X.admits.platform]
  obtain ⟨comp, cA, kA, hcomp, -, hkA, hkindA, hnameA⟩ := arrayOverA_spec hover
  obtain ⟨cI, kI, tI, hcI, hkI, hkindI⟩ := Cond.arrayClass_spec harr
  have hcc : comp = cI := Option.some.inj (hcomp.symm.trans hcI)
  subst hcc
  obtain ⟨c3, hfc3, hcl⟩ := Cond.classLink_spec hown hclink e.platform hpl
  have hc3 : cA = c3 := Option.some.inj (hnameA.symm.trans hfc3)
  subst hc3
  obtain ⟨hg₁, hwarm₁, hready₁⟩ := State.classEntry (e := e) X.warmed hcl
  have hsz : (T.vm.noted m.cls index (.cls cA)).classes.size ≤ T.vm.classes.size := by no_record
  generalize T.vm.noted m.cls index (.cls cA) = vm₁ at hg₁ hwarm₁ hready₁ hsz
  have hal := hwarm₁.alike
  obtain ⟨kA₁, hkA₁, heA⟩ := hal.2.2 _ _ hkA
  have hkindA₁ : kA₁.kind = .array comp (.array .int) := by rw [heA]; exact hkindA
  obtain ⟨kI₁, hkI₁, heI⟩ := hal.2.2 _ _ hkI
  have hkindI₁ : kI₁.kind = .array tI .int := by rw [heI]; exact hkindI
  have X₁ := X.noted hwarm₁
  have X₂ := X₁.pushed { cls := cA, slots := Array.replicate k .null, vm := .none }
  have hX₂ : Stand p l e R s m args below meth c ((T.setVm vm₁).pushCell { cls := cA, slots := Array.replicate k .null, vm := .none }) locs (cells + 1) (slots + k) := by simpa using X₂
  have hc0 : ((T.setVm vm₁).pushCell { cls := cA, slots := Array.replicate k .null, vm := .none }).heap[T.heap.size]? = some { cls := cA, slots := Array.replicate k .null, vm := .none } := State.heap_pushCell_size (T.setVm vm₁) _
  have hsT : s.heap.size ≤ T.heap.size := by rw [hT]; exact hsH
  have X₃ := tq_fill_stand (inner := { cls := comp, slots := Array.replicate n (.int 0), vm := .none }) hsT k 0 _ _ _ _ hc0 hX₂
  obtain ⟨z1, z2⟩ := tq_fill_heap (a := T.heap.size) (inner := { cls := comp, slots := Array.replicate n (.int 0), vm := .none }) k 0 { cls := cA, slots := Array.replicate k .null, vm := .none } ((T.setVm vm₁).pushCell { cls := cA, slots := Array.replicate k .null, vm := .none }) (by rw [size_pushCell]; exact Nat.lt_succ_self _)
  have hX₃ : Stand p l e R s m args below meth c (tq_fill T.heap.size { cls := comp, slots := Array.replicate n (.int 0), vm := .none } k 0 { cls := cA, slots := Array.replicate k .null, vm := .none } ((T.setVm vm₁).pushCell { cls := cA, slots := Array.replicate k .null, vm := .none })) locs (cells + (1 + k)) (slots + (k + k * n)) := by
    have h := X₃
    rw [show ({ cls := comp, slots := Array.replicate n (.int 0), vm := .none } : Cell).slots.size = n by simp, Nat.add_assoc, Nat.add_assoc] at h
    exact h
  have hr1 := X.cellsAbove (n := 1 + k) hcells
  have hr2 := X.slotsAbove (n := k + k * n) hslots
  have hsT2 : ((T.setVm vm₁).pushCell { cls := cA, slots := Array.replicate k .null, vm := .none }).heap.size = H.size + 1 := by rw [size_pushCell, ← hT]; rfl
  obtain ⟨t, a1, b1⟩ := kk _ (by rw [z1, hsT2]; omega) (fun z hz => by
      rw [z2 z (by rw [hsT2]; omega) (by rw [hT]; omega), State.heap_pushCell_of_lt _ _ (by show z < T.heap.size; rw [hT]; exact hz)]
      show T.heap[z]? = _
      rw [hT]) _ rfl hX₃
  refine ⟨t, ?_, b1⟩
  have hkn : ¬ nI k < 0 := nI_pos (by omega)
  have hkc : (nI k).toNatClampNeg = k := nI_clamp (by omega)
  have hlim : ¬ k > e.platform.arrayLengthLimit := by rw [Launch.admits_arrayLengthLimit X.admits]; omega
  have hhp : ¬ k * componentBytes (.array .int) > e.platform.maxHeapBytes := by rw [Launch.admits_maxHeapBytes X.admits]; show ¬ k * 4 > 536870912; omega
  obtain ⟨ha, ht⟩ := hg₁.op (op := VmOp.resolveClass m.cls index) rfl
  jvm_step X.here [hexec, hb, hdg, multianewarray.sem]
  refine ⟨(T.setVm vm₁).setTop (F0 m pc ls (.int (nI n) :: .int (nI k) :: rest)), VmOp.lands_eq (s := T.setTop _) ht hsz, ?_⟩
  rw [ha]
  simp only []
  rw [W.popN 2, if_neg (by decide)]
  refine ⟨F0 m pc ls (.int (nI n) :: .int (nI k) :: rest), State.topJava?_setTop' _ X.here.top, [.int (nI k), .int (nI n)], rest, rfl, rfl, ?_⟩
  rw [State.setTop_setTop]
  simp only [List.mapM_cons, List.mapM_nil, wp_bind', wp_pure', multianewarray.make, W.ite, hkn, if_false, W.theClass, State.vm_setTop, State.vm_setVm, hkA₁, hkc]
  refine ⟨kA₁, rfl, ?_⟩
  rw [hkindA₁]
  have hk1 : (nI k == 0) = false := by
    rw [beq_eq_false_iff_ne]
    exact nI_ne0 hk0 (by omega)
  simp only [wp_bind', hk1, Bool.false_eq_true, if_false]
  refine tq_newArray (s := (T.setVm vm₁).setTop _) (k := kA₁) (comp := comp) (ty := .array .int) hkA₁ hkindA₁ hlim hhp (by show T.heap.size < _; omega) (by show T.slotsUsed + k ≤ _; omega) rfl (fun acts' => ?_)
  simp only [Std.Legacy.Range.forIn_eq_forIn_range', Std.Legacy.Range.size, Nat.sub_zero, Nat.add_sub_cancel, Nat.div_one]
  rw [wp_bind', State.pushCell_setTop, show ((T.setVm vm₁).setTop (F0 m pc ls rest)).heap.size = T.heap.size from congrArg Array.size (State.heap_setTop _ _)]
  refine tq_fill_wp (p := p) (l := l) (R := R) (s := s) (m := m) (args := args) (below := below) (meth := meth) (c := c) (locs := locs) (a := T.heap.size) (n := n) (comp := comp) (cO := cA) (kO := kA₁) (kI := kI₁) (tI := tI) hsT (by omega) ?hbody (by omega) k 0 { cls := cA, slots := Array.replicate k .null, vm := .none } ((T.setVm vm₁).pushCell { cls := cA, slots := Array.replicate k .null, vm := .none }) (cells + 1) (slots + k) _ _ _ _ hc0 rfl rfl hkA₁ hkindA₁ hkI₁ hkindI₁ (by simp) hX₂ (by omega) (by omega) (fun d' acts'' => ?_)
  · intro i u
    simp only [multianewarray.make, Std.Legacy.Range.forIn_eq_forIn_range', Std.Legacy.Range.size, Nat.sub_zero, Nat.add_sub_cancel, Nat.div_one]
    rfl
  · simp only [wp_bind', wp_pure', W.mark, W.pushRef]
    refine ⟨_, State.topJava?_setTop' _ hX₃.here.top, fun acts => ?_⟩
    rw [State.setTop_setTop]
    have a2 := a1
    rw [← hT] at a2
    rw [afterInstr_ok]
    exact a2
end TQM
end
