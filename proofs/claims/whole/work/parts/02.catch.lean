/-! an exception is caught where the catch's class may not have been resolved yet -/
def tq_Finds (e : Env) (s : State) (f : JFrame) (a : Addr) (h : Handler) (s' : State) : Prop :=
  ∀ (Q : Handler → Pre) (E : CtlPost) (d : Bool) (acts : List Action), wp (findHandler f a) Q E e d acts s ↔ Q h d acts s'
theorem tq_go {Q : Handler → Pre} {E : CtlPost} {e : Env} {d : Bool} {acts : List Action} {s : State} {f : JFrame} {a : Addr} {x : ExceptionTableEntry} {t : List ExceptionTableEntry} {c : ClassId} {cell : Cell} {vm' : Vm} (hx : covers x f.pc = true) (h0 : x.catchType ≠ 0)
    (hg : (Jvm.resolveClass f.method.cls x.catchType).Gives e.toSetting s.vm (.ok c) vm') (hsz : vm'.classes.size ≤ s.vm.classes.size) (hcell : s.heap[a]? = some cell) (hobj : ∀ k, cell.vm ≠ .statics k)
    (hk : ∃ k, vm'.classes[cell.cls]? = some k) (hc : ∃ k, vm'.classes[c]? = some k) :
    wp (findHandler.go f a (x :: t)) Q E e d acts s ↔
      if vm'.assignable cell.cls c = true then Q (.found x.handlerPc) d acts (s.setVm vm') else wp (findHandler.go f a t) Q E e d acts (s.setVm vm') := by
  simp only [covers] at hx
  obtain ⟨ha, ht⟩ := hg.op (op := VmOp.resolveClass f.method.cls x.catchType) rfl
  cases hfit : vm'.assignable cell.cls c <;>
    simp [findHandler.go, hx, h0, ha, ht, hsz, hcell, hobj, hk, hc, hfit, VmOp.dirties, VmOp.acts]
theorem tq_stepc {e : Env} {s s' : State} {a : Addr} {f : JFrame} {r : List Frame} {pc : Nat} (hfind : tq_Finds e s f a (.found pc) s') :
    (stepThrowing e s a (.java f :: r)).Is (s'.setFrames (.java { f with pc := pc, stack := [.ref a] } :: r)) [] := by
  simp only [stepThrowing, searchFrame, vmDo]
  generalize hr : Sem.go _ e false [] s = res
  obtain ⟨as, rfl, ha⟩ := Sem.eq_ok_of hr (a := Handler.found pc) (s' := s') (acts' := []) (by simp [hfind _ _ _ _])
  exact ⟨rfl, ha⟩
theorem tq_caught {tb : Tables} {e : Env} {s target : State} {g : JFrame} {c : Code} {below : List Frame} {a : Addr} {vm' : Vm} (h : At s g.method c below) {pc : Nat} (hfind : tq_Finds e ((s.setTop g).pushFrame (.throwing a)) g a (.found pc) (((s.setTop g).pushFrame (.throwing a)).setVm vm'))
    (hrest : Steps tb e below ((s.setVm vm').setTop { g with pc := pc, stack := [.ref a] }) target) :
    Steps tb e below ((s.setTop g).pushFrame (.throwing a)) target := by
  obtain ⟨hgo, hw⟩ := h.throwing a
  refine Steps.head hgo hw ?_
  rw [stepThread_throwing (frames_entered h.top _), (tq_stepc (s := (s.setTop g).pushFrame (.throwing a)) hfind).1]
  obtain ⟨g₀, hg⟩ := Option.isSome_iff_exists.mp h.top
  obtain ⟨r, hr⟩ := State.topJava?_eq_some.mp hg
  have hr' : (s.setVm vm').frames = .java g₀ :: r := hr
  have e1 : (((s.setTop g).pushFrame (.throwing a)).setVm vm').setFrames (.java { g with pc := pc, stack := [.ref a] } :: s.frames.tail) = (s.setVm vm').setTop { g with pc := pc, stack := [.ref a] } := by
    rw [State.pushFrame, State.setTop_of_frames _ hr, State.setFrames_setFrames, State.setTop_of_frames _ hr', hr]
    show ((s.setVm vm').setFrames _).setFrames _ = _
    rw [State.setFrames_setFrames]
    rfl
  rw [e1]
  exact hrest
section TQC
variable {p : Program} {l : Launch} {e : Env} {R : Room} {s : State} {m : MethodId} {args : Array Value} {below : List Frame} {meth : Method} {c : Code} {T : State} {H : Heap} {locs : List Loc} {cells slots : Nat} {Q : State → Prop}
/-- caught by the first entry of the table that covers the place -/
theorem tq_at1 (X : Stand p l e R s m args below meth c T locs cells slots) (a : Addr) {g : JFrame} (hg : g.method = m) {own C : String} (hown : s.vm.findClass own = some m.cls) {x : ExceptionTableEntry} {rest : List ExceptionTableEntry}
    (ht : c.exceptionTable.toList = x :: rest) (hx : covers x g.pc = true) (h0 : x.catchType ≠ 0) (hlink : (Cond.classLink own x.catchType C).before args s = true)
    {ce : Cell} (hce : T.heap[a]? = some ce) (hv : ce.vm = .none) (hC : s.vm.findClass C = some ce.cls) :
    ∃ vm' : Vm, Stand p l e R s m args below meth c (T.setVm vm') locs cells slots ∧ ∀ target, Steps p.tables e below ((T.setVm vm').setTop { g with pc := x.handlerPc, stack := [.ref a] }) target → Steps p.tables e below ((T.setTop g).pushFrame (.throwing a)) target := by
  subst hg
  have hpl : e.platform.magicAccessors = ({} : Platform).magicAccessors := by rw [X.admits.platform]
  obtain ⟨cc, hfcc, hcl⟩ := Cond.classLink_spec hown hlink e.platform hpl
  cases hC.symm.trans hfcc
  obtain ⟨hg₁, hwarm₁, hready₁⟩ := State.classEntry (e := e) X.warmed hcl
  have hsz : (T.vm.noted g.method.cls x.catchType (.cls ce.cls)).classes.size ≤ T.vm.classes.size := by no_record
  generalize T.vm.noted g.method.cls x.catchType (.cls ce.cls) = vm₁ at hg₁ hwarm₁ hready₁ hsz
  obtain ⟨k0, hk0, -⟩ := Vm.findClass_spec hC
  obtain ⟨k1, hk1, -⟩ := hwarm₁.alike.2.2 _ _ hk0
  have X₁ := X.noted hwarm₁
  refine ⟨vm₁, X₁, fun target hrest => tq_caught X.here (vm' := vm₁) (pc := x.handlerPc) ?_ hrest⟩
  intro Q E d acts
  rw [W.findHandler_eq (meth := meth) (code := c) (by rw [Stand.throwing_vm]; exact X.method') X.code, ht, tq_go hx h0 (by rw [Stand.throwing_vm]; exact hg₁) (by rw [Stand.throwing_vm]; exact hsz) (by rw [Stand.throwing_heap]; exact hce) (fun k h => by rw [hv] at h; cases h) ⟨k1, hk1⟩ ⟨k1, hk1⟩, if_pos (va_asg _ _)]
/-- caught by the second, the first names another class -/
theorem tq_at2 (X : Stand p l e R s m args below meth c T locs cells slots) (a : Addr) {g : JFrame} (hg : g.method = m) {own C C0 : String} (hown : s.vm.findClass own = some m.cls) {x0 x : ExceptionTableEntry} {rest : List ExceptionTableEntry}
    (ht : c.exceptionTable.toList = x0 :: x :: rest) (hx0 : covers x0 g.pc = true) (hx : covers x g.pc = true) (h00 : x0.catchType ≠ 0) (h0 : x.catchType ≠ 0) (hlink0 : (Cond.classLink own x0.catchType C0).before args s = true) (hlink : (Cond.classLink own x.catchType C).before args s = true)
    {ce : Cell} (hce : T.heap[a]? = some ce) (hv : ce.vm = .none) (hC : s.vm.findClass C = some ce.cls) (hno : va_Nc C C0 s) :
    ∃ vm' : Vm, Stand p l e R s m args below meth c (T.setVm vm') locs cells slots ∧ ∀ target, Steps p.tables e below ((T.setVm vm').setTop { g with pc := x.handlerPc, stack := [.ref a] }) target → Steps p.tables e below ((T.setTop g).pushFrame (.throwing a)) target := by
  subst hg
  have hpl : e.platform.magicAccessors = ({} : Platform).magicAccessors := by rw [X.admits.platform]
  obtain ⟨cc0, hfcc0, hcl0⟩ := Cond.classLink_spec hown hlink0 e.platform hpl
  obtain ⟨cc, hfcc, hcl⟩ := Cond.classLink_spec hown hlink e.platform hpl
  cases hC.symm.trans hfcc
  obtain ⟨n1, n2, hn1, hn2, hn3⟩ := hno
  cases hC.symm.trans hn1
  cases hfcc0.symm.trans hn2
  obtain ⟨hg₁, hwarm₁, hready₁⟩ := State.classEntry (e := e) X.warmed hcl0
  have hsz : (T.vm.noted g.method.cls x0.catchType (.cls cc0)).classes.size ≤ T.vm.classes.size := by no_record
  generalize T.vm.noted g.method.cls x0.catchType (.cls cc0) = vm₁ at hg₁ hwarm₁ hready₁ hsz
  have X₁ := X.noted hwarm₁
  obtain ⟨hg₂, hwarm₂, hready₂⟩ := State.classEntry (e := e) X₁.warmed hcl
  have hsz2 : ((T.setVm vm₁).vm.noted g.method.cls x.catchType (.cls ce.cls)).classes.size ≤ (T.setVm vm₁).vm.classes.size := by no_record
  generalize (T.setVm vm₁).vm.noted g.method.cls x.catchType (.cls ce.cls) = vm₂ at hg₂ hwarm₂ hready₂ hsz2
  obtain ⟨k0, hk0, -⟩ := Vm.findClass_spec hC
  obtain ⟨k1, hk1, -⟩ := hwarm₁.alike.2.2 _ _ hk0
  obtain ⟨k2, hk2, -⟩ := hwarm₂.alike.2.2 _ _ hk0
  obtain ⟨j0, hj0, -⟩ := Vm.findClass_spec hfcc0
  obtain ⟨j1, hj1, -⟩ := hwarm₁.alike.2.2 _ _ hj0
  have X₂ := X₁.noted hwarm₂
  refine ⟨vm₂, X₂, fun target hrest => tq_caught X.here (vm' := vm₂) (pc := x.handlerPc) ?_ hrest⟩
  intro Q E d acts
  rw [W.findHandler_eq (meth := meth) (code := c) (by rw [Stand.throwing_vm]; exact X.method') X.code, ht, tq_go hx0 h00 (by rw [Stand.throwing_vm]; exact hg₁) (by rw [Stand.throwing_vm]; exact hsz) (by rw [Stand.throwing_heap]; exact hce) (fun k h => by rw [hv] at h; cases h) ⟨k1, hk1⟩ ⟨j1, hj1⟩,
    if_neg (by rw [hwarm₁.alike.assignable, hn3]; decide), tq_go (s := ((T.setTop g).pushFrame (.throwing a)).setVm vm₁) hx h0 hg₂ hsz2 (by show ((T.setTop g).pushFrame (.throwing a)).heap[a]? = _; rw [Stand.throwing_heap]; exact hce) (fun k h => by rw [hv] at h; cases h) ⟨k2, hk2⟩ ⟨k2, hk2⟩, if_pos (va_asg _ _)]
  rfl
end TQC
