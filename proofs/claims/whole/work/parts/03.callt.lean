section TQV
variable {p : Program} {l : Launch} {e : Env} {R : Room} {s : State} {m : MethodId} {args : Array Value} {below : List Frame} {meth : Method} {c : Code} {T : State} {H : Heap} {locs : List Loc} {cells slots : Nat} {Q : State → Prop}
/-- a call whose method throws -/
theorem tq_callV (X : Stand p l e R s m args below meth c T locs cells slots) (hexec : p.tables.exec = Jvm.exec) {own C : String} {index : Nat} {y : MethodName} {bytes : ByteArray} {maxL : Nat} {ret : Option FieldType}
    {ws : List Cond} {rm : Room} {Pc : Array Value → State → Prop} {Qc : Array Value → State → Addr → State → Prop} {mc ms n : Nat} (hM : tq_Met l y ws rm Pc Qc mc ms) (cw : CallW R s args own C index y bytes maxL ret ws rm mc ms n) (hblind : FrameBlind Pc)
    (hown : s.vm.findClass own = some m.cls) {b : Addr} {cellB : Cell} (hcell : T.heap[b]? = some cellB) (hobj : cellB.vm.isStatics = false) (hcls : s.vm.findClass C = some cellB.cls)
    {g : JFrame} (hg : g.method = m) (hsize : g.locals.size = c.maxLocals) {argsL rest : List Value} (hlen : argsL.length = n)
    (hstack : g.stack = argsL.reverse ++ .ref b :: rest) (hW : 2 * g.monitorRoom + (rest.map fun v => v.category).sum ≤ 8) (hdg : decode c.code g.pc = .ok (.invokevirtual index, 3))
    (hcells : cells + mc ≤ R.cells) (hslots : slots + ms ≤ R.slots) (hPc : ∀ vm₁, s.WarmedH vm₁ → Pc (Value.ref b :: argsL).toArray (T.setVm vm₁)) :
    ∃ (x : Addr) (vm₁ : Vm) (g' : JFrame) (mk : MethodId) (t T' : State), Stand p l e R s m args below meth c T' locs (cells + mc) (slots + ms) ∧ s.WarmedH vm₁ ∧ T'.heap = t.heap ∧ T'.vm = t.vm ∧
      Qc (Value.ref b :: argsL).toArray ((T.setVm vm₁).calling g' mk (Value.ref b :: argsL).toArray) x t ∧
      ∀ target, Steps p.tables e below ((T'.setTop { g with stack := rest }).pushFrame (.throwing x)) target → Steps p.tables e below (T.setTop g) target := by
  obtain ⟨⟨hrc, hrs, hframes, hlocals, hws, hcw, hcode, hini, hy, hln, hlink⟩, hinst, hsel⟩ := cw
  obtain ⟨mk, methM, hnamed, hmethM, hstM, habM⟩ := Cond.instanceMethod_spec hinst
  obtain ⟨methM', cM, hmethM', -, -, -, -, -, -, hsigM⟩ := Cond.code_spec hnamed hcode
  cases hmethM.symm.trans hmethM'
  obtain ⟨c2, r2, m2, q1, q2, q3, q4, kP, hkP, hkPi⟩ := Cond.selects_spec hsel
  cases hcls.symm.trans q1
  cases (State.methodFound?_of_named hnamed hy).symm.trans q2
  cases hnamed.symm.trans q3
  have hselP : selectMethod e.platform s.vm cellB.cls mk = .method mk := by rw [Launch.admits_selectMethod X.admits]; exact q4
  obtain ⟨vm₁, X₁, hstep₁⟩ := X.invokevirtual hexec hown hlink hnamed hmethM hstM hkP hkPi hy (a := b) (cell := cellB) hcell
    (fun z h => by rw [h] at hobj; cases hobj) hselP hmethM habM hkP hkPi (g := g) hg (argsL := argsL) (rest := rest) (hlen.trans (hln _ hsigM)) hstack hdg
  obtain ⟨kY, hkY, -⟩ := className_of_methodNamed (X₁.named hnamed)
  have hinitY : kY.init = .initialized := Cond.initialized_spec (args := #[]) (findClass_of_methodNamed (X₁.named hnamed)) hkY (word_at (a' := #[]) X₁.warmed (Or.inl (by first | rfl | simp [Cond.onTables, Cond.keeps, Cond.steady])) hini)
  obtain ⟨methY, cY, hmY, hcY, -, hlY, -⟩ := Cond.code_spec (X₁.named hnamed) (hws _ hcw (Value.ref b :: argsL).toArray _ X₁.warmed)
  have h : At (T.setVm vm₁) ({ g with stack := rest } : JFrame).method c below := by show At _ g.method _ _; rw [hg]; exact X₁.here
  have happ : (headSpec ws rm).appliesLoose y e.platform ((T.setVm vm₁).calling { g with stack := rest } mk (Value.ref b :: argsL).toArray) = true :=
    Spec.appliesLoose_calling (g := { g with stack := rest }) h hdg (X₁.named hnamed) hkY hinitY
      (X₁.room_calling (g := { g with stack := rest }) (R' := (headSpec ws rm).room) hsize hmY hcY hframes (by rw [hlY]; show 2 * g.monitorRoom + (rest.map fun v => v.category).sum + (maxL + 11) + rm.locals ≤ _; omega) (by rw [show (headSpec ws rm).room.cells = mc from hrc]; exact hcells) (by rw [show (headSpec ws rm).room.slots = ms from hrs]; exact hslots))
      (atoms_intro fun w hw => hws w hw _ _ X₁.warmed)
  obtain ⟨mid, hmid⟩ := h.above
  have hfr : ((T.setVm vm₁).setTop { g with stack := rest }).frames = (.java { g with stack := rest } :: mid) ++ below := by rw [State.frames_setTop' _ h.top, hmid]; rfl
  obtain ⟨o, s₂, hsteps, -, hend, hq0⟩ := Steps.callFree hM p X.admits X.cas X.clock (acts := []) hfr happ (hblind _ _ _ _ (hPc vm₁ X₁.warmed)) trivial
  have hq1 : ∃ x, o = .threw x ∧ Qc (Value.ref b :: argsL).toArray ((T.setVm vm₁).calling { g with stack := rest } mk (Value.ref b :: argsL).toArray) x s₂ ∧ tq_End ((T.setVm vm₁).calling { g with stack := rest } mk (Value.ref b :: argsL).toArray) s₂ mc ms := hq0
  obtain ⟨x, rfl, hq, hW₂, e2, q2, q3, q4, q5, q6⟩ := hq1
  rw [State.frames_setTop' _ h.top] at hend
  have e3 : s₂ = ({ ((T.setVm vm₁).calling { g with stack := rest } mk (Value.ref b :: argsL).toArray).setFrames s₂.frames with heap := s₂.heap, slotsUsed := s₂.slotsUsed } : State).setVm s₂.vm := by
    have : s₂ = ({ s₂ with vm := ((T.setVm vm₁).calling { g with stack := rest } mk (Value.ref b :: argsL).toArray).vm } : State).setVm s₂.vm := rfl
    rw [e2] at this
    exact this
  have hW' : (T.setVm vm₁).WarmedH s₂.vm := hW₂
  obtain ⟨g₀, hg0⟩ := Option.isSome_iff_exists.mp h.top
  obtain ⟨r, hr⟩ := State.topJava?_eq_some.mp hg0
  have hs₂ : s₂ = ((({ T.setVm vm₁ with heap := s₂.heap, slotsUsed := s₂.slotsUsed } : State).setVm s₂.vm).setTop { g with stack := rest }).pushFrame (.throwing x) := by
    have hr' : (({ T.setVm vm₁ with heap := s₂.heap, slotsUsed := s₂.slotsUsed } : State).setVm s₂.vm).frames = .java g₀ :: r := hr
    have hf₂ : s₂.frames = .throwing x :: .java { g with stack := rest } :: (T.setVm vm₁).frames.tail := hend
    refine e3.trans ?_
    rw [hf₂, State.calling_eq h.top, State.setFrames_setFrames, State.pushFrame, State.frames_setTop _ hr', State.setTop_of_frames _ hr', State.setFrames_setFrames, hr]
    rfl
  have hsame : (T.setVm vm₁).sameButNew ({ T.setVm vm₁ with heap := s₂.heap, slotsUsed := s₂.slotsUsed } : State) [] mc ms := by
    refine ⟨?_, q2, q3, q4, q5, q6⟩
    obtain ⟨t, ht, -⟩ := State.frames_cons hr
    show ({ T.setVm vm₁ with heap := s₂.heap, slotsUsed := s₂.slotsUsed } : State) = { (T.setVm vm₁).setFrames (T.setVm vm₁).frames with heap := s₂.heap, slotsUsed := s₂.slotsUsed }
    rw [State.setFrames_self ht]
  subst hg
  have hS2 := X₁.same.trans (hsame.setVm s.vm)
  rw [List.append_nil] at hS2
  refine ⟨x, vm₁, { g with stack := rest }, mk, s₂, (({ T.setVm vm₁ with heap := s₂.heap, slotsUsed := s₂.slotsUsed } : State).setVm s₂.vm),
    ⟨X₁.admits, X₁.cas, X₁.clock, X₁.frames, X₁.room, X₁.hears, X₁.method, X₁.code, (X₁.here.setHeapUsed s₂.heap s₂.slotsUsed).setVm hW'.alike, X₁.tail, State.WarmedH.trans X₁.warmed hW', X₁.limits, X₁.bytes, hS2⟩,
    X₁.warmed, rfl, rfl, hq, fun target ht => hstep₁ _ fun acts => ?_⟩
  rw [doInvoke_state]
  rw [← hs₂] at ht
  exact hsteps.trans ht
variable {cc : ByteArray} {nL index maxL mc ms n pc : Nat} {own C : String} {Ts : List Cond} {y : MethodName} {bytes : ByteArray} {ret : Option FieldType} {ws : List Cond} {rm : Room} {Pc : Array Value → State → Prop} {b : Addr} {As rest st0 : List Value} {ls : Array Slot} {E : String}
/-- a call that throws an E, caught by the table's first entry -/
theorem tq_c1 (S : CallFix p m c cc nL s args Ts own) (hM : tq_Met l y ws rm Pc (tq_Q E) mc ms) (cw : CallW R s args own C index y bytes maxL ret ws rm mc ms n) (hp : PreV s H C b Pc As)
    (hn : As.length = n) (hsize : ls.size = nL) (hstack : st0 = As.reverse ++ .ref b :: rest) (hW : (rest.map fun v => v.category).sum ≤ 8) (hdg : decode cc pc = .ok (.invokevirtual index, 3)) (hf : cells + mc ≤ R.cells ∧ slots + ms ≤ R.slots)
    {x : ExceptionTableEntry} {tl : List ExceptionTableEntry} (ht : c.exceptionTable.toList = x :: tl) (hx : covers x pc = true) (h0 : x.catchType ≠ 0) (hlink : (Cond.classLink own x.catchType E).before args s = true)
    (kk : ∀ (a : Addr) (H1 : Heap), H.size ≤ H1.size → (∀ q : Nat, q < H.size → H1[q]? = H[q]?) → W p l e R s m args below meth c H1 locs (cells + mc) (slots + ms) Q (F0 m x.handlerPc ls [.ref a])) : W p l e R s m args below meth c H locs cells slots Q (F0 m pc ls st0) := by
  obtain ⟨hexec, hb, hml, ho, -⟩ := S
  obtain ⟨hblind, ⟨cellB, hcB, hoB, hclB⟩, hPc⟩ := hp
  intro T hT X
  obtain ⟨a, vm₁, g', mk, t, T', X', hwm, e1, e2, ⟨q1, ⟨ce, hce, hcc, hcv⟩, q3⟩, st⟩ := tq_callV X hexec hM cw hblind ho (by rw [hT]; exact hcB) hoB hclB (g := F0 m pc ls st0) rfl (hsize.trans hml.symm) (argsL := As) (rest := rest) hn hstack (by show 2 * 0 + _ ≤ _; omega) (by rw [hb]; exact hdg) hf.1 hf.2 (fun vm₁ hW₁ => hPc (T.setVm vm₁) hT hW₁)
  have hcE : s.vm.findClass E = some ce.cls := by rw [← hwm.alike.findClass]; exact hcc
  obtain ⟨vm₂, X₂, st₂⟩ := tq_at1 X' a (g := { F0 m pc ls st0 with stack := rest }) rfl ho ht hx h0 hlink (by rw [e1]; exact hce) hcv hcE
  have hk : ∀ q : Nat, q < H.size → T'.heap[q]? = H[q]? := fun q hq => by
    rw [e1, q3 q (by show q < T.heap.size; rw [hT]; exact hq)]
    show T.heap[q]? = _
    rw [hT]
  have hsz : H.size ≤ T'.heap.size := by
    have h1 := X'.heapSize
    have h2 := X.heapSize
    rcases Nat.lt_or_ge T'.heap.size H.size with h | h
    · exfalso
      have h3 := hk T'.heap.size h
      rw [Array.getElem?_eq_none (Nat.le_refl _), Array.getElem?_eq_getElem h] at h3
      cases h3
    · exact h
  obtain ⟨t2, a1, b1⟩ := kk a T'.heap hsz hk (T'.setVm vm₂) rfl X₂
  exact ⟨t2, st _ (st₂ _ a1), b1⟩
/-- a call that throws an E, caught by the table's second entry, the first naming an E0 -/
theorem tq_c2 {E0 : String} (S : CallFix p m c cc nL s args Ts own) (hM : tq_Met l y ws rm Pc (tq_Q E) mc ms) (cw : CallW R s args own C index y bytes maxL ret ws rm mc ms n) (hp : PreV s H C b Pc As)
    (hn : As.length = n) (hsize : ls.size = nL) (hstack : st0 = As.reverse ++ .ref b :: rest) (hW : (rest.map fun v => v.category).sum ≤ 8) (hdg : decode cc pc = .ok (.invokevirtual index, 3)) (hf : cells + mc ≤ R.cells ∧ slots + ms ≤ R.slots)
    {x0 x : ExceptionTableEntry} {tl : List ExceptionTableEntry} (ht : c.exceptionTable.toList = x0 :: x :: tl) (hx0 : covers x0 pc = true) (hx : covers x pc = true) (h00 : x0.catchType ≠ 0) (h0 : x.catchType ≠ 0) (hlink0 : (Cond.classLink own x0.catchType E0).before args s = true) (hlink : (Cond.classLink own x.catchType E).before args s = true) (hno : va_Nc E E0 s)
    (kk : ∀ (a : Addr) (H1 : Heap), H.size ≤ H1.size → (∀ q : Nat, q < H.size → H1[q]? = H[q]?) → W p l e R s m args below meth c H1 locs (cells + mc) (slots + ms) Q (F0 m x.handlerPc ls [.ref a])) : W p l e R s m args below meth c H locs cells slots Q (F0 m pc ls st0) := by
  obtain ⟨hexec, hb, hml, ho, -⟩ := S
  obtain ⟨hblind, ⟨cellB, hcB, hoB, hclB⟩, hPc⟩ := hp
  intro T hT X
  obtain ⟨a, vm₁, g', mk, t, T', X', hwm, e1, e2, ⟨q1, ⟨ce, hce, hcc, hcv⟩, q3⟩, st⟩ := tq_callV X hexec hM cw hblind ho (by rw [hT]; exact hcB) hoB hclB (g := F0 m pc ls st0) rfl (hsize.trans hml.symm) (argsL := As) (rest := rest) hn hstack (by show 2 * 0 + _ ≤ _; omega) (by rw [hb]; exact hdg) hf.1 hf.2 (fun vm₁ hW₁ => hPc (T.setVm vm₁) hT hW₁)
  have hcE : s.vm.findClass E = some ce.cls := by rw [← hwm.alike.findClass]; exact hcc
  obtain ⟨vm₂, X₂, st₂⟩ := tq_at2 X' a (g := { F0 m pc ls st0 with stack := rest }) rfl ho ht hx0 hx h00 h0 hlink0 hlink (by rw [e1]; exact hce) hcv hcE hno
  have hk : ∀ q : Nat, q < H.size → T'.heap[q]? = H[q]? := fun q hq => by
    rw [e1, q3 q (by show q < T.heap.size; rw [hT]; exact hq)]
    show T.heap[q]? = _
    rw [hT]
  have hsz : H.size ≤ T'.heap.size := by
    rcases Nat.lt_or_ge T'.heap.size H.size with h | h
    · exfalso
      have h3 := hk T'.heap.size h
      rw [Array.getElem?_eq_none (Nat.le_refl _), Array.getElem?_eq_getElem h] at h3
      cases h3
    · exact h
  obtain ⟨t2, a1, b1⟩ := kk a T'.heap hsz hk (T'.setVm vm₂) rfl X₂
  exact ⟨t2, st _ (st₂ _ a1), b1⟩
end TQV
