theorem tq_tab {p : Program} {l : Launch} {y : MethodName} {S : Spec} {code : ByteArray} {maxL : Nat} {ret : Option FieldType} {hh : List (Nat × Nat × Nat × Nat)} {e : Env} {s : State} {m : MethodId} {args : Array Value} {below : List Frame}
    {meth : Method} {c : Code} {s₁ : State} (B : BodyLoose p l y S code maxL ret e s m args below meth c s₁) (h : (Cond.codeWith y code maxL ret hh).before args s = true) : c.exceptionTable.toList.map (fun h => (h.startPc, h.endPc, h.handlerPc, h.catchType)) = hh := by
  obtain ⟨m', meth', c', hn, hm', hc', -, -, he', -⟩ := Cond.codeWith_spec h
  cases B.named.symm.trans hn
  cases B.method.symm.trans hm'
  cases (Stand.of_body B).code.symm.trans hc'
  exact he'
section TQD
variable {p : Program} {l : Launch} {e : Env} {R : Room} {s : State} {m : MethodId} {args : Array Value} {below : List Frame} {meth : Method} {c : Code} {T : State} {H : Heap} {locs : List Loc} {cells slots : Nat} {Q : State → Prop}
variable {cc : ByteArray} {nL index maxL mc ms n pc : Nat} {own C : String} {Ts : List Cond} {y : MethodName} {bytes : ByteArray} {ret : Option FieldType} {ws : List Cond} {rm : Room} {Pc : Array Value → State → Prop} {b : Addr} {As rest st0 : List Value} {ls : Array Slot} {E : String} {A : Nat → Prop}
theorem tq_S (hS : va_S A s.heap H locs) {H1 : Heap} (hz : H.size ≤ H1.size) (hk : ∀ q : Nat, q < H.size → H1[q]? = H[q]?) : va_S A s.heap H1 locs :=
  ⟨Nat.le_trans hS.1 hz, fun q hq hA => (hk q (Nat.lt_of_lt_of_le hq hS.1)).trans (hS.2.1 q hq hA), hS.2.2⟩
theorem tq_d1 (S : CallFix p m c cc nL s args Ts own) (hM : tq_Met l y ws rm Pc (tq_Q E) mc ms) (cw : CallW R s args own C index y bytes maxL ret ws rm mc ms n) (hp : PreV s H C b Pc As)
    (hn : As.length = n) (hsize : ls.size = nL) (hstack : st0 = As.reverse ++ .ref b :: rest) (hW : (rest.map fun v => v.category).sum ≤ 8) (hdg : decode cc pc = .ok (.invokevirtual index, 3)) (hf : cells + mc ≤ R.cells ∧ slots + ms ≤ R.slots)
    {x1 x2 x3 x4 : Nat} {tl : List (Nat × Nat × Nat × Nat)} (ht : c.exceptionTable.toList.map (fun h => (h.startPc, h.endPc, h.handlerPc, h.catchType)) = (x1, x2, x3, x4) :: tl) (h1 : x1 ≤ pc) (h2 : pc < x2) (h0 : x4 ≠ 0) (hlink : (Cond.classLink own x4 E).before args s = true) (hS : va_S A s.heap H locs)
    (kk : ∀ (a : Addr) (H1 : Heap), va_S A s.heap H1 locs → W p l e R s m args below meth c H1 locs (cells + mc) (slots + ms) Q (F0 m x3 ls [.ref a])) : W p l e R s m args below meth c H locs cells slots Q (F0 m pc ls st0) := by
  cases hl : c.exceptionTable.toList with
  | nil => rw [hl] at ht; cases ht
  | cons x tl' =>
    rw [hl] at ht
    simp only [List.map_cons, List.cons.injEq, Prod.mk.injEq] at ht
    obtain ⟨⟨rfl, rfl, rfl, rfl⟩, -⟩ := ht
    exact tq_c1 S hM cw hp hn hsize hstack hW hdg hf hl (by simp [covers, h1, h2]) h0 hlink (fun a H1 hz hk => kk a H1 (tq_S hS hz hk))
theorem tq_d2 {E0 : String} (S : CallFix p m c cc nL s args Ts own) (hM : tq_Met l y ws rm Pc (tq_Q E) mc ms) (cw : CallW R s args own C index y bytes maxL ret ws rm mc ms n) (hp : PreV s H C b Pc As)
    (hn : As.length = n) (hsize : ls.size = nL) (hstack : st0 = As.reverse ++ .ref b :: rest) (hW : (rest.map fun v => v.category).sum ≤ 8) (hdg : decode cc pc = .ok (.invokevirtual index, 3)) (hf : cells + mc ≤ R.cells ∧ slots + ms ≤ R.slots)
    {w1 w2 w3 w4 x1 x2 x3 x4 : Nat} {tl : List (Nat × Nat × Nat × Nat)} (ht : c.exceptionTable.toList.map (fun h => (h.startPc, h.endPc, h.handlerPc, h.catchType)) = (w1, w2, w3, w4) :: (x1, x2, x3, x4) :: tl) (g1 : w1 ≤ pc) (g2 : pc < w2) (g0 : w4 ≠ 0) (h1 : x1 ≤ pc) (h2 : pc < x2) (h0 : x4 ≠ 0)
    (hlink0 : (Cond.classLink own w4 E0).before args s = true) (hlink : (Cond.classLink own x4 E).before args s = true) (hno : va_Nc E E0 s) (hS : va_S A s.heap H locs)
    (kk : ∀ (a : Addr) (H1 : Heap), va_S A s.heap H1 locs → W p l e R s m args below meth c H1 locs (cells + mc) (slots + ms) Q (F0 m x3 ls [.ref a])) : W p l e R s m args below meth c H locs cells slots Q (F0 m pc ls st0) := by
  cases hl : c.exceptionTable.toList with
  | nil => rw [hl] at ht; cases ht
  | cons x0 tl0 =>
    cases tl0 with
    | nil => rw [hl] at ht; simp at ht
    | cons x tl' =>
      rw [hl] at ht
      simp only [List.map_cons, List.cons.injEq, Prod.mk.injEq] at ht
      obtain ⟨⟨rfl, rfl, rfl, rfl⟩, ⟨rfl, rfl, rfl, rfl⟩, -⟩ := ht
      exact tq_c2 S hM cw hp hn hsize hstack hW hdg hf hl (by simp [covers, g1, g2]) (by simp [covers, h1, h2]) g0 h0 hlink0 hlink hno (fun a H1 hz hk => kk a H1 (tq_S hS hz hk))
/-- a static method with a table of catches is called -/
theorem tq_callSW (X : Stand p l e R s m args below meth c T locs cells slots) (hexec : p.tables.exec = Jvm.exec) {hh : List (Nat × Nat × Nat × Nat)}
    (hown : s.vm.findClass own = some m.cls) (hlink : (Cond.methodLink own index y).before args s = true) (hstat : (Cond.static y).before args s = true) (hinit : (Cond.initialized y.cls).before args s = true)
    (hcode : (Cond.codeWith y bytes maxL ret hh).before args s = true) (hy : y.cls ≠ "java/lang/invoke/MethodHandle" ∧ y.cls ≠ "java/lang/invoke/VarHandle")
    {W : Nat} {Pre : Pt → Array Value → Prop} {Post : Pt → Array Value → Option Value → Pt → Prop} (hK : Back l R p e below s args y 3 W Pre Post)
    {g : JFrame} (hg : g.method = m) (hsize : g.locals.size = c.maxLocals) {argsL rest : List Value} (hlen : ∀ sig, parseMethodDescriptor y.desc = some sig → argsL.length = sig.parameters.length)
    (hstack : g.stack = argsL.reverse ++ rest) (hW : 2 * g.monitorRoom + (rest.map fun v => v.category).sum ≤ W) (hdg : decode c.code g.pc = .ok (.invokestatic index, 3))
    (hpre : ∀ vm₁, s.WarmedH vm₁ → Pre ⟨T.setVm vm₁, locs, cells, slots⟩ argsL.toArray) :
    ∃ (v : Option Value) (vm₁ : Vm) (B : Pt), s.WarmedH vm₁ ∧ Stand p l e R s m args below meth c B.U B.locs B.cells B.slots ∧ Post ⟨T.setVm vm₁, locs, cells, slots⟩ argsL.toArray v B ∧
      ∀ target, Steps p.tables e below (B.U.setTop { g with pc := g.pc + 3, stack := v.toList ++ rest }) target → Steps p.tables e below (T.setTop g) target := by
  obtain ⟨mk, methM, cM, hnamed, hmethM, -, -, -, -, -, -, hsigM⟩ := Cond.codeWith_spec hcode
  have hstatic : methM.isStatic = true := Cond.static_spec hnamed hmethM hstat
  obtain ⟨kP, hkP, -⟩ := className_of_methodNamed hnamed
  have hinitP : kP.init = .initialized := Cond.initialized_spec (findClass_of_methodNamed hnamed) hkP hinit
  obtain ⟨vm₁, X₁, hstep₁⟩ := X.invokestatic hexec hown hlink hnamed hmethM hstatic hkP hinitP hy (g := g) hg (argsL := argsL) (rest := rest) (hlen _ hsigM) hstack hdg
  obtain ⟨v, B, X', hpost, hsteps⟩ := hK m meth c ⟨T.setVm vm₁, locs, cells, slots⟩ { g with stack := rest } (.invokestatic index) mk argsL.toArray X₁ hg hsize hdg hW (X₁.named hnamed) (hpre vm₁ X₁.warmed)
  exact ⟨v, vm₁, B, X₁.warmed, X', hpost, fun target h => hstep₁ _ fun acts => by rw [doInvoke_state]; exact hsteps.trans h⟩
theorem tq_runSW {Qc : Array Value → State → Outcome → State → Prop} {free : Addr → Prop} {hh : List (Nat × Nat × Nat × Nat)} {ws' : List Cond} {g : JFrame} (S : CallFix p m c cc nL s args Ts own) (hM : Met l y ws rm Pc Qc mc ms free) (hts : ∀ w ∈ Ts, w.before args s = true) (hG : GoodIn Ts ws) (hw : ws = Cond.codeWith y bytes maxL ret hh :: ws')
    (hrc : rm.cells = mc) (hrs : rm.slots = ms) (hR : rm.frames + 1 ≤ R.frames ∧ 8 + (maxL + 11) + rm.locals ≤ R.locals) (hini : (Cond.initialized y.cls).before args s = true) (hd : y.cls ≠ "java/lang/invoke/MethodHandle" ∧ y.cls ≠ "java/lang/invoke/VarHandle" ∧ (parseMethodDescriptor y.desc).map (fun d => d.parameters.length) = some n)
    (hl : (Cond.methodLink own index y).before args s = true) (hstt : (Cond.static y).before args s = true) (hp : PreS s H Pc As)
    (hg : g.method = m) (hn : As.length = n) (hsize : g.locals.size = nL) (hstack : g.stack = As.reverse ++ rest) (hW : 2 * g.monitorRoom + (rest.map fun v => v.category).sum ≤ 8) (hdg : decode cc g.pc = .ok (.invokestatic index, 3)) (hf : cells + mc ≤ R.cells ∧ slots + ms ≤ R.slots) :
    va_Run p l e R s m args below meth c H locs cells slots mc ms g rest (Qc As.toArray) (free) := by
  have hcw : Cond.codeWith y bytes maxL ret hh ∈ ws := by rw [hw]; exact List.mem_cons_self
  have hK : Back l R p e below s args y 3 8 (PreOf R mc ms Pc) (PostOf Qc mc ms free) := va_backW (hh := hh) (bytes := bytes) (maxL := maxL) (ret := ret) hM hp.1 hrc hrs hR.1 hR.2 (pay_in hts hG) hcw (fun a' U hW => word_at hW (Or.inl (by first | rfl | simp [Cond.onTables, Cond.keeps, Cond.steady])) hini)
  obtain ⟨hx, hb, hml, ho, -⟩ := S
  have hcode : (Cond.codeWith y bytes maxL ret hh).before args s = true := hts _ (hG _ hcw).1
  intro T hT X
  obtain ⟨v, vm₁, ⟨U', l2, c2, s2⟩, hW₁, X', ⟨g', mk, t, L, e1, e2, hq, h1, hL, h2, h3⟩, st⟩ := tq_callSW X hx (bytes := bytes) (maxL := maxL) (ret := ret) (hh := hh) ho hl hstt hini hcode ⟨hd.1, hd.2.1⟩ hK hg (hsize.trans hml.symm) (argsL := As) (rest := rest) (fun sig h => by have h2 := hd.2.2; rw [h] at h2; exact hn.trans (Option.some.inj h2).symm) hstack hW (by rw [hb]; exact hdg)
    (fun vm₁ hW₁ => ⟨hf.1, hf.2, hp.2 (T.setVm vm₁) hT hW₁⟩)
  dsimp only [Pt.U, Pt.locs, Pt.cells, Pt.slots] at X' e1 e2 h1 h2 h3 st
  subst h1; subst h2; subst h3
  exact ⟨v, (T.setVm vm₁).calling g' mk As.toArray, t, U', L, hT, X', hL, e1, e2, hq, st⟩
theorem updL_0 {f : Nat → Int64} {x : Int64} : vp_updL f (0 : Int32).toNatClampNeg x (0 : Int32).toNatClampNeg = x := if_pos rfl
end TQD
/-! a world in two halves -/
theorem mr_l (X Y : va_W) : (List.range X.length).map (fun i => (X ++ Y)[i]?) = X.map some := by
  apply List.ext_getElem
  · simp
  · intro i h1 h2
    have h3 : i < X.length := by simpa using h1
    simp only [List.getElem_map, List.getElem_range]
    rw [List.getElem?_append_left h3, List.getElem?_eq_getElem h3]
theorem mr_r (X Y : va_W) : (List.range' X.length Y.length).map (fun i => (X ++ Y)[i]?) = Y.map some := by
  apply List.ext_getElem
  · simp
  · intro i h1 h2
    have h3 : i < Y.length := by simpa using h1
    simp only [List.getElem_map, List.getElem_range', Nat.one_mul]
    rw [List.getElem?_append_right (Nat.le_add_right _ _), Nat.add_sub_cancel_left, List.getElem?_eq_getElem h3]
theorem nd_r : ∀ (n a : Nat), va_nd (List.range' a n) = true := by
  intro n
  induction n with
  | zero => intro a; rfl
  | succ n ih =>
    intro a
    rw [List.range'_succ]
    show (decide (a ∉ List.range' (a + 1) n) && va_nd (List.range' (a + 1) n)) = true
    rw [ih (a + 1), Bool.and_true, decide_eq_true_eq, List.mem_range'_1]
    omega
theorem nd_l (n : Nat) : va_nd (List.range n) = true := by rw [List.range_eq_range']; exact nd_r n 0
theorem dj_rl (a n : Nat) : ∀ i ∈ List.range a, i ∉ List.range' a n := by
  intro i hi h
  rw [List.mem_range] at hi
  rw [List.mem_range'_1] at h
  omega
theorem dj_lr (a n : Nat) : ∀ i ∈ List.range' a n, i ∉ List.range a := fun i hi h => dj_rl a n i h hi
section HALVES
variable {p : Program} {l : Launch} {e : Env} {R : Room} {s : State} {m : MethodId} {args : Array Value} {below : List Frame} {meth : Method} {c : Code} {H : Heap} {locs : List Loc} {cells slots : Nat} {Q : State → Prop}
variable {cc : ByteArray} {nL pc lev : Nat} {own : String} {ls : Array Slot} {rest st0 : List Value} {a : Array Value} {D : va_G} {τ : ClassId × ClassId × ClassId} {B mc ms : Nat} {A : Nat → Prop} {X Y : va_W}
theorem wd_left (w : Wd s D A (X ++ Y) H locs) : va_P D classes X H := fun k q hq => w.1 k q (by rw [List.getElem?_append_left (List.getElem?_eq_some_iff.mp hq).1]; exact hq)
theorem wd_right (w : Wd s D A (X ++ Y) H locs) : va_P D classes Y H := fun k q hq => w.1 (X.length + k) q (by rw [List.getElem?_append_right (Nat.le_add_right _ _), Nat.add_sub_cancel_left]; exact hq)
theorem sw_get (X Y : va_W) (i : Nat) (q : Nat × va_E) (h : (Y ++ X)[i]? = some q) : ∃ j, (X ++ Y)[j]? = some q ∧ ((i < Y.length ∧ j = X.length + i) ∨ (Y.length ≤ i ∧ j + Y.length = i ∧ j < X.length)) := by
  by_cases c : i < Y.length
  · rw [List.getElem?_append_left c] at h
    exact ⟨X.length + i, by rw [List.getElem?_append_right (Nat.le_add_right _ _), Nat.add_sub_cancel_left]; exact h, Or.inl ⟨c, rfl⟩⟩
  · rw [List.getElem?_append_right (by omega)] at h
    have h2 := (List.getElem?_eq_some_iff.mp h).1
    exact ⟨i - Y.length, by rw [List.getElem?_append_left h2]; exact h, Or.inr ⟨by omega, by omega, h2⟩⟩
theorem Wd.swap (w : Wd s D A (X ++ Y) H locs) : Wd s D A (Y ++ X) H locs := by
  refine ⟨(wd_right w).app (wd_left w), ⟨fun i j p q hi hj h => ?_, fun k q hq => ?_⟩, w.2.2⟩
  · obtain ⟨i', g1, g2⟩ := sw_get X Y i p hi
    obtain ⟨j', g3, g4⟩ := sw_get X Y j q hj
    have := w.2.1.1 i' j' p q g1 g3 h
    omega
  · obtain ⟨k', g1, -⟩ := sw_get X Y k q hq
    exact w.2.1.2 k' q g1
theorem gr_i {S : Type} {post : Int32 → S → Prop} {w1 : S → va_W} (hC : wC D τ B A s) (w : Wd s D A (X ++ Y) H locs)
    (hr : va_Run p l e R s m args below meth c H locs cells slots mc ms (F0 m pc ls st0) rest (va_Qi post (fun u => wB D τ (va_A Y H.size) (w1 u)) (va_A Y H.size) a) (va_A Y H.size))
    (kk : ∀ (r : Int32) (u : S) (H1 : Heap) (locs1 : List Loc), post r u → Wd s D A (X ++ w1 u) H1 locs1 → W p l e R s m args below meth c H1 locs1 (cells + mc) (slots + ms) Q (F0 m (pc + 3) ls (.int r :: rest))) : W p l e R s m args below meth c H locs cells slots Q (F0 m pc ls st0) :=
  wc_i (wr := X) (wc := Y) hC w.1 w.2.1 w.2.2 (List.range' X.length Y.length) (List.range X.length) (mr_r X Y) (mr_l X Y) (nd_l _) (dj_rl _ _) hr (fun r u H1 locs1 hp h1 h2 h3 => kk r u H1 locs1 hp ⟨h1, h2, h3⟩)
theorem gl_i {S : Type} {post : Int32 → S → Prop} {w1 : S → va_W} (hC : wC D τ B A s) (w : Wd s D A (X ++ Y) H locs)
    (hr : va_Run p l e R s m args below meth c H locs cells slots mc ms (F0 m pc ls st0) rest (va_Qi post (fun u => wB D τ (va_A X H.size) (w1 u)) (va_A X H.size) a) (va_A X H.size))
    (kk : ∀ (r : Int32) (u : S) (H1 : Heap) (locs1 : List Loc), post r u → Wd s D A (w1 u ++ Y) H1 locs1 → W p l e R s m args below meth c H1 locs1 (cells + mc) (slots + ms) Q (F0 m (pc + 3) ls (.int r :: rest))) : W p l e R s m args below meth c H locs cells slots Q (F0 m pc ls st0) :=
  gr_i hC w.swap hr (fun r u H1 locs1 hp w1 => kk r u H1 locs1 hp w1.swap)
theorem gr_v {S : Type} {post : S → Prop} {w1 : S → va_W} (hC : wC D τ B A s) (w : Wd s D A (X ++ Y) H locs)
    (hr : va_Run p l e R s m args below meth c H locs cells slots mc ms (F0 m pc ls st0) rest (va_Qv post (fun u => wB D τ (va_A Y H.size) (w1 u)) (va_A Y H.size) a) (va_A Y H.size))
    (kk : ∀ (u : S) (H1 : Heap) (locs1 : List Loc), post u → Wd s D A (X ++ w1 u) H1 locs1 → W p l e R s m args below meth c H1 locs1 (cells + mc) (slots + ms) Q (F0 m (pc + 3) ls rest)) : W p l e R s m args below meth c H locs cells slots Q (F0 m pc ls st0) :=
  wc_v (wr := X) (wc := Y) hC w.1 w.2.1 w.2.2 (List.range' X.length Y.length) (List.range X.length) (mr_r X Y) (mr_l X Y) (nd_l _) (dj_rl _ _) hr (fun u H1 locs1 hp h1 h2 h3 => kk u H1 locs1 hp ⟨h1, h2, h3⟩)
theorem gl_v {S : Type} {post : S → Prop} {w1 : S → va_W} (hC : wC D τ B A s) (w : Wd s D A (X ++ Y) H locs)
    (hr : va_Run p l e R s m args below meth c H locs cells slots mc ms (F0 m pc ls st0) rest (va_Qv post (fun u => wB D τ (va_A X H.size) (w1 u)) (va_A X H.size) a) (va_A X H.size))
    (kk : ∀ (u : S) (H1 : Heap) (locs1 : List Loc), post u → Wd s D A (w1 u ++ Y) H1 locs1 → W p l e R s m args below meth c H1 locs1 (cells + mc) (slots + ms) Q (F0 m (pc + 3) ls rest)) : W p l e R s m args below meth c H locs cells slots Q (F0 m pc ls st0) :=
  gr_v hC w.swap hr (fun u H1 locs1 hp w1 => kk u H1 locs1 hp w1.swap)
theorem psR (hC : wC D τ B A s) (w : Wd s D A (X ++ Y) H locs) (As : List Value) : PreS s H (va_Pc As (wP D τ B H.size Y)) As := wC_pre hC w.1 w.2.1 w.2.2 (List.range' X.length Y.length) (nd_r _ _) (mr_r X Y)
theorem psL (hC : wC D τ B A s) (w : Wd s D A (X ++ Y) H locs) (As : List Value) : PreS s H (va_Pc As (wP D τ B H.size X)) As := psR hC w.swap As
theorem pvR (hC : wC D τ B A s) (w : Wd s D A (X ++ Y) H locs) (As : List Value) {b q0 ci : Nat} {fs : List Value} {r : vw_C} (he : Y[q0]? = some (b, .inr (ci, fs))) (hcl : classes[ci]? = some r) : PreV s H r.1 b (va_Pc (.ref b :: As) (wP D τ B H.size Y)) As :=
  wC_preV (q0 := X.length + q0) hC w.1 w.2.1 w.2.2 (List.range' X.length Y.length) (nd_r _ _) (mr_r X Y) (by rw [List.getElem?_append_right (Nat.le_add_right _ _), Nat.add_sub_cancel_left]; exact he) hcl
theorem pvL (hC : wC D τ B A s) (w : Wd s D A (X ++ Y) H locs) (As : List Value) {b q0 ci : Nat} {fs : List Value} {r : vw_C} (he : X[q0]? = some (b, .inr (ci, fs))) (hcl : classes[ci]? = some r) : PreV s H r.1 b (va_Pc (.ref b :: As) (wP D τ B H.size X)) As := pvR hC w.swap As he hcl
/-- a call whose callee reaches but a few of the cells -/
theorem pvS {ws wc : va_W} (hC : wC D τ B A s) (w : Wd s D A ws H locs) (As : List Value) (isC : List Nat) (hnd : va_nd isC = true) (hc : isC.map (fun i => ws[i]?) = wc.map some) {b q0 ci : Nat} {fs : List Value} {r : vw_C} (he : ws[q0]? = some (b, .inr (ci, fs))) (hcl : classes[ci]? = some r) : PreV s H r.1 b (va_Pc (.ref b :: As) (wP D τ B H.size wc)) As :=
  wC_preV hC w.1 w.2.1 w.2.2 isC hnd hc he hcl
/-- nothing that was there is changed -/
theorem Wd.old {ws : va_W} (w : Wd s D A ws H locs) {H1 : Heap} (hz : H.size ≤ H1.size) (hk : ∀ q : Nat, q < H.size → H1[q]? = H[q]?) : Wd s D A ws H1 locs :=
  ⟨w.1.kept (fun k x hx => hk x.1 ((w.1 k x hx).lt)), w.2.1, Nat.le_trans w.2.2.1 hz, fun q hq hA => (hk q (Nat.lt_of_lt_of_le hq w.2.2.1)).trans (w.2.2.2.1 q hq hA), w.2.2.2.2⟩
end HALVES
/-! a method that makes cells -/
def rma (lev mc ms : Nat) : Room := { frames := 10 * (lev + 1), cells := mc, slots := ms, locals := 1000 * (lev + 1) }
def MIa (l : Launch) (y : MethodName) (cw : Cond) (lev mc ms : Nat) (D : va_G) (τ : ClassId × ClassId × ClassId) (B : Nat) (av : List Value) (ws : va_W) (S : Type) (post : Int32 → S → Prop) (w1 : S → va_W) : Prop := ∀ sz : Nat, Met l y (cw :: tw) (rma lev mc ms) (va_Pc av (wP D τ B sz ws)) (va_Qi (S := S) post (fun u => wB D τ (va_A ws sz) (w1 u)) (va_A ws sz)) mc ms (va_A ws sz)
def MVa (l : Launch) (y : MethodName) (cw : Cond) (lev mc ms : Nat) (D : va_G) (τ : ClassId × ClassId × ClassId) (B : Nat) (av : List Value) (ws : va_W) (S : Type) (post : S → Prop) (w1 : S → va_W) : Prop := ∀ sz : Nat, Met l y (cw :: tw) (rma lev mc ms) (va_Pc av (wP D τ B sz ws)) (va_Qv (S := S) post (fun u => wB D τ (va_A ws sz) (w1 u)) (va_A ws sz)) mc ms (va_A ws sz)
def QIa (below : List Frame) (args : Array Value) (s : State) (A : Nat → Prop) (D : va_G) (τ : ClassId × ClassId × ClassId) (mc ms : Nat) (S : Type) (post : Int32 → S → Prop) (w1 : S → va_W) : State → Prop := MQ below (va_Qi (S := S) post (fun u => wB D τ A (w1 u)) A) args s mc ms A
def QVa (below : List Frame) (args : Array Value) (s : State) (A : Nat → Prop) (D : va_G) (τ : ClassId × ClassId × ClassId) (mc ms : Nat) (S : Type) (post : S → Prop) (w1 : S → va_W) : State → Prop := MQ below (va_Qv (S := S) post (fun u => wB D τ A (w1 u)) A) args s mc ms A
section ENTRY
variable {l : Launch} {cc : ByteArray} {lev mc ms B : Nat} {D : va_G} {τ : ClassId × ClassId × ClassId} {ws : va_W} {S : Type} {w1 : S → va_W}
theorem en_ia {y : MethodName} {maxL : Nat} {ret : Option FieldType} {av : List Value} {post : Int32 → S → Prop} (hy : plainName y.cls = true) (hn : (lg_sl av).length ≤ maxL)
    (body : ∀ (p : Program) (e : Env) (R : Room) (s : State) (m : MethodId) (args : Array Value) (below : List Frame) (meth : Method) (c : Code) (H : Heap) (locs : List Loc) (ls : Array Slot) (A : Nat → Prop), Cx p R s m args meth c cc maxL y.cls lev D τ B A → R.cells = mc → R.slots = ms → meth.sig.returnType = ret → Wd s D A ws H locs → lv_has ls maxL (lv_args 0 av) → W p l e R s m args below meth c H locs 0 0 (QIa below args s A D τ mc ms S post w1) (F0 m 0 ls [])) :
    MIa l y (Cond.code y cc maxL ret) lev mc ms D τ B av ws S post w1 := by
  intro sz
  refine Met.ofW (cc := cc) (maxL := maxL) (ret := ret) hy rfl ?_
  intro p e s m args below meth c s₁ B0 hml hv
  obtain ⟨rfl, hv⟩ := hv
  have hts := atoms_spec (ws := Cond.code y cc maxL ret :: tw) B0.pre
  have hown : s.vm.findClass y.cls = some m.cls := findClass_of_methodNamed B0.named
  obtain ⟨hC, hP, hD, hsz⟩ := wC_init hv
  subst hsz
  rw [lg_entry_eq]
  exact body p e _ s m _ below meth c s.heap [] _ (va_A ws s.heap.size) ⟨B0.exec, B0.bytes, hml, hown, fun w hw => hts w (List.mem_cons_of_mem _ hw), hC, Nat.le_refl _, Nat.le_refl _, B0.notSynchronized⟩ rfl rfl B0.returns ⟨hP, hD, va_S.rf⟩ (lv_entry av hn)
theorem en_va {y : MethodName} {maxL : Nat} {ret : Option FieldType} {av : List Value} {post : S → Prop} (hy : plainName y.cls = true) (hn : (lg_sl av).length ≤ maxL)
    (body : ∀ (p : Program) (e : Env) (R : Room) (s : State) (m : MethodId) (args : Array Value) (below : List Frame) (meth : Method) (c : Code) (H : Heap) (locs : List Loc) (ls : Array Slot) (A : Nat → Prop), Cx p R s m args meth c cc maxL y.cls lev D τ B A → R.cells = mc → R.slots = ms → meth.sig.returnType = ret → Wd s D A ws H locs → lv_has ls maxL (lv_args 0 av) → W p l e R s m args below meth c H locs 0 0 (QVa below args s A D τ mc ms S post w1) (F0 m 0 ls [])) :
    MVa l y (Cond.code y cc maxL ret) lev mc ms D τ B av ws S post w1 := by
  intro sz
  refine Met.ofW (cc := cc) (maxL := maxL) (ret := ret) hy rfl ?_
  intro p e s m args below meth c s₁ B0 hml hv
  obtain ⟨rfl, hv⟩ := hv
  have hts := atoms_spec (ws := Cond.code y cc maxL ret :: tw) B0.pre
  have hown : s.vm.findClass y.cls = some m.cls := findClass_of_methodNamed B0.named
  obtain ⟨hC, hP, hD, hsz⟩ := wC_init hv
  subst hsz
  rw [lg_entry_eq]
  exact body p e _ s m _ below meth c s.heap [] _ (va_A ws s.heap.size) ⟨B0.exec, B0.bytes, hml, hown, fun w hw => hts w (List.mem_cons_of_mem _ hw), hC, Nat.le_refl _, Nat.le_refl _, B0.notSynchronized⟩ rfl rfl B0.returns ⟨hP, hD, va_S.rf⟩ (lv_entry av hn)
/-- a method with a table of catches -/
theorem en_iw {y : MethodName} {maxL : Nat} {ret : Option FieldType} {hh : List (Nat × Nat × Nat × Nat)} {av : List Value} {post : Int32 → S → Prop} (hy : plainName y.cls = true) (hn : (lg_sl av).length ≤ maxL)
    (body : ∀ (p : Program) (e : Env) (R : Room) (s : State) (m : MethodId) (args : Array Value) (below : List Frame) (meth : Method) (c : Code) (H : Heap) (locs : List Loc) (ls : Array Slot) (A : Nat → Prop), Cx p R s m args meth c cc maxL y.cls lev D τ B A → R.cells = mc → R.slots = ms → meth.sig.returnType = ret → c.exceptionTable.toList.map (fun h => (h.startPc, h.endPc, h.handlerPc, h.catchType)) = hh → Wd s D A ws H locs → lv_has ls maxL (lv_args 0 av) → W p l e R s m args below meth c H locs 0 0 (QIa below args s A D τ mc ms S post w1) (F0 m 0 ls [])) :
    MIa l y (Cond.codeWith y cc maxL ret hh) lev mc ms D τ B av ws S post w1 := by
  intro sz
  refine va_MetW (cc := cc) (maxL := maxL) (ret := ret) (hh := hh) hy rfl ?_
  intro p e s m args below meth c s₁ B0 hml hv
  obtain ⟨rfl, hv⟩ := hv
  have hts := atoms_spec (ws := Cond.codeWith y cc maxL ret hh :: tw) B0.pre
  have hown : s.vm.findClass y.cls = some m.cls := findClass_of_methodNamed B0.named
  have hta := tq_tab (hh := hh) B0 (hts _ List.mem_cons_self)
  obtain ⟨hC, hP, hD, hsz⟩ := wC_init hv
  subst hsz
  rw [lg_entry_eq]
  exact body p e _ s m _ below meth c s.heap [] _ (va_A ws s.heap.size) ⟨B0.exec, B0.bytes, hml, hown, fun w hw => hts w (List.mem_cons_of_mem _ hw), hC, Nat.le_refl _, Nat.le_refl _, B0.notSynchronized⟩ rfl rfl B0.returns hta ⟨hP, hD, va_S.rf⟩ (lv_entry av hn)
end ENTRY
section ENDS
variable {p : Program} {l : Launch} {e : Env} {R : Room} {s : State} {m : MethodId} {args : Array Value} {below : List Frame} {meth : Method} {c : Code} {H : Heap} {locs : List Loc}
variable {cc : ByteArray} {nL pc lev mc ms : Nat} {own : String} {D : va_G} {τ : ClassId × ClassId × ClassId} {B : Nat} {A : Nat → Prop} {S : Type} {w1 : S → va_W} {ls : Array Slot}
theorem rt_ia {post : Int32 → S → Prop} (E : Cx p R s m args meth c cc nL own lev D τ B A) (u : S) {v : Int32} (hp : post v u) (w : Wd s D A (w1 u) H locs) (hr : meth.sig.returnType = some .int) (hd : decode cc pc = .ok (.ireturn, 1)) : W p l e R s m args below meth c H locs mc ms (QIa below args s A D τ mc ms S post w1) (F0 m pc ls [.int v]) :=
  W.iret (v := v) E.1 E.2.1 hr (fun t ht hW => ⟨⟨v, u, rfl, hp, wb_i w E.K ht hW⟩, w.2.2.F ht⟩) w.2.2.2.2 hd E.2.2.2.2.2.2.2.2
theorem rt_va {post : S → Prop} (E : Cx p R s m args meth c cc nL own lev D τ B A) (u : S) (hp : post u) (w : Wd s D A (w1 u) H locs) (hr : meth.sig.returnType = none) (hd : decode cc pc = .ok (.return_, 1)) : W p l e R s m args below meth c H locs mc ms (QVa below args s A D τ mc ms S post w1) (F0 m pc ls []) :=
  W.vret E.1 E.2.1 hr (fun t ht hW => ⟨⟨u, rfl, hp, wb_i w E.K ht hW⟩, w.2.2.F ht⟩) w.2.2.2.2 hd E.2.2.2.2.2.2.2.2
end ENDS
/-! exceptions -/
def ow : List Cond := [.initialized "java/lang/Throwable", .laysStatic "java/lang/Throwable" "UNASSIGNED_STACK" "[Ljava/lang/StackTraceElement;", .laysStatic "java/lang/Throwable" "SUPPRESSED_SENTINEL" "Ljava/util/List;", .isRef (.static "java/lang/Throwable" "UNASSIGNED_STACK" "[Ljava/lang/StackTraceElement;"), .isRef (.static "java/lang/Throwable" "SUPPRESSED_SENTINEL" "Ljava/util/List;")]
def exn : List String := ["java/lang/RuntimeException", "java/lang/Exception"]
def owc (a : Cond) : Prop := (a ∈ lw_tbl ∧ (goodWord a = true ∨ isNest a = true)) ∨ a ∈ ow
theorem own_use {D : va_G} {τ : ClassId × ClassId × ClassId} {B : Nat} {A : Nat → Prop} {s : State} {args : Array Value} (htw : ∀ w ∈ tw, w.before args s = true) (hC : wC D τ B A s) {l : List Cond} (h : ∀ a ∈ l, owc a) : ∀ a ∈ l, a.before args s = true := by
  intro a ha
  rcases h a ha with ⟨h0, h1 | h1⟩ | h1
  · exact htw a (tw_of h0 h1)
  · exact va_Nw.use (nw_on a (nw_of h0 h1)) (hC.2.1.1 a (nw_of h0 h1))
  · simp only [ow, List.mem_cons, List.not_mem_nil, or_false] at h1
    rcases h1 with rfl | rfl | rfl | rfl | rfl
    · exact va_tabs rfl rfl hC.2.2.1.2.2.2.2.2
    · exact (wLs_use hC.2.2.1.1).1
    · exact (wLs_use hC.2.2.1.2.1).1
    · exact (wLs_use hC.2.2.1.1).2
    · exact (wLs_use hC.2.2.1.2.1).2
section TQH
variable {p : Program} {l : Launch} {e : Env} {R : Room} {s : State} {m : MethodId} {args : Array Value} {below : List Frame} {meth : Method} {c : Code} {H : Heap} {locs : List Loc}
theorem tq_throwH {cc : ByteArray} (hexec : p.tables.exec = Jvm.exec) (hb : c.code = cc) (htr : e.platform.stackTraces = false) {own cls tx : String} {names : List String} {ia ib ic pc : Nat} {ls : Array Slot}
    (hown : s.vm.findClass own = some m.cls) (hcls : Bundle.fit cls = true) (hnames : ∀ n ∈ names, Bundle.fit n = true) (h : ∀ a ∈ Bundle.ownAtoms own ic cls names, a.before args s = true)
    (hcl : (Cond.classLink own ia cls).before args s = true) (hini : (Cond.initialized cls).before args s = true) (hZ : ∃ q : Nat, vk_R own ib tx q s) (hml : c.maxLocals = ls.size) (hout : c.exceptionTable.isEmpty = true) (hlocks : meth.locks = false)
    (hd0 : decode cc pc = .ok (.new ia, 3)) (hd3 : decode cc (pc + 3) = .ok (.dup, 1)) (hd4 : decode cc (pc + 3 + 1) = .ok (.ldc ib, 2)) (hd6 : decode cc (pc + 3 + 1 + 2) = .ok (.invokespecial ic, 3)) (hd9 : decode cc (pc + 3 + 1 + 2 + 3) = .ok (.athrow, 1))
    (hRf : names.length + 3 < R.frames) (hRl : 1 + (13 * (names.length + 1) + 42) ≤ R.locals) (hRc : 0 + 1 ≤ R.cells) (hRs : 0 + 6 ≤ R.slots) (hsz : s.heap.size ≤ H.size) (hf : ∀ q ∈ locs, s.heap.size ≤ q.base) :
    W p l e R s m args below meth c H locs 0 0 (tq_MQ below (tq_Q cls) args s 1 6) (F0 m pc ls []) := by
  obtain ⟨q, hZ⟩ := hZ
  refine va_forget hf ?_
  have hins : (Cond.instantiable cls 6).before args s = true := h _ (by simp [Bundle.ownAtoms])
  refine W.newc hexec hb hown hcl hins hini rfl hd0 hRc hRs fun cC kC h1 h2 h3 h4 => ?_
  refine lv_dup hexec hb hd3 rfl ?_
  refine va_ldcS hexec hb hown hZ hd4 ?_
  intro T hT X
  have hcell : T.heap[H.size]? = some (freshCell cC kC) := by rw [hT]; simp [freshCell]
  obtain ⟨U, st, hrun, hend, hWm, hsame, ce, hce, hO⟩ := X.ctorThrowS hexec htr hown hcls hnames h (fun _ hx => by cases hx) h1 h2 hcell hsz (msg := .ref q) rfl (g := F0 m (pc + 3 + 1 + 2) ls [.ref q, .ref H.size, .ref H.size]) rfl hml.symm rfl rfl (rest := []) rfl (by rw [hb]; exact hd6) (by rw [hb]; exact hd9)
    (fun x hx => by rw [show c.exceptionTable.toList = [] from List.eq_nil_of_length_eq_zero (by simpa [Array.isEmpty] using hout)] at hx; cases hx) hRf (by simp [JFrame.monitorRoom, Value.category]; omega) hlocks
  refine ⟨U, st, H.size, hrun, hend, ⟨hsz, ⟨ce, hce, hO.cls, hO.vm⟩, fun z hz => ?_⟩, hWm, hsame⟩
  obtain ⟨cz, hcz⟩ : ∃ cz, s.heap[z]? = some cz := ⟨_, Array.getElem?_eq_getElem hz⟩
  rw [hcz]
  exact hsame.old_cell hcz
end TQH
