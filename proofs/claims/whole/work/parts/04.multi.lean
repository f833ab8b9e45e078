/-! multianewarray of two dimensions of ints, made in one instruction -/
def tq_fill (a : Nat) (inner : Cell) : Nat → Nat → Cell → State → State
  | 0, _, _, U => U
  | k + 1, i, c, U => tq_fill a inner k (i + 1) (c.setSlot i (.ref U.heap.size)) ((U.pushCell inner).setCell a (c.setSlot i (.ref U.heap.size)))
theorem tq_fill_heap {a : Nat} {inner : Cell} : ∀ (k i : Nat) (c : Cell) (U : State), a < U.heap.size → (tq_fill a inner k i c U).heap.size = U.heap.size + k ∧ ∀ q : Nat, q < U.heap.size → q ≠ a → (tq_fill a inner k i c U).heap[q]? = U.heap[q]? := by
  intro k
  induction k with
  | zero => intro i c U ha; exact ⟨rfl, fun _ _ _ => rfl⟩
  | succ k ih =>
    intro i c U ha
    have hz : ((U.pushCell inner).setCell a (c.setSlot i (.ref U.heap.size))).heap.size = U.heap.size + 1 := by rw [size_setCell, size_pushCell]
    obtain ⟨h1, h2⟩ := ih (i + 1) (c.setSlot i (.ref U.heap.size)) ((U.pushCell inner).setCell a (c.setSlot i (.ref U.heap.size))) (by omega)
    refine ⟨by show (tq_fill a inner k _ _ _).heap.size = _; rw [h1, hz]; omega, fun q hq hne => ?_⟩
    show (tq_fill a inner k _ _ _).heap[q]? = _
    rw [h2 q (by omega) hne, heapAt_setCell_ne _ (Ne.symm hne)]
    exact State.heap_pushCell_of_lt _ _ hq
theorem tq_newArray {Q : Addr → Pre} {E : CtlPost} {e : Env} {d : Bool} {acts : List Action} {s : State} {c n : Nat} {v : Value} {k : Class} {comp : ClassId} {ty : FieldType} (hk : s.vm.classes[c]? = some k) (hkind : k.kind = .array comp ty) (hlim : ¬ n > e.platform.arrayLengthLimit) (hhp : ¬ n * componentBytes ty > e.platform.maxHeapBytes)
    (h1 : s.heap.size < e.platform.maxCells) (h2 : s.slotsUsed + n ≤ e.platform.maxSlots) (hv : fits ty v = true) (hq : ∀ acts', Q s.heap.size d acts' (s.pushCell { cls := c, slots := Array.replicate n v, vm := .none })) : wp (Jvm.newArray c n v) Q E e d acts s := by
  have hs : ¬ n > e.platform.maxSlots := by omega
  simp only [Jvm.newArray, Jvm.arrayFits, wp_bind', W.ask, W.ite, hlim, if_false, wp_pure', W.theClass, hk]
  refine ⟨k, rfl, ?_⟩
  rw [hkind]
  simp only [wp_bind', W.ask, W.ite, hhp, hs, if_false, wp_pure', W.alloc]
  refine ⟨h1, by simpa using h2, fun i w hw => ?_, hq _⟩
  simp only [Array.getElem?_replicate] at hw
  split at hw
  · cases hw; simp [State.fitsSlot, State.slotType?, hk, hkind, hv]
  · cases hw
section TQM
variable {p : Program} {l : Launch} {e : Env} {R : Room} {s : State} {m : MethodId} {args : Array Value} {below : List Frame} {meth : Method} {c : Code} {H : Heap} {locs : List Loc} {Q : State → Prop}
theorem tq_fill_stand {a : Nat} {inner : Cell} (ha : s.heap.size ≤ a) : ∀ (k i : Nat) (co : Cell) (U : State) (cells slots : Nat), U.heap[a]? = some co → Stand p l e R s m args below meth c U locs cells slots → Stand p l e R s m args below meth c (tq_fill a inner k i co U) locs (cells + k) (slots + k * inner.slots.size) := by
  intro k
  induction k with
  | zero => intro i co U cells slots _ X; rw [Nat.zero_mul]; exact X
  | succ k ih =>
    intro i co U cells slots hc X
    have hl : a < U.heap.size := (Array.getElem?_eq_some_iff.mp hc).1
    have X1 := X.pushed inner
    have hc1 : (U.pushCell inner).heap[a]? = some co := by rw [State.heap_pushCell_of_lt _ _ hl]; exact hc
    have X2 := X1.stored hc1 i (.ref U.heap.size)
    have X3 : Stand p l e R s m args below meth c ((U.pushCell inner).setCell a (co.setSlot i (.ref U.heap.size))) locs (cells + 1) (slots + inner.slots.size) := by
      refine Stand.forget X2 (fun q hq => ?_)
      rw [List.mem_singleton.mp hq]
      exact ha
    have X4 := ih (i + 1) (co.setSlot i (.ref U.heap.size)) _ _ _ (heapAt_setCell_self (s := U.pushCell inner) _ (show a < (U.pushCell inner).heap.size by rw [size_pushCell]; omega)) X3
    rw [show cells + (k + 1) = cells + 1 + k by omega, show slots + (k + 1) * inner.slots.size = slots + inner.slots.size + k * inner.slots.size by rw [Nat.succ_mul]; omega]
    exact X4
theorem tq_fill_wp {a n : Nat} {comp cO : ClassId} {kO kI : Class} {tI : ClassId} (ha : s.heap.size ≤ a) (hn : ¬ n > 536870912 / 4) {f : JFrame} {body : Nat → PUnit → Sem (ForInStep PUnit)}
    (hbody : ∀ i u, body i u = (do let x ← multianewarray.make comp [Int32.ofNat n]; Jvm.writeLoc a i (.ref x); Pure.pure (ForInStep.yield PUnit.unit)))
    (hN : n < 2 ^ 31) :
    ∀ (k i : Nat) (co : Cell) (U : State) (cells slots : Nat) (d : Bool) (acts : List Action) (E : CtlPost) (Q : PUnit → Pre), U.heap[a]? = some co → co.cls = cO → co.vm = .none → U.vm.classes[cO]? = some kO → kO.kind = .array comp (.array .int) → U.vm.classes[comp]? = some kI → kI.kind = .array tI .int → i + k ≤ co.slots.size →
      Stand p l e R s m args below meth c U locs cells slots → cells + k ≤ R.cells → slots + k * n ≤ R.slots →
      (∀ d' acts', Q PUnit.unit d' acts' ((tq_fill a { cls := comp, slots := Array.replicate n (.int 0), vm := .none } k i co U).setTop f)) → wp (forIn (List.range' i k) PUnit.unit body) Q E e d acts (U.setTop f) := by
  intro k
  induction k with
  | zero =>
    intro i co U cells slots d acts E Q _ _ _ _ _ _ _ _ _ _ _ hq
    simp only [List.range'_zero, List.forIn_nil, wp_pure']
    exact hq d acts
  | succ k ih =>
    intro i co U cells slots d acts E Q hc h1 h2 h3 h4 h5 h6 hi X hcl hsl hq
    have hl : a < U.heap.size := (Array.getElem?_eq_some_iff.mp hc).1
    have hr1 := X.cellsAbove (n := k + 1) hcl
    have hr2 := X.slotsAbove (n := (k + 1) * n) hsl
    have hneg : ¬ Int32.ofNat n < 0 := nI_pos hN
    have hcl2 : (Int32.ofNat n).toNatClampNeg = n := nI_clamp hN
    have hlim : ¬ n > e.platform.arrayLengthLimit := by rw [Launch.admits_arrayLengthLimit X.admits]; omega
    have hhp : ¬ n * componentBytes .int > e.platform.maxHeapBytes := by rw [Launch.admits_maxHeapBytes X.admits]; show ¬ n * 4 > 536870912; omega
    have hm : n ≤ (k + 1) * n := Nat.le_mul_of_pos_left n (Nat.succ_pos k)
    simp only [List.range'_succ, List.forIn_cons, hbody, wp_bind', multianewarray.make, W.ite, hneg, if_false, wp_pure', W.theClass, State.vm_setTop, h5, hcl2]
    refine ⟨kI, rfl, ?_⟩
    rw [h6]
    refine tq_newArray (s := U.setTop f) (k := kI) (comp := tI) (ty := .int) h5 h6 hlim hhp (by show U.heap.size < _; omega) (by show U.slotsUsed + n ≤ _; omega) rfl (fun acts' => ?_)
    simp only [wp_bind', W.writeLoc, wp_pure']
    have hc1 : (U.pushCell { cls := comp, slots := Array.replicate n (defaultValue .int), vm := .none }).heap[a]? = some co := by rw [State.heap_pushCell_of_lt _ _ hl]; exact hc
    refine ⟨co, hc1, (by rw [h2]; exact fun h => nomatch h), by omega, ?_, ?_⟩
    · show State.fitsSlot _ co.cls co.vm i _ = true
      rw [h1, h2]
      simp [State.fitsSlot, State.slotType?, h3, h4, fits]
    · have hX1 := X.pushed { cls := comp, slots := Array.replicate n (.int 0), vm := .none }
      have hX2 := hX1.stored hc1 i (.ref U.heap.size)
      have hX3 := Stand.forget hX2 (fun q hq => by rw [List.mem_singleton.mp hq]; exact ha)
      have hsz : ({ cls := comp, slots := Array.replicate n (.int 0), vm := .none } : Cell).slots.size = n := by simp
      have hX4 : Stand p l e R s m args below meth c ((U.pushCell { cls := comp, slots := Array.replicate n (.int 0), vm := .none }).setCell a (co.setSlot i (.ref U.heap.size))) locs (cells + 1) (slots + n) := by
        rw [hsz] at hX3
        exact hX3
      refine ih (i + 1) (co.setSlot i (.ref U.heap.size)) ((U.pushCell { cls := comp, slots := Array.replicate n (.int 0), vm := .none }).setCell a (co.setSlot i (.ref U.heap.size))) (cells + 1) (slots + n) _ _ E Q (heapAt_setCell_self (s := U.pushCell _) _ (show a < (U.pushCell _).heap.size by rw [size_pushCell]; omega)) h1 h2 h3 h4 h5 h6 (by simp [Cell.setSlot]; omega) hX4 (by omega) (by rw [Nat.succ_mul] at hsl; omega) hq
variable {cells slots : Nat} {cc : ByteArray} {pc : Nat} {ls : Array Slot} {rest : List Value}
theorem tq_multi (hexec : p.tables.exec = Jvm.exec) (hb : c.code = cc) {own : String} {index : Nat} (hown : s.vm.findClass own = some m.cls) (hclink : (Cond.classLink own index "[[I").before args s = true) (hover : (Cond.arrayOver (.array .int)).before args s = true) (harr : (Cond.arrayClass .int).before args s = true)
    {k n : Nat} (hk : k ≤ 65536) (hn : n ≤ 65536) (hk0 : 0 < k) (hdg : decode cc pc = .ok (.multianewarray index 2, 4)) (hcells : cells + (1 + k) ≤ R.cells) (hslots : slots + (k + k * n) ≤ R.slots) (hsH : s.heap.size ≤ H.size)
    (kk : ∀ H1 : Heap, H1.size = H.size + (1 + k) → (∀ z : Nat, z < H.size → H1[z]? = H[z]?) → W p l e R s m args below meth c H1 locs (cells + (1 + k)) (slots + (k + k * n)) Q (F0 m (pc + 4) ls (.ref H.size :: rest))) : W p l e R s m args below meth c H locs cells slots Q (F0 m pc ls (.int (nI n) :: .int (nI k) :: rest)) := by
  intro T hT X
  have hpl : e.platform.magicAccessors = ({} : Platform).magicAccessors := by rw [X.admits.platform]
  obtain ⟨comp, cA, kA, hcomp, -, hkA, hkindA, hnameA⟩ := arrayOverA_spec hover
  obtain ⟨cI, kI, tI, hcI, hkI, hkindI⟩ := Cond.arrayClass_spec harr
  have hcc : comp = cI := Option.some.inj (hcomp.symm.trans hcI)
  subst hcc
  obtain ⟨c3, hfc3, hcl⟩ := Cond.classLink_spec hown hclink e.platform hpl
  have hc3 : cA = c3 := Option.some.inj (hnameA.symm.trans hfc3)
  subst hc3
  obtain ⟨hg₁, hwarm₁, hready₁⟩ := State.classEntry (e := e) X.warmed hcl
  have hsz : (T.vm.noted m.cls index (.cls cA)).classes.size ≤ T.vm.classes.size := by no_record
  generalize T.vm.noted m.cls index (.cls cA) = vm₁ at hg₁ hwarm₁ hready₁ hsz
  have hal := hwarm₁.alike
  obtain ⟨kA₁, hkA₁, heA⟩ := hal.2.2 _ _ hkA
  have hkindA₁ : kA₁.kind = .array comp (.array .int) := by rw [heA]; exact hkindA
  obtain ⟨kI₁, hkI₁, heI⟩ := hal.2.2 _ _ hkI
  have hkindI₁ : kI₁.kind = .array tI .int := by rw [heI]; exact hkindI
  have X₁ := X.noted hwarm₁
  have X₂ := X₁.pushed { cls := cA, slots := Array.replicate k .null, vm := .none }
  have hX₂ : Stand p l e R s m args below meth c ((T.setVm vm₁).pushCell { cls := cA, slots := Array.replicate k .null, vm := .none }) locs (cells + 1) (slots + k) := by simpa using X₂
  have hc0 : ((T.setVm vm₁).pushCell { cls := cA, slots := Array.replicate k .null, vm := .none }).heap[T.heap.size]? = some { cls := cA, slots := Array.replicate k .null, vm := .none } := State.heap_pushCell_size (T.setVm vm₁) _
  have hsT : s.heap.size ≤ T.heap.size := by rw [hT]; exact hsH
  have X₃ := tq_fill_stand (inner := { cls := comp, slots := Array.replicate n (.int 0), vm := .none }) hsT k 0 _ _ _ _ hc0 hX₂
  obtain ⟨z1, z2⟩ := tq_fill_heap (a := T.heap.size) (inner := { cls := comp, slots := Array.replicate n (.int 0), vm := .none }) k 0 { cls := cA, slots := Array.replicate k .null, vm := .none } ((T.setVm vm₁).pushCell { cls := cA, slots := Array.replicate k .null, vm := .none }) (by rw [size_pushCell]; exact Nat.lt_succ_self _)
  have hX₃ : Stand p l e R s m args below meth c (tq_fill T.heap.size { cls := comp, slots := Array.replicate n (.int 0), vm := .none } k 0 { cls := cA, slots := Array.replicate k .null, vm := .none } ((T.setVm vm₁).pushCell { cls := cA, slots := Array.replicate k .null, vm := .none })) locs (cells + (1 + k)) (slots + (k + k * n)) := by
    have h := X₃
    rw [show ({ cls := comp, slots := Array.replicate n (.int 0), vm := .none } : Cell).slots.size = n by simp, Nat.add_assoc, Nat.add_assoc] at h
    exact h
  have hr1 := X.cellsAbove (n := 1 + k) hcells
  have hr2 := X.slotsAbove (n := k + k * n) hslots
  have hsT2 : ((T.setVm vm₁).pushCell { cls := cA, slots := Array.replicate k .null, vm := .none }).heap.size = H.size + 1 := by rw [size_pushCell, ← hT]; rfl
  obtain ⟨t, a1, b1⟩ := kk _ (by rw [z1, hsT2]; omega) (fun z hz => by
      rw [z2 z (by rw [hsT2]; omega) (by rw [hT]; omega), State.heap_pushCell_of_lt _ _ (by show z < T.heap.size; rw [hT]; exact hz)]
      show T.heap[z]? = _
      rw [hT]) _ rfl hX₃
  refine ⟨t, ?_, b1⟩
  have hkn : ¬ nI k < 0 := nI_pos (by omega)
  have hkc : (nI k).toNatClampNeg = k := nI_clamp (by omega)
  have hlim : ¬ k > e.platform.arrayLengthLimit := by rw [Launch.admits_arrayLengthLimit X.admits]; omega
  have hhp : ¬ k * componentBytes (.array .int) > e.platform.maxHeapBytes := by rw [Launch.admits_maxHeapBytes X.admits]; show ¬ k * 4 > 536870912; omega
  obtain ⟨ha, ht⟩ := hg₁.op (op := VmOp.resolveClass m.cls index) rfl
  jvm_step X.here [hexec, hb, hdg, multianewarray.sem]
  refine ⟨(T.setVm vm₁).setTop (F0 m pc ls (.int (nI n) :: .int (nI k) :: rest)), VmOp.lands_eq (s := T.setTop _) ht hsz, ?_⟩
  rw [ha]
  simp only []
  rw [W.popN 2, if_neg (by decide)]
  refine ⟨F0 m pc ls (.int (nI n) :: .int (nI k) :: rest), State.topJava?_setTop' _ X.here.top, [.int (nI k), .int (nI n)], rest, rfl, rfl, ?_⟩
  rw [State.setTop_setTop]
  simp only [List.mapM_cons, List.mapM_nil, wp_bind', wp_pure', multianewarray.make, W.ite, hkn, if_false, W.theClass, State.vm_setTop, State.vm_setVm, hkA₁, hkc]
  refine ⟨kA₁, rfl, ?_⟩
  rw [hkindA₁]
  have hk1 : (nI k == 0) = false := by
    rw [beq_eq_false_iff_ne]
    exact nI_ne0 hk0 (by omega)
  simp only [wp_bind', hk1, Bool.false_eq_true, if_false]
  refine tq_newArray (s := (T.setVm vm₁).setTop _) (k := kA₁) (comp := comp) (ty := .array .int) hkA₁ hkindA₁ hlim hhp (by show T.heap.size < _; omega) (by show T.slotsUsed + k ≤ _; omega) rfl (fun acts' => ?_)
  simp only [Std.Legacy.Range.forIn_eq_forIn_range', Std.Legacy.Range.size, Nat.sub_zero, Nat.add_sub_cancel, Nat.div_one]
  rw [wp_bind', State.pushCell_setTop, show ((T.setVm vm₁).setTop (F0 m pc ls rest)).heap.size = T.heap.size from congrArg Array.size (State.heap_setTop _ _)]
  refine tq_fill_wp (p := p) (l := l) (R := R) (s := s) (m := m) (args := args) (below := below) (meth := meth) (c := c) (locs := locs) (a := T.heap.size) (n := n) (comp := comp) (cO := cA) (kO := kA₁) (kI := kI₁) (tI := tI) hsT (by omega) ?hbody (by omega) k 0 { cls := cA, slots := Array.replicate k .null, vm := .none } ((T.setVm vm₁).pushCell { cls := cA, slots := Array.replicate k .null, vm := .none }) (cells + 1) (slots + k) _ _ _ _ hc0 rfl rfl hkA₁ hkindA₁ hkI₁ hkindI₁ (by simp) hX₂ (by omega) (by omega) (fun d' acts'' => ?_)
  · intro i u
    simp only [multianewarray.make, Std.Legacy.Range.forIn_eq_forIn_range', Std.Legacy.Range.size, Nat.sub_zero, Nat.add_sub_cancel, Nat.div_one]
    rfl
  · simp only [wp_bind', wp_pure', W.mark, W.pushRef]
    refine ⟨_, State.topJava?_setTop' _ hX₃.here.top, fun acts => ?_⟩
    rw [State.setTop_setTop]
    have a2 := a1
    rw [← hT] at a2
    rw [afterInstr_ok]
    exact a2
end TQM
