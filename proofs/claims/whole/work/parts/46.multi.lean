theorem arrV_ext {cI : ClassId} {N : Nat} {f g : Nat → Value} (h : ∀ j, j < N → f j = g j) : arrV cI N f = arrV cI N g := by
  unfold arrV
  congr 1
  exact congrArg Array.ofFn (funext fun j => h j.val j.isLt)
theorem tq_fill_at {a : Nat} {inner : Cell} {cO : ClassId} {N : Nat} : ∀ (k i : Nat) (f : Nat → Value) (U : State), a < U.heap.size → U.heap[a]? = some (arrV cO N f) → i + k ≤ N →
    (tq_fill a inner k i (arrV cO N f) U).heap[a]? = some (arrV cO N (fun j => if i ≤ j ∧ j < i + k then .ref (U.heap.size + (j - i)) else f j)) ∧ (∀ j, j < k → (tq_fill a inner k i (arrV cO N f) U).heap[U.heap.size + j]? = some inner) := by
  intro k
  induction k with
  | zero =>
    intro i f U ha hc hi
    refine ⟨?_, fun j hj => absurd hj (by omega)⟩
    show U.heap[a]? = _
    rw [hc]
    refine congrArg some (arrV_ext (fun j hj => ?_))
    rw [if_neg (by omega)]
  | succ k ih =>
    intro i f U ha hc hi
    have hz : ((U.pushCell inner).setCell a (arrV cO N (updV f i (.ref U.heap.size)))).heap.size = U.heap.size + 1 := by rw [size_setCell, size_pushCell]
    have hself : ((U.pushCell inner).setCell a (arrV cO N (updV f i (.ref U.heap.size)))).heap[a]? = some (arrV cO N (updV f i (.ref U.heap.size))) := heapAt_setCell_self (s := U.pushCell inner) _ (by rw [size_pushCell]; exact Nat.lt_succ_of_lt ha)
    obtain ⟨h1, h2⟩ := ih (i + 1) (updV f i (.ref U.heap.size)) ((U.pushCell inner).setCell a (arrV cO N (updV f i (.ref U.heap.size)))) (by omega) hself (by omega)
    have ef : tq_fill a inner (k + 1) i (arrV cO N f) U = tq_fill a inner k (i + 1) (arrV cO N (updV f i (.ref U.heap.size))) ((U.pushCell inner).setCell a (arrV cO N (updV f i (.ref U.heap.size)))) := by
      show tq_fill a inner k (i + 1) ((arrV cO N f).setSlot i (.ref U.heap.size)) ((U.pushCell inner).setCell a ((arrV cO N f).setSlot i (.ref U.heap.size))) = _
      rw [arrV_store]
    rw [ef]
    constructor
    · rw [h1, hz]
      refine congrArg some (arrV_ext (fun j hj => ?_))
      by_cases c1 : j = i
      · subst c1
        rw [if_neg (by omega), if_pos (by omega), Nat.sub_self, Nat.add_zero]
        simp [updV]
      · by_cases c2 : i + 1 ≤ j ∧ j < i + 1 + k
        · rw [if_pos c2, if_pos (by omega), show U.heap.size + 1 + (j - (i + 1)) = U.heap.size + (j - i) by omega]
        · rw [if_neg c2, if_neg (by omega)]
          simp [updV, c1]
    · intro j hj
      cases j with
      | zero =>
        have hne : a ≠ U.heap.size := Nat.ne_of_lt ha
        have h3 := (tq_fill_heap (a := a) (inner := inner) k (i + 1) (arrV cO N (updV f i (.ref U.heap.size))) ((U.pushCell inner).setCell a (arrV cO N (updV f i (.ref U.heap.size)))) (by rw [hz]; exact Nat.lt_succ_of_lt ha)).2 U.heap.size (by rw [hz]; exact Nat.lt_succ_self _) hne.symm
        refine h3.trans ?_
        rw [heapAt_setCell_ne _ hne]
        exact State.heap_pushCell_size U inner
      | succ j =>
        have h := h2 j (by omega)
        rw [hz] at h
        rw [show U.heap.size + (j + 1) = U.heap.size + 1 + j by omega]
        exact h
section TQM2
variable {p : Program} {l : Launch} {e : Env} {R : Room} {s : State} {m : MethodId} {args : Array Value} {below : List Frame} {meth : Method} {c : Code} {H : Heap} {locs : List Loc} {Q : State → Prop} {cells slots : Nat} {cc : ByteArray} {pc : Nat} {ls : Array Slot} {rest : List Value}
theorem tq_multi2 (hexec : p.tables.exec = Jvm.exec) (hb : c.code = cc) {own : String} {index : Nat} (hown : s.vm.findClass own = some m.cls) (hclink : (Cond.classLink own index "[[I").before args s = true) (hover : (Cond.arrayOver (.array .int)).before args s = true) (harr : (Cond.arrayClass .int).before args s = true)
    {k n : Nat} (hk : k ≤ 65536) (hn : n ≤ 65536) (hk0 : 0 < k) (hdg : decode cc pc = .ok (.multianewarray index 2, 4)) (hcells : cells + (1 + k) ≤ R.cells) (hslots : slots + (k + k * n) ≤ R.slots) (hsH : s.heap.size ≤ H.size)
    (kk : ∀ (H1 : Heap) (cA comp : ClassId), H1.size = H.size + (1 + k) → (∀ z : Nat, z < H.size → H1[z]? = H[z]?) → s.vm.findClass "[[I" = some cA → s.vm.findClass "[I" = some comp → H1[H.size]? = some (arrV cA k (fun j => .ref (H.size + 1 + j))) → (∀ j, j < k → H1[H.size + 1 + j]? = some (arrV comp n (fun _ => .int 0))) → W p l e R s m args below meth c H1 locs (cells + (1 + k)) (slots + (k + k * n)) Q (F0 m (pc + 4) ls (.ref H.size :: rest))) : W p l e R s m args below meth c H locs cells slots Q (F0 m pc ls (.int (nI n) :: .int (nI k) :: rest)) := by
  intro T hT X
  have hpl : e.platform.magicAccessors = ({} : Platform).magicAccessors := by rw [X.admits.platform]
  obtain ⟨comp, cA, kA, hcomp, -, hkA, hkindA, hnameA⟩ := arrayOverA_spec hover
  obtain ⟨cI, kI, tI, hcI, hkI, hkindI⟩ := Cond.arrayClass_spec harr
  have hcc : comp = cI := Option.some.inj (hcomp.symm.trans hcI)
  subst hcc
  obtain ⟨c3, hfc3, hcl⟩ := Cond.classLink_spec hown hclink e.platform hpl
  have hc3 : cA = c3 := Option.some.inj (hnameA.symm.trans hfc3)
  subst hc3
  obtain ⟨hg₁, hwarm₁, hready₁⟩ := State.classEntry (e := e) X.warmed hcl
  have hsz : (T.vm.noted m.cls index (.cls cA)).classes.size ≤ T.vm.classes.size := by no_record
  generalize T.vm.noted m.cls index (.cls cA) = vm₁ at hg₁ hwarm₁ hready₁ hsz
  have hal := hwarm₁.alike
  obtain ⟨kA₁, hkA₁, heA⟩ := hal.2.2 _ _ hkA
  have hkindA₁ : kA₁.kind = .array comp (.array .int) := by rw [heA]; exact hkindA
  obtain ⟨kI₁, hkI₁, heI⟩ := hal.2.2 _ _ hkI
  have hkindI₁ : kI₁.kind = .array tI .int := by rw [heI]; exact hkindI
  have X₁ := X.noted hwarm₁
  have X₂ := X₁.pushed { cls := cA, slots := Array.replicate k .null, vm := .none }
  have hX₂ : Stand p l e R s m args below meth c ((T.setVm vm₁).pushCell { cls := cA, slots := Array.replicate k .null, vm := .none }) locs (cells + 1) (slots + k) := by simpa using X₂
  have hc0 : ((T.setVm vm₁).pushCell { cls := cA, slots := Array.replicate k .null, vm := .none }).heap[T.heap.size]? = some { cls := cA, slots := Array.replicate k .null, vm := .none } := State.heap_pushCell_size (T.setVm vm₁) _
  have hsT : s.heap.size ≤ T.heap.size := by rw [hT]; exact hsH
  have X₃ := tq_fill_stand (inner := { cls := comp, slots := Array.replicate n (.int 0), vm := .none }) hsT k 0 _ _ _ _ hc0 hX₂
  obtain ⟨z1, z2⟩ := tq_fill_heap (a := T.heap.size) (inner := { cls := comp, slots := Array.replicate n (.int 0), vm := .none }) k 0 { cls := cA, slots := Array.replicate k .null, vm := .none } ((T.setVm vm₁).pushCell { cls := cA, slots := Array.replicate k .null, vm := .none }) (by rw [size_pushCell]; exact Nat.lt_succ_self _)
  have hX₃ : Stand p l e R s m args below meth c (tq_fill T.heap.size { cls := comp, slots := Array.replicate n (.int 0), vm := .none } k 0 { cls := cA, slots := Array.replicate k .null, vm := .none } ((T.setVm vm₁).pushCell { cls := cA, slots := Array.replicate k .null, vm := .none })) locs (cells + (1 + k)) (slots + (k + k * n)) := by
    have h := X₃
    rw [show ({ cls := comp, slots := Array.replicate n (.int 0), vm := .none } : Cell).slots.size = n by simp, Nat.add_assoc, Nat.add_assoc] at h
    exact h
  have hr1 := X.cellsAbove (n := 1 + k) hcells
  have hr2 := X.slotsAbove (n := k + k * n) hslots
  have hsT2 : ((T.setVm vm₁).pushCell { cls := cA, slots := Array.replicate k .null, vm := .none }).heap.size = H.size + 1 := by rw [size_pushCell, ← hT]; rfl
  have hfil := tq_fill_at (a := T.heap.size) (inner := { cls := comp, slots := Array.replicate n (.int 0), vm := .none }) (cO := cA) (N := k) k 0 (fun _ => .null) ((T.setVm vm₁).pushCell { cls := cA, slots := Array.replicate k .null, vm := .none }) (by rw [size_pushCell]; exact Nat.lt_succ_self _) (by rw [← arrV_new]; exact hc0) (by omega)
  rw [← arrV_new] at hfil
  have hfA : (tq_fill T.heap.size { cls := comp, slots := Array.replicate n (.int 0), vm := .none } k 0 { cls := cA, slots := Array.replicate k .null, vm := .none } ((T.setVm vm₁).pushCell { cls := cA, slots := Array.replicate k .null, vm := .none })).heap[T.heap.size]? = some (arrV cA k (fun j => .ref (T.heap.size + 1 + j))) := by
    rw [hfil.1]
    refine congrArg some (arrV_ext (fun j hj => ?_))
    rw [if_pos ⟨Nat.zero_le _, by omega⟩, size_pushCell]
    rfl
  have hfB : ∀ j, j < k → (tq_fill T.heap.size { cls := comp, slots := Array.replicate n (.int 0), vm := .none } k 0 { cls := cA, slots := Array.replicate k .null, vm := .none } ((T.setVm vm₁).pushCell { cls := cA, slots := Array.replicate k .null, vm := .none })).heap[T.heap.size + 1 + j]? = some (arrV comp n (fun _ => .int 0)) := by
    intro j hj
    have h := hfil.2 j hj
    rw [size_pushCell] at h
    rw [← arrV_new]
    exact h
  obtain ⟨t, a1, b1⟩ := kk _ cA comp (by rw [z1, hsT2]; omega) (fun z hz => by
      rw [z2 z (by rw [hsT2]; omega) (by rw [hT]; omega), State.heap_pushCell_of_lt _ _ (by show z < T.heap.size; rw [hT]; exact hz)]
      show T.heap[z]? = _
      rw [hT]) hnameA hcomp (by rw [← hT]; exact hfA) (fun j hj => by rw [← hT]; exact hfB j hj) _ rfl hX₃
  refine ⟨t, ?_, b1⟩
  have hkn : ¬ nI k < 0 := nI_pos (by omega)
  have hkc : (nI k).toNatClampNeg = k := nI_clamp (by omega)
  have hlim : ¬ k > e.platform.arrayLengthLimit := by rw [Launch.admits_arrayLengthLimit X.admits]; omega
  have hhp : ¬ k * componentBytes (.array .int) > e.platform.maxHeapBytes := by rw [Launch.admits_maxHeapBytes X.admits]; show ¬ k * 4 > 536870912; omega
  obtain ⟨ha, ht⟩ := hg₁.op (op := VmOp.resolveClass m.cls index) rfl
  jvm_step X.here [hexec, hb, hdg, multianewarray.sem]
  refine ⟨(T.setVm vm₁).setTop (F0 m pc ls (.int (nI n) :: .int (nI k) :: rest)), VmOp.lands_eq (s := T.setTop _) ht hsz, ?_⟩
  rw [ha]
  simp only []
  rw [W.popN 2, if_neg (by decide)]
  refine ⟨F0 m pc ls (.int (nI n) :: .int (nI k) :: rest), State.topJava?_setTop' _ X.here.top, [.int (nI k), .int (nI n)], rest, rfl, rfl, ?_⟩
  rw [State.setTop_setTop]
  simp only [List.mapM_cons, List.mapM_nil, wp_bind', wp_pure', multianewarray.make, W.ite, hkn, if_false, W.theClass, State.vm_setTop, State.vm_setVm, hkA₁, hkc]
  refine ⟨kA₁, rfl, ?_⟩
  rw [hkindA₁]
  have hk1 : (nI k == 0) = false := by
    rw [beq_eq_false_iff_ne]
    exact nI_ne0 hk0 (by omega)
  simp only [wp_bind', hk1, Bool.false_eq_true, if_false]
  refine tq_newArray (s := (T.setVm vm₁).setTop _) (k := kA₁) (comp := comp) (ty := .array .int) hkA₁ hkindA₁ hlim hhp (by show T.heap.size < _; omega) (by show T.slotsUsed + k ≤ _; omega) rfl (fun acts' => ?_)
  simp only [Std.Legacy.Range.forIn_eq_forIn_range', Std.Legacy.Range.size, Nat.sub_zero, Nat.add_sub_cancel, Nat.div_one]
  rw [wp_bind', State.pushCell_setTop, show ((T.setVm vm₁).setTop (F0 m pc ls rest)).heap.size = T.heap.size from congrArg Array.size (State.heap_setTop _ _)]
  refine tq_fill_wp (p := p) (l := l) (R := R) (s := s) (m := m) (args := args) (below := below) (meth := meth) (c := c) (locs := locs) (a := T.heap.size) (n := n) (comp := comp) (cO := cA) (kO := kA₁) (kI := kI₁) (tI := tI) hsT (by omega) ?hbody (by omega) k 0 { cls := cA, slots := Array.replicate k .null, vm := .none } ((T.setVm vm₁).pushCell { cls := cA, slots := Array.replicate k .null, vm := .none }) (cells + 1) (slots + k) _ _ _ _ hc0 rfl rfl hkA₁ hkindA₁ hkI₁ hkindI₁ (by simp) hX₂ (by omega) (by omega) (fun d' acts'' => ?_)
  · intro i u
    simp only [multianewarray.make, Std.Legacy.Range.forIn_eq_forIn_range', Std.Legacy.Range.size, Nat.sub_zero, Nat.add_sub_cancel, Nat.div_one]
    rfl
  · simp only [wp_bind', wp_pure', W.mark, W.pushRef]
    refine ⟨_, State.topJava?_setTop' _ hX₃.here.top, fun acts => ?_⟩
    rw [State.setTop_setTop]
    have a2 := a1
    rw [← hT] at a2
    rw [afterInstr_ok]
    exact a2
variable {D : va_G} {τ : ClassId × ClassId × ClassId} {B : Nat} {A : Nat → Prop} {ws : va_W}
/-- eight rows of ints in one instruction -/
theorem wmulti8 (hexec : p.tables.exec = Jvm.exec) (hb : c.code = cc) {own : String} {index : Nat} (hown : s.vm.findClass own = some m.cls) (hclink : (Cond.classLink own index "[[I").before args s = true) (harr : (Cond.arrayClass .int).before args s = true) (hC : wC D τ B A s) (hP : va_P D classes ws H) (hD : va_D A ws) (hS : va_S A s.heap H locs)
    {n : Nat} {x y : Int32} (ex : x = nI n) (ey : y = nI 8) (hn : n ≤ 65536) (hdg : decode cc pc = .ok (.multianewarray index 2, 4)) (hcells : cells + (1 + 8) ≤ R.cells) (hslots : slots + (8 + 8 * n) ≤ R.slots)
    (kk : ∀ (q : Nat) (H1 : Heap), va_P D classes (ws ++ [(q, .inl (τ.2.2, 8, .inr (.inr (.inr (.inr (fun j => some (q + 1 + j))))))), (q + 1, .inl (τ.1, n, .inl (fun _ => 0))), (q + 2, .inl (τ.1, n, .inl (fun _ => 0))), (q + 3, .inl (τ.1, n, .inl (fun _ => 0))), (q + 4, .inl (τ.1, n, .inl (fun _ => 0))), (q + 5, .inl (τ.1, n, .inl (fun _ => 0))), (q + 6, .inl (τ.1, n, .inl (fun _ => 0))), (q + 7, .inl (τ.1, n, .inl (fun _ => 0))), (q + 8, .inl (τ.1, n, .inl (fun _ => 0)))]) H1 →
      va_D A (ws ++ [(q, .inl (τ.2.2, 8, .inr (.inr (.inr (.inr (fun j => some (q + 1 + j))))))), (q + 1, .inl (τ.1, n, .inl (fun _ => 0))), (q + 2, .inl (τ.1, n, .inl (fun _ => 0))), (q + 3, .inl (τ.1, n, .inl (fun _ => 0))), (q + 4, .inl (τ.1, n, .inl (fun _ => 0))), (q + 5, .inl (τ.1, n, .inl (fun _ => 0))), (q + 6, .inl (τ.1, n, .inl (fun _ => 0))), (q + 7, .inl (τ.1, n, .inl (fun _ => 0))), (q + 8, .inl (τ.1, n, .inl (fun _ => 0)))]) → va_S A s.heap H1 locs →
      W p l e R s m args below meth c H1 locs (cells + (1 + 8)) (slots + (8 + 8 * n)) Q (F0 m (pc + 4) ls (.ref q :: rest))) : W p l e R s m args below meth c H locs cells slots Q (F0 m pc ls (.int x :: .int y :: rest)) := by
  subst ex; subst ey
  refine tq_multi2 hexec hb hown hclink hC.2.1.2 harr (by omega) hn (by omega) hdg hcells hslots hS.1 (fun H1 cA comp z1 z2 fA fI hA hI => ?_)
  have eA : cA = τ.2.2 := Option.some.inj (fA.symm.trans (hC.1.2 2 _ rfl).2)
  have eI : comp = τ.1 := Option.some.inj (fI.symm.trans (hC.1.2 0 _ rfl).2)
  subst eA
  subst eI
  have old : va_P D classes ws H1 := hP.kept (fun k x hx => z2 x.1 ((hP k x hx).lt))
  refine kk H.size H1 (old.app ?_) ?_ ⟨Nat.le_trans hS.1 (by omega), fun x h1 h2 => (z2 x (Nat.lt_of_lt_of_le h1 hS.1)).trans (hS.2.1 x h1 h2), hS.2.2⟩
  · intro k q hq
    rcases k with _ | _ | _ | _ | _ | _ | _ | _ | _ | k
    · cases hq; exact hA
    · cases hq; exact hI 0 (by omega)
    · cases hq; exact hI 1 (by omega)
    · cases hq; exact hI 2 (by omega)
    · cases hq; exact hI 3 (by omega)
    · cases hq; exact hI 4 (by omega)
    · cases hq; exact hI 5 (by omega)
    · cases hq; exact hI 6 (by omega)
    · cases hq; exact hI 7 (by omega)
    · simp at hq
  · have lo : ∀ (k : Nat) (q : Nat × va_E), ws[k]? = some q → q.1 < H.size := fun k q hq => (hP k q hq).lt
    have hi : ∀ (k : Nat) (q : Nat × va_E), ([(H.size, .inl (τ.2.2, 8, .inr (.inr (.inr (.inr (fun j => some (H.size + 1 + j))))))), (H.size + 1, .inl (τ.1, n, .inl (fun _ => 0))), (H.size + 2, .inl (τ.1, n, .inl (fun _ => 0))), (H.size + 3, .inl (τ.1, n, .inl (fun _ => 0))), (H.size + 4, .inl (τ.1, n, .inl (fun _ => 0))), (H.size + 5, .inl (τ.1, n, .inl (fun _ => 0))), (H.size + 6, .inl (τ.1, n, .inl (fun _ => 0))), (H.size + 7, .inl (τ.1, n, .inl (fun _ => 0))), (H.size + 8, .inl (τ.1, n, .inl (fun _ => 0)))] : va_W)[k]? = some q → q.1 = H.size + k := by
      intro k q hq
      rcases k with _ | _ | _ | _ | _ | _ | _ | _ | _ | k
      all_goals first | (cases hq; rfl) | (simp at hq)
    refine ⟨fun i j p q hp hq e => ?_, fun k q hq => ?_⟩
    · by_cases ci : i < ws.length
      · rw [List.getElem?_append_left ci] at hp
        have h1 := lo i p hp
        by_cases cj : j < ws.length
        · rw [List.getElem?_append_left cj] at hq
          exact hD.1 i j p q hp hq e
        · rw [List.getElem?_append_right (by omega)] at hq
          have h2 := hi _ q hq
          omega
      · rw [List.getElem?_append_right (by omega)] at hp
        have h1 := hi _ p hp
        by_cases cj : j < ws.length
        · rw [List.getElem?_append_left cj] at hq
          have h2 := lo j q hq
          omega
        · rw [List.getElem?_append_right (by omega)] at hq
          have h2 := hi _ q hq
          omega
    · by_cases ck_ : k < ws.length
      · rw [List.getElem?_append_left ck_] at hq
        exact hD.2 k q hq
      · rw [List.getElem?_append_right (by omega)] at hq
        have h2 := hi _ q hq
        exact hC.2.2.2.1 _ (by rw [h2]; exact Nat.le_trans hS.1 (Nat.le_add_right _ _))
end TQM2
