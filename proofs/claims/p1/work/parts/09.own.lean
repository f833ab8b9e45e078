def ow : List Cond := [.initialized "java/lang/Throwable", .laysStatic "java/lang/Throwable" "UNASSIGNED_STACK" "[Ljava/lang/StackTraceElement;", .laysStatic "java/lang/Throwable" "SUPPRESSED_SENTINEL" "Ljava/util/List;", .isRef (.static "java/lang/Throwable" "UNASSIGNED_STACK" "[Ljava/lang/StackTraceElement;"), .isRef (.static "java/lang/Throwable" "SUPPRESSED_SENTINEL" "Ljava/util/List;")]
def exn : List String := ["java/lang/RuntimeException", "java/lang/Exception"]
theorem own_IA : ∀ a ∈ Bundle.ownAtoms "DrawingMachine" 78 "java/lang/IllegalArgumentException" exn, a ∈ tw ∨ a ∈ nw ∨ a ∈ ow := by decide +kernel
theorem own_IO : ∀ a ∈ Bundle.ownAtoms "DrawingMachine" 89 "java/lang/IndexOutOfBoundsException" exn, a ∈ tw ∨ a ∈ nw ∨ a ∈ ow := by decide +kernel
theorem own_use {D : va_G} {cI cL : ClassId} {B : Nat} {A : Nat → Prop} {s : State} {args : Array Value} (htw : ∀ w ∈ tw, w.before args s = true) (hC : wC D cI cL B A s) {l : List Cond} (h : ∀ a ∈ l, a ∈ tw ∨ a ∈ nw ∨ a ∈ ow) : ∀ a ∈ l, a.before args s = true := by
  intro a ha
  rcases h a ha with h1 | h1 | h1
  · exact htw a h1
  · exact va_Nw.use (nw_on a h1) (hC.2.1.1 a h1)
  · simp only [ow, List.mem_cons, List.not_mem_nil, or_false] at h1
    rcases h1 with rfl | rfl | rfl | rfl | rfl
    · exact va_tabs rfl rfl hC.2.2.1.2.2.2.2.2
    · exact (wLs_use hC.2.2.1.1).1
    · exact (wLs_use hC.2.2.1.2.1).1
    · exact (wLs_use hC.2.2.1.1).2
    · exact (wLs_use hC.2.2.1.2.1).2
section TQH
variable {p : Program} {l : Launch} {e : Env} {R : Room} {s : State} {m : MethodId} {args : Array Value} {below : List Frame} {meth : Method} {c : Code} {H : Heap} {locs : List Loc}
theorem tq_throwH {cc : ByteArray} (hexec : p.tables.exec = Jvm.exec) (hb : c.code = cc) (htr : e.platform.stackTraces = false) {own cls tx : String} {names : List String} {ia ib ic pc : Nat} {ls : Array Slot}
    (hown : s.vm.findClass own = some m.cls) (hcls : Bundle.fit cls = true) (hnames : ∀ n ∈ names, Bundle.fit n = true) (h : ∀ a ∈ Bundle.ownAtoms own ic cls names, a.before args s = true)
    (hcl : (Cond.classLink own ia cls).before args s = true) (hini : (Cond.initialized cls).before args s = true) (hZ : ∃ q : Nat, vk_R own ib tx q s) (hml : c.maxLocals = ls.size) (hout : c.exceptionTable.isEmpty = true) (hlocks : meth.locks = false)
    (hd0 : decode cc pc = .ok (.new ia, 3)) (hd3 : decode cc (pc + 3) = .ok (.dup, 1)) (hd4 : decode cc (pc + 3 + 1) = .ok (.ldc ib, 2)) (hd6 : decode cc (pc + 3 + 1 + 2) = .ok (.invokespecial ic, 3)) (hd9 : decode cc (pc + 3 + 1 + 2 + 3) = .ok (.athrow, 1))
    (hRf : names.length + 3 < R.frames) (hRl : 1 + (13 * (names.length + 1) + 42) ≤ R.locals) (hRc : 0 + 1 ≤ R.cells) (hRs : 0 + 6 ≤ R.slots) (hsz : s.heap.size ≤ H.size) (hf : ∀ q ∈ locs, s.heap.size ≤ q.base) :
    W p l e R s m args below meth c H locs 0 0 (tq_MQ below (tq_Q cls) args s 1 6) (F0 m pc ls []) := by
  obtain ⟨q, hZ⟩ := hZ
  refine va_forget hf ?_
  have hins : (Cond.instantiable cls 6).before args s = true := h _ (by simp [Bundle.ownAtoms])
  refine W.newc hexec hb hown hcl hins hini rfl hd0 hRc hRs fun cC kC h1 h2 h3 h4 => ?_
  refine lv_dup hexec hb hd3 rfl ?_
  refine va_ldcS hexec hb hown hZ hd4 ?_
  intro T hT X
  have hcell : T.heap[H.size]? = some (freshCell cC kC) := by rw [hT]; simp [freshCell]
  obtain ⟨U, st, hrun, hend, hWm, hsame, ce, hce, hO⟩ := X.ctorThrowS hexec htr hown hcls hnames h (fun _ hx => by cases hx) h1 h2 hcell hsz (msg := .ref q) rfl (g := F0 m (pc + 3 + 1 + 2) ls [.ref q, .ref H.size, .ref H.size]) rfl hml.symm rfl rfl (rest := []) rfl (by rw [hb]; exact hd6) (by rw [hb]; exact hd9)
    (fun x hx => by rw [show c.exceptionTable.toList = [] from List.eq_nil_of_length_eq_zero (by simpa [Array.isEmpty] using hout)] at hx; cases hx) hRf (by simp [JFrame.monitorRoom, Value.category]; omega) hlocks
  refine ⟨U, st, H.size, hrun, hend, ⟨hsz, ⟨ce, hce, hO.cls, hO.vm⟩, fun z hz => ?_⟩, hWm, hsame⟩
  obtain ⟨cz, hcz⟩ : ∃ cz, s.heap[z]? = some cz := ⟨_, Array.getElem?_eq_getElem hz⟩
  rw [hcz]
  exact hsame.old_cell hcz
end TQH
