/-! a method's world: its cells, and what nobody writes (statics, texts), which lies below B -/
abbrev TY (τ : ClassId × ClassId × ClassId) : List (ClassId × FieldType) := [(τ.1, .int), (τ.2.1, .long), (τ.2.2, .array .int)]
def tbs : List (String × List Int32) := [("ARGUMENTS", [0, 4, 6, 4, 5, 5, 3, 2, 2, 6, 2, 8, 6, 1, 1, 1, 2, 3, 5, 2, 6, 2, 0, 1, 4, 5]), ("BOUNDS_AT", [0, 0, 4, 10, 14, 19, 24, 27, 29, 31, 37, 39, 47, 53, 54, 55, 56, 58, 61, 66, 68, 74, 76, 76, 77, 81]), ("CHANNEL_BITS", [8, 8, 8, 8, 5, 6, 5, 0, 4, 4, 4, 4, 5, 5, 5, 1, 8, 8, 8, 0, 0, 0, 0, 8, 8, 8, 8, 8, 4, 4, 4, 0]), ("CHANNEL_SHIFT", [0, 8, 16, 24, 0, 5, 11, 0, 0, 4, 8, 12, 0, 5, 10, 15, 0, 0, 0, 0, 0, 0, 0, 0, 0, 0, 0, 8, 0, 0, 0, 0]), ("FILE_AT", [0, 64, 96, 224]), ("KEPT_AT", [(-1), (-1), 0, 6, 10, 42, (-1), (-1), (-1), 170, 190, 192, 206, 212, 213, 214, 215, (-1), (-1), (-1), (-1), (-1), (-1), (-1), 217, 229]), ("KEPT_BY_FIRST", [0, 0, 0, 0, 1, 1, 0, 0, 0, 1, 0, 1, 0, 0, 0, 0, 0, 0, 0, 0, 0, 0, 0, 0, 1, 1]), ("LEAST", [0, (-2147483648), 0, 0, (-1023), (-1023), 1, 1, 0, 0, (-2147483648), (-2147483648), (-2147483648), (-2147483648), 0, 0, 0, 0, 0, 0, (-2147483648), (-2147483648), (-2147483648), (-2147483648), 0, 0, 0, 0, 1, 0, 1, 0, 0, 0, 0, 1, 0, (-1), 0, 0, (-1), 0, 0, 0, 0, 0, 0, 0, 0, 0, 0, (-1), 0, (-2147483648), (-1), 0, 0, 0, 0, 0, 0, 0, 0, 0, 0, (-2147483648), 0, 0, 0, 0, 1, 1, 0, 0, 0, 0, 0, 0, 0, 0, 0, 0, (-2147483648), (-2147483648), (-2147483648), (-2147483648)]), ("MOST", [7, 2147483647, 16777215, 255, 1023, 1023, 1024, 1024, 16777215, 16777215, 2147483647, 2147483647, 2147483647, 2147483647, 7, 1048576, 1024, 4, 3, 31, 2147483647, 2147483647, 2147483647, 2147483647, 31, 32, 1048576, 1048576, 256, 1048576, 256, 3, 1048576, 10, 10, 11, 7, 7, 1, 1, 7, 255, 255, 255, 7, 7, 7, 14, 14, 14, 14, 4, 4, 2147483647, 15, 15, 3, 1, 2, 1048576, 4096, 2, 1048576, 4096, 2, 2147483647, 7, 1, 127, 127, 128, 128, 1048576, 2, 1048576, 256, 1048576, 3, 3, 3, 3, 3, 2147483647, 2147483647, 2147483647, 2147483647]), ("SOURCES", [0, 1, 2, 2, 2, 3, 2, 2, 2, 2, 1, 1, 1, 1, 1, 1, 2, 2, 2, 2, 3, 3, 2, 2, 2, 2, 1, 2, 2, 2, 1, 1, 1, 1, 0, 0, 1, 0, 1, 1, 1]), ("TEXEL_BITS", [32, 16, 16, 16, 8, 8, 16, 4])]
def tx_strs : List (Nat × String) := [(76, "no such frame"), (87, "no such word"), (96, "the stream is full"), (106, "the stream has not so many words"), (117, "below 0"), (125, "the run is over"), (167, "nothing is told about that"), (169, "a place has no such thing"), (177, "no such place"), (183, "places have no such thing"), (185, "no such query"), (190, "that is not counted")]
def ncs : List (String × String) := [("java/lang/IndexOutOfBoundsException", "java/lang/IllegalArgumentException"), ("java/lang/IllegalStateException", "java/lang/IllegalArgumentException")]
/-- a static field that holds a reference or null, in its cell below B -/
def wLs (owner name desc : String) (B : Nat) (U : State) (H : Heap) : Prop := ∃ (c : ClassId) (k : Class) (i : Nat) (f : Field) (a : Nat) (cell : Cell) (v : Value), U.vm.findClass owner = some c ∧ U.fieldFound? owner name desc = some (c, k, i, f) ∧ f.isStatic = true ∧ k.statics = some a ∧ H[a]? = some cell ∧ cell.vm.isStatics = true ∧ cell.cls = c ∧
      f.slot < cell.slots.size ∧ k.staticTypes[f.slot]? = some f.type ∧ cell.slots[f.slot]? = some v ∧ v.isRef = true ∧ ¬ B ≤ a
theorem wLs_moved {o n d : String} {B : Nat} {u U : State} {H : Heap} (hvm : u.vm.Alike U.vm) (h : wLs o n d B u H) : wLs o n d B U H := by
  obtain ⟨c, k, i, f, a, cell, v, h1, h2, h3, h4, h5, h6, h7, h8, h9, h10⟩ := h
  obtain ⟨k', hi', he⟩ := State.fieldFound?_setVm hvm h2
  exact ⟨c, k', i, f, a, cell, v, by rw [hvm.findClass]; exact h1, hi', h3, by rw [he]; exact h4, h5, h6, h7, h8, by rw [he]; exact h9, h10⟩
theorem wLs_kept {o n d : String} {B : Nat} {U : State} {H H1 : Heap} (h : wLs o n d B U H) (hq : ∀ a : Nat, a < H.size → ¬ B ≤ a → H1[a]? = H[a]?) : wLs o n d B U H1 := by
  obtain ⟨c, k, i, f, a, cell, v, h1, h2, h3, h4, h5, h6, h7, h8, h9, h10, h11, h12⟩ := h
  exact ⟨c, k, i, f, a, cell, v, h1, h2, h3, h4, by rw [hq a (Array.getElem?_eq_some_iff.mp h5).1 h12]; exact h5, h6, h7, h8, h9, h10, h11, h12⟩
theorem wLs_use {o n d : String} {B : Nat} {U : State} {args : Array Value} (h : wLs o n d B U U.heap) : (Cond.laysStatic o n d).before args U = true ∧ (Cond.isRef (.static o n d)).before args U = true := by
  obtain ⟨c, k, i, f, a, cell, v, h1, h2, h3, h4, h5, h6, h7, h8, h9, h10, h11, -⟩ := h
  constructor
  · simp [Cond.before, Cond.holds, Cond.value, h1, h2, h3, h4, h5, h6, h7, h8, h9]
  · simp [Cond.before, Cond.holds, Cond.value, Term.eval, State.fieldNamed?, h2, h3, h4, h5, h6, h10]
    cases v <;> simp_all [Value.isRef]
theorem wLs_of {o n d : String} {B : Nat} {s : State} {args : Array Value} (hl : (Cond.laysStatic o n d).before args s = true) (h : (Cond.isRef (.static o n d)).before args s = true) (hB : B = s.heap.size) : wLs o n d B s s.heap := by
  obtain ⟨c, k, i, f, a, cell, hc, hi, hst, ha, hcell, hs, hcls, hlt, hty⟩ := Cond.laysStatic_spec hl
  have hv : ∃ v, cell.slots[f.slot]? = some v ∧ v.isRef = true := by
    refine ⟨cell.slots[f.slot], Array.getElem?_eq_getElem hlt, ?_⟩
    have h2 := h
    simp [Cond.before, Cond.holds, Cond.value, Term.eval, State.fieldNamed?, hi, hst, ha, hcell, hs, hlt] at h2
    exact h2
  obtain ⟨v, hv1, hv2⟩ := hv
  exact ⟨c, k, i, f, a, cell, v, hc, hi, hst, ha, hcell, hs, hcls, hlt, hty, hv1, hv2, by rw [hB]; exact Nat.not_le.mpr (Array.getElem?_eq_some_iff.mp hcell).1⟩
def wX (B : Nat) (U : State) (H : Heap) : Prop :=
  wLs "java/lang/Throwable" "UNASSIGNED_STACK" "[Ljava/lang/StackTraceElement;" B U H ∧ wLs "java/lang/Throwable" "SUPPRESSED_SENTINEL" "Ljava/util/List;" B U H ∧
  (∀ x ∈ tbs, ∃ a : Nat, va_Z "DrawingMachine" x.1 "[I" (.ref a) (fun q => B ≤ q) U H ∧ va_T .int a x.2.length (fun j => .int (x.2.getD j 0)) (fun q => B ≤ q) U H) ∧
  (∀ x ∈ tx_strs, ∃ q : Nat, vk_R "DrawingMachine" x.1 x.2 q U) ∧ (∀ x ∈ ncs, va_Nc x.1 x.2 U) ∧ (Cond.initialized "java/lang/Throwable").before #[] U = true
theorem wX_warm {B : Nat} {s U : State} {H : Heap} (hW : s.WarmedH U.vm) (h : wX B s H) : wX B U H := by
  obtain ⟨h1, h2, h3, h6, h7, h8⟩ := h
  refine ⟨wLs_moved hW.alike h1, wLs_moved hW.alike h2, fun x hx => ?_, fun x hx => ?_, fun x hx => (h7 x hx).moved hW.alike, word_at hW (Or.inl rfl) h8⟩
  · obtain ⟨a, h3, h4⟩ := h3 x hx
    exact ⟨a, h3.moved hW.alike, h4.moved hW.alike⟩
  · obtain ⟨q, hq⟩ := h6 x hx
    exact ⟨q, hq.warm hW⟩
theorem wX_same {B : Nat} {u U : State} {H : Heap} (hv : u.vm = U.vm) (h : wX B u H) : wX B U H := by
  have hal : u.vm.Alike U.vm := by rw [hv]; exact Vm.Alike.refl _
  obtain ⟨h1, h2, h3, h6, h7, h8⟩ := h
  refine ⟨wLs_moved hal h1, wLs_moved hal h2, fun x hx => ?_, fun x hx => ?_, fun x hx => (h7 x hx).moved hal, va_tabs rfl hv h8⟩
  · obtain ⟨a, h3, h4⟩ := h3 x hx
    exact ⟨a, h3.moved hal, h4.moved hal⟩
  · obtain ⟨q, hq⟩ := h6 x hx
    exact ⟨q, hq.same hv.symm⟩
theorem wX_kept {B : Nat} {U : State} {H H1 : Heap} (h : wX B U H) (hq : ∀ a : Nat, a < H.size → ¬ B ≤ a → H1[a]? = H[a]?) : wX B U H1 := by
  obtain ⟨h1, h2, h3, h6, h7, h8⟩ := h
  refine ⟨wLs_kept h1 hq, wLs_kept h2 hq, fun x hx => ?_, h6, h7, h8⟩
  obtain ⟨a, h3, h4⟩ := h3 x hx
  exact ⟨a, h3.kept hq, h4.kept hq⟩
/-- a method's start -/
def wP (D : va_G) (τ : ClassId × ClassId × ClassId) (B sz : Nat) (ws : va_W) (U : State) : Prop :=
  U.heap.size = sz ∧ va_P D classes ws U.heap ∧ va_K D classes (TY τ) U ∧ va_D (fun q => B ≤ q) ws ∧ B ≤ sz ∧ wN U ∧ wX B U U.heap
/-- its end -/
def wB (D : va_G) (τ : ClassId × ClassId × ClassId) (A : Nat → Prop) (ws : va_W) (t : State) : Prop := va_P D classes ws t.heap ∧ va_K D classes (TY τ) t ∧ va_D A ws
theorem wP_blind {av : List Value} {D : va_G} {τ : ClassId × ClassId × ClassId} {B sz : Nat} {ws : va_W} : FrameBlind (va_Pc av (wP D τ B sz ws)) := by
  intro a U g mk q
  obtain ⟨q0, q1, qP, qK, qD, qB, qN, qX⟩ := q
  exact ⟨q0, q1, qP, va_K.moved (u := U) (U := U.calling g mk a) (Vm.Alike.refl U.vm) qK, qD, qB, wN_same (u := U) (U := U.calling g mk a) rfl qN, wX_same (u := U) (U := U.calling g mk a) rfl qX⟩
/-- what stands at every point of a walk: the tables, and what is below B -/
def wC (D : va_G) (τ : ClassId × ClassId × ClassId) (B : Nat) (A : Nat → Prop) (s : State) : Prop := va_K D classes (TY τ) s ∧ wN s ∧ wX B s s.heap ∧ (∀ q : Nat, s.heap.size ≤ q → A q) ∧ (∀ q : Nat, A q → B ≤ q) ∧ B ≤ s.heap.size
theorem wC_pre {D : va_G} {τ : ClassId × ClassId × ClassId} {B : Nat} {A : Nat → Prop} {s : State} {ws wc : va_W} {H : Heap} {locs : List Loc} {As : List Value} (hC : wC D τ B A s) (hP : va_P D classes ws H) (hD : va_D A ws) (hS : va_S A s.heap H locs) (isC : List Nat) (hnd : va_nd isC = true) (hc : isC.map (fun i => ws[i]?) = wc.map some) :
    PreS s H (va_Pc As (wP D τ B H.size wc)) As := by
  obtain ⟨hK, hN, hX, hA, hAB, hB⟩ := hC
  refine ⟨wP_blind, fun U hU hW => ⟨rfl, by rw [hU], ?_, hK.moved hW.alike, (hD.sub isC hnd hc).weaken (fun _ _ _ h => hAB _ h), Nat.le_trans hB hS.1, wN_warm hW hN, ?_⟩⟩
  · rw [hU]
    intro k q hq
    have h1 : (isC.map (fun i => ws[i]?))[k]? = some (some q) := by rw [hc, List.getElem?_map, hq]; rfl
    rw [List.getElem?_map] at h1
    cases hi : isC[k]? with
    | none => rw [hi] at h1; cases h1
    | some i => rw [hi] at h1; exact hP i q (Option.some.inj h1)
  · rw [hU]
    exact wX_warm hW (wX_kept hX (fun a h1 h2 => hS.2.1 a h1 (fun h => h2 (hAB a h))))
theorem wC_preV {D : va_G} {τ : ClassId × ClassId × ClassId} {B : Nat} {A : Nat → Prop} {s : State} {ws wc : va_W} {H : Heap} {locs : List Loc} {As : List Value} {b q0 ci : Nat} {fs : List Value} {r : vw_C} (hC : wC D τ B A s) (hP : va_P D classes ws H) (hD : va_D A ws) (hS : va_S A s.heap H locs) (isC : List Nat) (hnd : va_nd isC = true) (hc : isC.map (fun i => ws[i]?) = wc.map some)
    (he : ws[q0]? = some (b, .inr (ci, fs))) (hcl : classes[ci]? = some r) : PreV s H r.1 b (va_Pc (.ref b :: As) (wP D τ B H.size wc)) As :=
  ⟨(wC_pre (As := .ref b :: As) hC hP hD hS isC hnd hc).1, va_recv hC.1 hP hcl he, (wC_pre (As := .ref b :: As) hC hP hD hS isC hnd hc).2⟩
theorem wC_init {D : va_G} {τ : ClassId × ClassId × ClassId} {B sz : Nat} {ws : va_W} {s : State} (h : wP D τ B sz ws s) : wC D τ B (va_A ws s.heap.size) s ∧ va_P D classes ws s.heap ∧ va_D (va_A ws s.heap.size) ws ∧ s.heap.size = sz := by
  obtain ⟨h1, h2, h3, h4, h5, h6, h7⟩ := h
  refine ⟨⟨h3, h6, h7, fun q hq => Or.inr hq, fun q hq => ?_, by rw [h1]; exact h5⟩, h2, h4.self, h1⟩
  rcases hq with ⟨k, e, hk⟩ | hq
  · exact h4.2 k _ hk
  · exact Nat.le_trans (by rw [h1]; exact h5) hq
section WC
variable {p : Program} {l : Launch} {e : Env} {R : Room} {s : State} {m : MethodId} {args : Array Value} {below : List Frame} {meth : Method} {c : Code} {H : Heap} {locs : List Loc} {cells slots : Nat} {Q : State → Prop}
variable {cc : ByteArray} {pc : Nat} {ls : Array Slot} {rest st0 : List Value} {a : Array Value} {D : va_G} {τ : ClassId × ClassId × ClassId} {B mc ms : Nat} {A : Nat → Prop} {ws wc wr : va_W}
theorem wc_i {S : Type} {post : Int32 → S → Prop} {w1 : S → va_W} (hC : wC D τ B A s) (hP : va_P D classes ws H) (hD : va_D A ws) (hS : va_S A s.heap H locs) (isC isR : List Nat) (hc : isC.map (fun i => ws[i]?) = wc.map some) (hR : isR.map (fun i => ws[i]?) = wr.map some) (hn : va_nd isR = true) (hdis : ∀ i ∈ isR, i ∉ isC)
    (hr : va_Run p l e R s m args below meth c H locs cells slots mc ms (F0 m pc ls st0) rest (va_Qi post (fun u => wB D τ (va_A wc H.size) (w1 u)) (va_A wc H.size) a) (va_A wc H.size))
    (kk : ∀ (r : Int32) (u : S) (H1 : Heap) (locs1 : List Loc), post r u → va_P D classes (wr ++ w1 u) H1 → va_D A (wr ++ w1 u) → va_S A s.heap H1 locs1 → W p l e R s m args below meth c H1 locs1 (cells + mc) (slots + ms) Q (F0 m (pc + 3) ls (.int r :: rest))) : W p l e R s m args below meth c H locs cells slots Q (F0 m pc ls st0) := by
  have hFc := va_free (wc := wc) hD hS hC.2.2.2.1 isC hc
  refine va_calli hr hS (fun q _ h => hFc q h) hFc (fun r u t H1 locs1 ht hvm hw hB hz1 hk1 hS1 => ?_)
  obtain ⟨hP1, hK1, hD1⟩ := hB
  rw [ht] at hP1
  obtain ⟨hP2, hD2⟩ := va_join (wr := wr) (w1 := w1 u) hP hD isC isR hc hR hn hdis hk1 hFc hP1 hD1
  exact kk r u H1 locs1 hw hP2 hD2 hS1
theorem wc_v {S : Type} {post : S → Prop} {w1 : S → va_W} (hC : wC D τ B A s) (hP : va_P D classes ws H) (hD : va_D A ws) (hS : va_S A s.heap H locs) (isC isR : List Nat) (hc : isC.map (fun i => ws[i]?) = wc.map some) (hR : isR.map (fun i => ws[i]?) = wr.map some) (hn : va_nd isR = true) (hdis : ∀ i ∈ isR, i ∉ isC)
    (hr : va_Run p l e R s m args below meth c H locs cells slots mc ms (F0 m pc ls st0) rest (va_Qv post (fun u => wB D τ (va_A wc H.size) (w1 u)) (va_A wc H.size) a) (va_A wc H.size))
    (kk : ∀ (u : S) (H1 : Heap) (locs1 : List Loc), post u → va_P D classes (wr ++ w1 u) H1 → va_D A (wr ++ w1 u) → va_S A s.heap H1 locs1 → W p l e R s m args below meth c H1 locs1 (cells + mc) (slots + ms) Q (F0 m (pc + 3) ls rest)) : W p l e R s m args below meth c H locs cells slots Q (F0 m pc ls st0) := by
  have hFc := va_free (wc := wc) hD hS hC.2.2.2.1 isC hc
  refine va_callv hr hS (fun q _ h => hFc q h) hFc (fun u t H1 locs1 ht hvm hw hB hz1 hk1 hS1 => ?_)
  obtain ⟨hP1, hK1, hD1⟩ := hB
  rw [ht] at hP1
  obtain ⟨hP2, hD2⟩ := va_join (wr := wr) (w1 := w1 u) hP hD isC isR hc hR hn hdis hk1 hFc hP1 hD1
  exact kk u H1 locs1 hw hP2 hD2 hS1
theorem wc_r {S : Type} {post : S → Prop} {w1 : S → va_W} {ra : S → Nat} (hC : wC D τ B A s) (hP : va_P D classes ws H) (hD : va_D A ws) (hS : va_S A s.heap H locs) (isC isR : List Nat) (hc : isC.map (fun i => ws[i]?) = wc.map some) (hR : isR.map (fun i => ws[i]?) = wr.map some) (hn : va_nd isR = true) (hdis : ∀ i ∈ isR, i ∉ isC)
    (hr : va_Run p l e R s m args below meth c H locs cells slots mc ms (F0 m pc ls st0) rest (va_Qr post (fun u q t => q = ra u ∧ wB D τ (va_A wc H.size) (w1 u) t) (va_A wc H.size) a) (va_A wc H.size))
    (kk : ∀ (u : S) (H1 : Heap) (locs1 : List Loc), post u → va_P D classes (wr ++ w1 u) H1 → va_D A (wr ++ w1 u) → va_S A s.heap H1 locs1 → W p l e R s m args below meth c H1 locs1 (cells + mc) (slots + ms) Q (F0 m (pc + 3) ls (.ref (ra u) :: rest))) : W p l e R s m args below meth c H locs cells slots Q (F0 m pc ls st0) := by
  have hFc := va_free (wc := wc) hD hS hC.2.2.2.1 isC hc
  refine va_callr hr hS (fun q _ h => hFc q h) hFc (fun u q t H1 locs1 ht hvm hw hB hz1 hk1 hS1 => ?_)
  obtain ⟨hq, hP1, hK1, hD1⟩ := hB
  subst hq
  rw [ht] at hP1
  obtain ⟨hP2, hD2⟩ := va_join (wr := wr) (w1 := w1 u) hP hD isC isR hc hR hn hdis hk1 hFc hP1 hD1
  exact kk u H1 locs1 hw hP2 hD2 hS1
theorem wi_c {x v : Int32} (h : x = v) (k : W p l e R s m args below meth c H locs cells slots Q (F0 m pc ls (.int v :: rest))) : W p l e R s m args below meth c H locs cells slots Q (F0 m pc ls (.int x :: rest)) := by subst h; exact k
theorem wl_c {x v : Int64} (h : x = v) (k : W p l e R s m args below meth c H locs cells slots Q (F0 m pc ls (.long v :: rest))) : W p l e R s m args below meth c H locs cells slots Q (F0 m pc ls (.long x :: rest)) := by subst h; exact k
theorem wna_i (hexec : p.tables.exec = Jvm.exec) (hb : c.code = cc) (harr : (Cond.arrayClass .int).before args s = true) (hC : wC D τ B A s) (hP : va_P D classes ws H) (hD : va_D A ws) (hS : va_S A s.heap H locs)
    {n : Int32} {N : Nat} (hn : n = nI N) (hN : N ≤ 100000) (hcells : cells + 1 ≤ R.cells) (hslots : slots + N ≤ R.slots) (hdg : decode cc pc = .ok (.newarray .int, 2))
    (kk : ∀ (q : Nat) (H1 : Heap), va_P D classes (ws ++ [(q, .inl (τ.1, N, .inl (fun _ => 0)))]) H1 → va_D A (ws ++ [(q, .inl (τ.1, N, .inl (fun _ => 0)))]) → va_S A s.heap H1 locs →
      W p l e R s m args below meth c H1 locs (cells + 1) (slots + N) Q (F0 m (pc + 2) ls (.ref q :: rest))) : W p l e R s m args below meth c H locs cells slots Q (F0 m pc ls (.int n :: rest)) := by
  subst hn
  refine va_newa (atype := .int) (ty := .int) hexec hb harr rfl hC.1 hP hD hS hC.2.2.2.1 (N' := N) (a0 := (N, .inl (fun _ => 0))) (fun _ => rfl) (nI_pos (by omega)) (nI_clamp (by omega)) (by show N * 4 ≤ _; omega) hcells hslots hdg (fun q cA H1 hK1 hP1 hD1 hS1 => ?_)
  have e1 : cA = τ.1 := by
    have h1 := (hK1.2 3 _ rfl).2
    have h2 := (hK1.2 0 _ rfl).2
    exact Option.some.inj ((show s.vm.findClass ("[" ++ FieldType.int.toString) = some cA from h1).symm.trans h2)
  subst e1
  exact kk q H1 hP1 hD1 hS1
theorem wna_l (hexec : p.tables.exec = Jvm.exec) (hb : c.code = cc) (harr : (Cond.arrayClass .long).before args s = true) (hC : wC D τ B A s) (hP : va_P D classes ws H) (hD : va_D A ws) (hS : va_S A s.heap H locs)
    {n : Int32} {N : Nat} (hn : n = nI N) (hN : N ≤ 100000) (hcells : cells + 1 ≤ R.cells) (hslots : slots + N ≤ R.slots) (hdg : decode cc pc = .ok (.newarray .long, 2))
    (kk : ∀ (q : Nat) (H1 : Heap), va_P D classes (ws ++ [(q, .inl (τ.2.1, N, .inr (.inl (fun _ => 0))))]) H1 → va_D A (ws ++ [(q, .inl (τ.2.1, N, .inr (.inl (fun _ => 0))))]) → va_S A s.heap H1 locs →
      W p l e R s m args below meth c H1 locs (cells + 1) (slots + N) Q (F0 m (pc + 2) ls (.ref q :: rest))) : W p l e R s m args below meth c H locs cells slots Q (F0 m pc ls (.int n :: rest)) := by
  subst hn
  refine va_newa (atype := .long) (ty := .long) hexec hb harr rfl hC.1 hP hD hS hC.2.2.2.1 (N' := N) (a0 := (N, .inr (.inl (fun _ => 0)))) (fun _ => rfl) (nI_pos (by omega)) (nI_clamp (by omega)) (by show N * 8 ≤ _; omega) hcells hslots hdg (fun q cA H1 hK1 hP1 hD1 hS1 => ?_)
  have e1 : cA = τ.2.1 := by
    have h1 := (hK1.2 3 _ rfl).2
    have h2 := (hK1.2 1 _ rfl).2
    exact Option.some.inj ((show s.vm.findClass ("[" ++ FieldType.long.toString) = some cA from h1).symm.trans h2)
  subst e1
  exact kk q H1 hP1 hD1 hS1
end WC
