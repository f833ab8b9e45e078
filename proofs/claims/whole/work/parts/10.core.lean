/-! a state as five functions: ints, longs, int arrays, long arrays, and naturals (lengths that change, and which of several) -/
abbrev Sg : Type := (Nat → Int32) × (Nat → Int64) × (Nat → Nat → Int32) × (Nat → Nat → Int64) × (Nat → Nat)
def sI (σ : Sg) (k : Nat) (v : Int32) : Sg := (fun j => if j = k then v else σ.1 j, σ.2)
def sJ (σ : Sg) (k : Nat) (v : Int64) : Sg := (σ.1, fun j => if j = k then v else σ.2.1 j, σ.2.2)
def sA (σ : Sg) (a : Nat) (f : Nat → Int32) : Sg := (σ.1, σ.2.1, fun j => if j = a then f else σ.2.2.1 j, σ.2.2.2)
def sB (σ : Sg) (a : Nat) (f : Nat → Int64) : Sg := (σ.1, σ.2.1, σ.2.2.1, fun j => if j = a then f else σ.2.2.2.1 j, σ.2.2.2.2)
def sN (σ : Sg) (k : Nat) (n : Nat) : Sg := (σ.1, σ.2.1, σ.2.2.1, σ.2.2.2.1, fun j => if j = k then n else σ.2.2.2.2 j)
abbrev inb (i : Int32) (n : Nat) : Prop := 0 ≤ i.toInt ∧ i.toInt < (n : Int)
def ck {α : Type} (q : Prop) [Decidable q] (k : Option α) : Option α := if q then k else none
theorem ck_some {α : Type} {q : Prop} [Decidable q] {k : Option α} {o : α} (h : ck q k = some o) : q ∧ k = some o := by
  unfold ck at h
  split at h
  · exact ⟨‹q›, h⟩
  · cases h
def lt {α β : Type} (a : α) (k : α → Option β) : Option β := k a
theorem lt_some {α β : Type} {a : α} {k : α → Option β} {o : β} (h : lt a k = some o) : ∃ x, a = x ∧ k x = some o := ⟨a, rfl, h⟩
def bd {α β : Type} (a : Option α) (k : α → Option β) : Option β := a.bind k
theorem bd_some {α β : Type} {a : Option α} {k : α → Option β} {o : β} (h : bd a k = some o) : ∃ x, a = some x ∧ k x = some o := Option.bind_eq_some_iff.mp h
theorem ifT {α : Type} {q : Prop} [Decidable q] {a b : Option α} {o : α} (hq : q) (h : (if q then a else b) = some o) : a = some o := by rwa [if_pos hq] at h
theorem ifF {α : Type} {q : Prop} [Decidable q] {a b : Option α} {o : α} (hq : ¬ q) (h : (if q then a else b) = some o) : b = some o := by rwa [if_neg hq] at h
def rmz (lev : Nat) : Room := { frames := 10 * (lev + 1), cells := 0, slots := 0, locals := 1000 * (lev + 1) }
def Cx (p : Program) (R : Room) (s : State) (m : MethodId) (args : Array Value) (meth : Method) (c : Code) (cc : ByteArray) (nL : Nat) (own : String) (lev : Nat) (D : va_G) (τ : ClassId × ClassId × ClassId) (B : Nat) (A : Nat → Prop) : Prop :=
  p.tables.exec = Jvm.exec ∧ c.code = cc ∧ c.maxLocals = nL ∧ s.vm.findClass own = some m.cls ∧ (∀ w ∈ tw, w.before args s = true) ∧ wC D τ B A s ∧ 10 * (lev + 1) ≤ R.frames ∧ 1000 * (lev + 1) ≤ R.locals ∧ meth.locks = false
def Wd (s : State) (D : va_G) (A : Nat → Prop) (ws : va_W) (H : Heap) (locs : List Loc) : Prop := va_P D classes ws H ∧ va_D A ws ∧ va_S A s.heap H locs
def QI (below : List Frame) (args : Array Value) (s : State) (A : Nat → Prop) (D : va_G) (τ : ClassId × ClassId × ClassId) (ws : va_W) (r0 : Int32) : State → Prop := MQ below (va_Qi (S := Unit) (fun r _ => r = r0) (fun _ => wB D τ A ws) A) args s 0 0 A
def QL (below : List Frame) (args : Array Value) (s : State) (A : Nat → Prop) (D : va_G) (τ : ClassId × ClassId × ClassId) (ws : va_W) (r0 : Int64) : State → Prop := MQ below (va_Ql (S := Unit) (fun r _ => r = r0) (fun _ => wB D τ A ws) A) args s 0 0 A
def QV (below : List Frame) (args : Array Value) (s : State) (A : Nat → Prop) (D : va_G) (τ : ClassId × ClassId × ClassId) (ws : va_W) : State → Prop := MQ below (va_Qv (S := Unit) (fun _ => True) (fun _ => wB D τ A ws) A) args s 0 0 A
def QR (below : List Frame) (args : Array Value) (s : State) (A : Nat → Prop) (D : va_G) (τ : ClassId × ClassId × ClassId) (ws : va_W) (a0 : Nat) : State → Prop := MQ below (va_Qr (S := Unit) (fun _ => True) (fun _ q t => q = a0 ∧ wB D τ A ws t) A) args s 0 0 A
def MI (l : Launch) (y : MethodName) (cw : Cond) (lev : Nat) (D : va_G) (τ : ClassId × ClassId × ClassId) (B : Nat) (av : List Value) (ws ws' : va_W) (r0 : Int32) : Prop := ∀ sz : Nat, Met l y (cw :: tw) (rmz lev) (va_Pc av (wP D τ B sz ws)) (va_Qi (S := Unit) (fun r _ => r = r0) (fun _ => wB D τ (va_A ws sz) ws') (va_A ws sz)) 0 0 (va_A ws sz)
def ML (l : Launch) (y : MethodName) (cw : Cond) (lev : Nat) (D : va_G) (τ : ClassId × ClassId × ClassId) (B : Nat) (av : List Value) (ws ws' : va_W) (r0 : Int64) : Prop := ∀ sz : Nat, Met l y (cw :: tw) (rmz lev) (va_Pc av (wP D τ B sz ws)) (va_Ql (S := Unit) (fun r _ => r = r0) (fun _ => wB D τ (va_A ws sz) ws') (va_A ws sz)) 0 0 (va_A ws sz)
def MV (l : Launch) (y : MethodName) (cw : Cond) (lev : Nat) (D : va_G) (τ : ClassId × ClassId × ClassId) (B : Nat) (av : List Value) (ws ws' : va_W) : Prop := ∀ sz : Nat, Met l y (cw :: tw) (rmz lev) (va_Pc av (wP D τ B sz ws)) (va_Qv (S := Unit) (fun _ => True) (fun _ => wB D τ (va_A ws sz) ws') (va_A ws sz)) 0 0 (va_A ws sz)
def MR (l : Launch) (y : MethodName) (cw : Cond) (lev : Nat) (D : va_G) (τ : ClassId × ClassId × ClassId) (B : Nat) (av : List Value) (ws ws' : va_W) (a0 : Nat) : Prop := ∀ sz : Nat, Met l y (cw :: tw) (rmz lev) (va_Pc av (wP D τ B sz ws)) (va_Qr (S := Unit) (fun _ => True) (fun _ q t => q = a0 ∧ wB D τ (va_A ws sz) ws' t) (va_A ws sz)) 0 0 (va_A ws sz)
theorem map_range (ws : va_W) : (List.range ws.length).map (fun i => ws[i]?) = ws.map some := by
  apply List.ext_getElem
  · simp
  · intro i h1 h2
    simp at h1 ⊢
section CORE
variable {p : Program} {l : Launch} {e : Env} {R : Room} {s : State} {m : MethodId} {args : Array Value} {below : List Frame} {meth : Method} {c : Code} {H : Heap} {locs : List Loc} {Q : State → Prop}
variable {cc : ByteArray} {nL pc lev : Nat} {own : String} {D : va_G} {τ : ClassId × ClassId × ClassId} {B : Nat} {A : Nat → Prop} {ws ws' : va_W} {ls : Array Slot} {rest st0 : List Value}
theorem Cx.x (E : Cx p R s m args meth c cc nL own lev D τ B A) : p.tables.exec = Jvm.exec := E.1
theorem Cx.b (E : Cx p R s m args meth c cc nL own lev D τ B A) : c.code = cc := E.2.1
theorem Cx.o (E : Cx p R s m args meth c cc nL own lev D τ B A) : s.vm.findClass own = some m.cls := E.2.2.2.1
theorem Cx.w (E : Cx p R s m args meth c cc nL own lev D τ B A) : ∀ w ∈ tw, w.before args s = true := E.2.2.2.2.1
theorem Cx.C (E : Cx p R s m args meth c cc nL own lev D τ B A) : wC D τ B A s := E.2.2.2.2.2.1
theorem Cx.K (E : Cx p R s m args meth c cc nL own lev D τ B A) : va_K D classes (TY τ) s := E.C.1
theorem Cx.n (E : Cx p R s m args meth c cc nL own lev D τ B A) {w : Cond} (h : w ∈ nw) : w.before args s = true := va_Nw.use (nw_on w h) (E.C.2.1.1 w h)
theorem Cx.fix (E : Cx p R s m args meth c cc nL own lev D τ B A) : CallFix p m c cc nL s args tw own := ⟨E.1, E.2.1, E.2.2.1, E.2.2.2.1, E.2.2.2.2.1⟩
set_option maxRecDepth 10000 in
theorem Cx.rm (E : Cx p R s m args meth c cc nL own lev D τ B A) {lev' maxL : Nat} (h : lev' < lev) (hm : maxL ≤ 500) : (rmz lev').frames + 1 ≤ R.frames ∧ 8 + (maxL + 11) + (rmz lev').locals ≤ R.locals := by
  have h1 := E.2.2.2.2.2.2.1
  have h2 := E.2.2.2.2.2.2.2.1
  constructor
  · show 10 * (lev' + 1) + 1 ≤ _
    omega
  · show 8 + (maxL + 11) + 1000 * (lev' + 1) ≤ _
    omega
theorem wd_pre (w : Wd s D A ws H locs) (hC : wC D τ B A s) (As : List Value) : PreS s H (va_Pc As (wP D τ B H.size ws)) As := by
  obtain ⟨hK, hN, hX, hA, hAB, hB⟩ := hC
  obtain ⟨hP, hD, hS⟩ := w
  refine ⟨wP_blind, fun U hU hW => ⟨rfl, by rw [hU], by rw [hU]; exact hP, hK.moved hW.alike, hD.weaken (fun _ _ _ h => hAB _ h), Nat.le_trans hB hS.1, wN_warm hW hN, ?_⟩⟩
  rw [hU]
  exact wX_warm hW (wX_kept hX (fun a h1 h2 => hS.2.1 a h1 (fun h => h2 (hAB a h))))
theorem wd_preV (w : Wd s D A ws H locs) (hC : wC D τ B A s) (As : List Value) {b q0 ci : Nat} {fs : List Value} {r : vw_C} (he : ws[q0]? = some (b, .inr (ci, fs))) (hcl : classes[ci]? = some r) : PreV s H r.1 b (va_Pc (.ref b :: As) (wP D τ B H.size ws)) As :=
  ⟨(wd_pre w hC (.ref b :: As)).1, va_recv hC.1 w.1 hcl he, (wd_pre w hC (.ref b :: As)).2⟩
theorem cr_i {a : Array Value} {r0 : Int32} (w : Wd s D A ws H locs) (hC : wC D τ B A s)
    (hr : va_Run p l e R s m args below meth c H locs 0 0 0 0 (F0 m pc ls st0) rest (va_Qi (S := Unit) (fun r _ => r = r0) (fun _ => wB D τ (va_A ws H.size) ws') (va_A ws H.size) a) (va_A ws H.size))
    (kk : ∀ (H1 : Heap) (locs1 : List Loc), Wd s D A ws' H1 locs1 → W p l e R s m args below meth c H1 locs1 0 0 Q (F0 m (pc + 3) ls (.int r0 :: rest))) : W p l e R s m args below meth c H locs 0 0 Q (F0 m pc ls st0) := by
  refine wc_i (wr := []) (wc := ws) hC w.1 w.2.1 w.2.2 (List.range ws.length) [] (map_range ws) rfl rfl (fun i hi => by cases hi) hr (fun r u H1 locs1 hw hP hD hS => ?_)
  subst hw
  exact kk H1 locs1 ⟨hP, hD, hS⟩
theorem cr_l {a : Array Value} {r0 : Int64} (w : Wd s D A ws H locs) (hC : wC D τ B A s)
    (hr : va_Run p l e R s m args below meth c H locs 0 0 0 0 (F0 m pc ls st0) rest (va_Ql (S := Unit) (fun r _ => r = r0) (fun _ => wB D τ (va_A ws H.size) ws') (va_A ws H.size) a) (va_A ws H.size))
    (kk : ∀ (H1 : Heap) (locs1 : List Loc), Wd s D A ws' H1 locs1 → W p l e R s m args below meth c H1 locs1 0 0 Q (F0 m (pc + 3) ls (.long r0 :: rest))) : W p l e R s m args below meth c H locs 0 0 Q (F0 m pc ls st0) := by
  have hFc := va_free (wc := ws) w.2.1 w.2.2 hC.2.2.2.1 (List.range ws.length) (map_range ws)
  refine va_calll hr w.2.2 (fun q _ h => hFc q h) hFc (fun r u t H1 locs1 ht hvm hw hB hz1 hk1 hS1 => ?_)
  obtain ⟨hP1, hK1, hD1⟩ := hB
  rw [ht] at hP1
  obtain ⟨hP2, hD2⟩ := va_join (wr := []) (w1 := ws') w.1 w.2.1 (List.range ws.length) [] (map_range ws) rfl rfl (fun i hi => by cases hi) hk1 hFc hP1 hD1
  subst hw
  exact kk H1 locs1 ⟨hP2, hD2, hS1⟩
theorem cr_v {a : Array Value} (w : Wd s D A ws H locs) (hC : wC D τ B A s)
    (hr : va_Run p l e R s m args below meth c H locs 0 0 0 0 (F0 m pc ls st0) rest (va_Qv (S := Unit) (fun _ => True) (fun _ => wB D τ (va_A ws H.size) ws') (va_A ws H.size) a) (va_A ws H.size))
    (kk : ∀ (H1 : Heap) (locs1 : List Loc), Wd s D A ws' H1 locs1 → W p l e R s m args below meth c H1 locs1 0 0 Q (F0 m (pc + 3) ls rest)) : W p l e R s m args below meth c H locs 0 0 Q (F0 m pc ls st0) := by
  refine wc_v (wr := []) (wc := ws) hC w.1 w.2.1 w.2.2 (List.range ws.length) [] (map_range ws) rfl rfl (fun i hi => by cases hi) hr (fun u H1 locs1 hw hP hD hS => ?_)
  exact kk H1 locs1 ⟨hP, hD, hS⟩
theorem cr_r {a : Array Value} {a0 : Nat} (w : Wd s D A ws H locs) (hC : wC D τ B A s)
    (hr : va_Run p l e R s m args below meth c H locs 0 0 0 0 (F0 m pc ls st0) rest (va_Qr (S := Unit) (fun _ => True) (fun _ q t => q = a0 ∧ wB D τ (va_A ws H.size) ws' t) (va_A ws H.size) a) (va_A ws H.size))
    (kk : ∀ (H1 : Heap) (locs1 : List Loc), Wd s D A ws' H1 locs1 → W p l e R s m args below meth c H1 locs1 0 0 Q (F0 m (pc + 3) ls (.ref a0 :: rest))) : W p l e R s m args below meth c H locs 0 0 Q (F0 m pc ls st0) := by
  refine wc_r (wr := []) (wc := ws) (w1 := fun _ => ws') (ra := fun _ => a0) hC w.1 w.2.1 w.2.2 (List.range ws.length) [] (map_range ws) rfl rfl (fun i hi => by cases hi) hr (fun u H1 locs1 hw hP hD hS => ?_)
  exact kk H1 locs1 ⟨hP, hD, hS⟩
theorem wb_i (w : Wd s D A ws H locs) (hK : va_K D classes (TY τ) s) {t : State} (ht : t.heap = H) (hW : s.WarmedH t.vm) : wB D τ A ws t := ⟨by rw [ht]; exact w.1, va_K.moved hW.alike hK, w.2.1⟩
theorem rt_i (E : Cx p R s m args meth c cc nL own lev D τ B A) (w : Wd s D A ws H locs) (hr : meth.sig.returnType = some .int) {v : Int32} (hd : decode cc pc = .ok (.ireturn, 1)) : W p l e R s m args below meth c H locs 0 0 (QI below args s A D τ ws v) (F0 m pc ls [.int v]) :=
  W.iret (v := v) E.1 E.2.1 hr (fun t ht hW => ⟨⟨v, (), rfl, rfl, wb_i w E.K ht hW⟩, w.2.2.F ht⟩) w.2.2.2.2 hd E.2.2.2.2.2.2.2.2
theorem nz_b {v : Int32} (h : v = 0 ∨ v = 1) : narrow .boolean (.int v) = .int v := by rcases h with rfl | rfl <;> rfl
theorem fz_b {v : Int32} (h : v = 0 ∨ v = 1) : fits .boolean (.int v) = true := by rcases h with rfl | rfl <;> rfl
theorem rt_z (E : Cx p R s m args meth c cc nL own lev D τ B A) (w : Wd s D A ws H locs) (hr : meth.sig.returnType = some .boolean) {v : Int32} (hv : v = 0 ∨ v = 1) (hd : decode cc pc = .ok (.ireturn, 1)) : W p l e R s m args below meth c H locs 0 0 (QI below args s A D τ ws v) (F0 m pc ls [.int v]) :=
  W.zret (v := v) E.1 E.2.1 hr (nz_b hv) (fun t ht hW => ⟨⟨v, (), rfl, rfl, wb_i w E.K ht hW⟩, w.2.2.F ht⟩) w.2.2.2.2 hd E.2.2.2.2.2.2.2.2
theorem rt_l (E : Cx p R s m args meth c cc nL own lev D τ B A) (w : Wd s D A ws H locs) (hr : meth.sig.returnType = some .long) {v : Int64} (hd : decode cc pc = .ok (.lreturn, 1)) : W p l e R s m args below meth c H locs 0 0 (QL below args s A D τ ws v) (F0 m pc ls [.long v]) :=
  W.lret (v := v) E.1 E.2.1 hr (fun t ht hW => ⟨⟨v, (), rfl, rfl, wb_i w E.K ht hW⟩, w.2.2.F ht⟩) w.2.2.2.2 hd E.2.2.2.2.2.2.2.2
theorem rt_v (E : Cx p R s m args meth c cc nL own lev D τ B A) (w : Wd s D A ws H locs) (hr : meth.sig.returnType = none) (hd : decode cc pc = .ok (.return_, 1)) : W p l e R s m args below meth c H locs 0 0 (QV below args s A D τ ws) (F0 m pc ls []) :=
  W.vret E.1 E.2.1 hr (fun t ht hW => ⟨⟨(), rfl, trivial, wb_i w E.K ht hW⟩, w.2.2.F ht⟩) w.2.2.2.2 hd E.2.2.2.2.2.2.2.2
theorem rt_r (E : Cx p R s m args meth c cc nL own lev D τ B A) (w : Wd s D A ws H locs) (hr : ∃ ty, meth.sig.returnType = some (.array ty)) {a0 : Nat} (hd : decode cc pc = .ok (.areturn, 1)) : W p l e R s m args below meth c H locs 0 0 (QR below args s A D τ ws a0) (F0 m pc ls [.ref a0]) := by
  obtain ⟨ty, hr⟩ := hr
  exact W.aret (v := .ref a0) E.1 E.2.1 hr (Or.inr ⟨_, rfl⟩) (Or.inr ⟨_, rfl⟩) (fun t ht hW => ⟨⟨(), a0, rfl, trivial, rfl, wb_i w E.K ht hW⟩, w.2.2.F ht⟩) w.2.2.2.2 hd E.2.2.2.2.2.2.2.2
/-- arrays -/
theorem r_ial (E : Cx p R s m args meth c cc nL own lev D τ B A) (w : Wd s D A ws H locs) {k a n : Nat} {f : Nat → Int32} (ha : ws[k]? = some (a, .inl (τ.1, n, .inl f))) {i : Int32} (hi : inb i n) (hd : decode cc pc = .ok (.iaload, 1))
    (kk : W p l e R s m args below meth c H locs 0 0 Q (F0 m (pc + 1) ls (.int (f i.toNatClampNeg) :: rest))) : W p l e R s m args below meth c H locs 0 0 Q (F0 m pc ls (.int i :: .ref a :: rest)) :=
  va_iald E.1 E.2.1 E.K w.1 k 0 ha rfl (vp_in_iff.mpr hi) hd kk
theorem r_lal (E : Cx p R s m args meth c cc nL own lev D τ B A) (w : Wd s D A ws H locs) {k a n : Nat} {f : Nat → Int64} (ha : ws[k]? = some (a, .inl (τ.2.1, n, .inr (.inl f)))) {i : Int32} (hi : inb i n) (hd : decode cc pc = .ok (.laload, 1))
    (kk : W p l e R s m args below meth c H locs 0 0 Q (F0 m (pc + 1) ls (.long (f i.toNatClampNeg) :: rest))) : W p l e R s m args below meth c H locs 0 0 Q (F0 m pc ls (.int i :: .ref a :: rest)) :=
  va_lald E.1 E.2.1 E.K w.1 k 1 ha rfl (vp_in_iff.mpr hi) hd kk
theorem r_ias (E : Cx p R s m args meth c cc nL own lev D τ B A) (w : Wd s D A ws H locs) {k a n : Nat} {f : Nat → Int32} (ha : ws[k]? = some (a, .inl (τ.1, n, .inl f))) {i v : Int32} (hi : inb i n) (hs : ws.set k (a, .inl (τ.1, n, .inl (upd f i.toNatClampNeg v))) = ws') (hd : decode cc pc = .ok (.iastore, 1))
    (kk : ∀ (H1 : Heap) (locs1 : List Loc), Wd s D A ws' H1 locs1 → W p l e R s m args below meth c H1 locs1 0 0 Q (F0 m (pc + 1) ls rest)) : W p l e R s m args below meth c H locs 0 0 Q (F0 m pc ls (.int v :: .int i :: .ref a :: rest)) :=
  va_iast E.1 E.2.1 E.K w.1 w.2.1 w.2.2 k 0 ha rfl (vp_in_iff.mpr hi) hd (fun H1 locs1 h1 h2 h3 => kk H1 locs1 (by rw [← hs]; exact ⟨h1, h2, h3⟩))
theorem r_las (E : Cx p R s m args meth c cc nL own lev D τ B A) (w : Wd s D A ws H locs) {k a n : Nat} {f : Nat → Int64} (ha : ws[k]? = some (a, .inl (τ.2.1, n, .inr (.inl f)))) {i : Int32} {v : Int64} (hi : inb i n) (hs : ws.set k (a, .inl (τ.2.1, n, .inr (.inl (vp_updL f i.toNatClampNeg v)))) = ws') (hd : decode cc pc = .ok (.lastore, 1))
    (kk : ∀ (H1 : Heap) (locs1 : List Loc), Wd s D A ws' H1 locs1 → W p l e R s m args below meth c H1 locs1 0 0 Q (F0 m (pc + 1) ls rest)) : W p l e R s m args below meth c H locs 0 0 Q (F0 m pc ls (.long v :: .int i :: .ref a :: rest)) :=
  va_last E.1 E.2.1 E.K w.1 w.2.1 w.2.2 k 1 ha rfl (vp_in_iff.mpr hi) hd (fun H1 locs1 h1 h2 h3 => kk H1 locs1 (by rw [← hs]; exact ⟨h1, h2, h3⟩))
theorem r_alen (E : Cx p R s m args meth c cc nL own lev D τ B A) (w : Wd s D A ws H locs) {k a n : Nat} {f : Nat → Int32} (ha : ws[k]? = some (a, .inl (τ.1, n, .inl f))) (hd : decode cc pc = .ok (.arraylength, 1))
    (kk : W p l e R s m args below meth c H locs 0 0 Q (F0 m (pc + 1) ls (.int (Int32.ofNat n) :: rest))) : W p l e R s m args below meth c H locs 0 0 Q (F0 m pc ls (.ref a :: rest)) :=
  va_alen E.1 E.2.1 E.K w.1 k 0 ha (ty := .int) rfl rfl hd kk
/-- what arraycopy asks -/
abbrev cpok (sp dp n : Int32) (n0 n1 : Nat) : Prop := ¬ sp < 0 ∧ ¬ dp < 0 ∧ ¬ n < 0 ∧ sp.toNatClampNeg + n.toNatClampNeg ≤ n0 ∧ dp.toNatClampNeg + n.toNatClampNeg ≤ n1
theorem r_cpy (E : Cx p R s m args meth c cc nL own lev D τ B A) (w : Wd s D A ws H locs) (hsz : ls.size = nL) {index : Nat} (hlk : Cond.methodLink own index arraycopyName ∈ tw) (hna : Cond.native arraycopyName ∈ tw) (hst : Cond.static arraycopyName ∈ tw) (hin : Cond.initialized "java/lang/System" ∈ tw) {k0 k1 a0 a1 n0 n1 : Nat} {f g : Nat → Int32} (h0 : ws[k0]? = some (a0, .inl (τ.1, n0, .inl f))) (h1 : ws[k1]? = some (a1, .inl (τ.1, n1, .inl g)))
    {sp dp n : Int32} (hc : cpok sp dp n n0 n1) (hs : ws.set k1 (a1, .inl (τ.1, n1, .inl (va_cpy f g sp.toNatClampNeg dp.toNatClampNeg n.toNatClampNeg))) = ws') (hr : (rest.map fun v => v.category).sum ≤ 8) (hd : decode cc pc = .ok (.invokestatic index, 3))
    (kk : ∀ (H1 : Heap) (locs1 : List Loc), Wd s D A ws' H1 locs1 → W p l e R s m args below meth c H1 locs1 0 0 Q (F0 m (pc + 3) ls rest)) : W p l e R s m args below meth c H locs 0 0 Q (F0 m pc ls (.int n :: .int dp :: .ref a1 :: .int sp :: .ref a0 :: rest)) := by
  have e1 := E.2.2.2.2.2.2.1
  have e2 := E.2.2.2.2.2.2.2.1
  refine va_copyi E.1 E.2.1 (E.2.2.1.trans hsz.symm) E.o (E.w _ hlk) (E.w _ hna) (E.w _ hst) (E.w _ hin) E.K w.1 w.2.1 w.2.2 k0 k1 0 0 h0 h1 rfl rfl rfl hc.1 hc.2.1 hc.2.2.1 hc.2.2.2.1 hc.2.2.2.2 (fun i hi => rfl) (by omega) ?_ hd (fun H1 locs1 h1 h2 h3 => kk H1 locs1 (by rw [← hs]; exact ⟨h1, h2, h3⟩))
  have h9 : nativeFrameWords "java/lang/System" "arraycopy" 5 ≤ 100 := by decide
  omega
/-- a table that nobody writes -/
def st_tab (n : String) : List Int32 := (tbs.lookup n).getD []
theorem r_tab (E : Cx p R s m args meth c cc nL own lev D τ B A) (w : Wd s D A ws H locs) {n host : String} {index : Nat} (hn : (n, st_tab n) ∈ tbs) (hlk : Cond.fieldLinkNest own index "DrawingMachine" n "[I" host ∈ nw) (hd : decode cc pc = .ok (.getstatic index, 3))
    (kk : ∀ a : Nat, va_T .int a (st_tab n).length (fun j => .int ((st_tab n).getD j 0)) (fun q => B ≤ q) s s.heap → W p l e R s m args below meth c H locs 0 0 Q (F0 m (pc + 3) ls (.ref a :: rest))) : W p l e R s m args below meth c H locs 0 0 Q (F0 m pc ls rest) := by
  obtain ⟨a, hZ, hT⟩ := E.C.2.2.1.2.2.1 _ hn
  exact va_getsN (C := "DrawingMachine") (n := n) (d := "[I") (v := .ref a) E.1 E.2.1 (hZ.narrow E.C.2.2.2.2.1) w.2.2 E.o (E.n hlk) (fun _ h9 => h9) hd (kk a hT)
theorem r_tld (E : Cx p R s m args meth c cc nL own lev D τ B A) (w : Wd s D A ws H locs) {a N : Nat} {f : Nat → Int32} (hT : va_T .int a N (fun j => .int (f j)) (fun q => B ≤ q) s s.heap) {i : Int32} (hi : inb i N) (hd : decode cc pc = .ok (.iaload, 1))
    (kk : W p l e R s m args below meth c H locs 0 0 Q (F0 m (pc + 1) ls (.int (f i.toNatClampNeg) :: rest))) : W p l e R s m args below meth c H locs 0 0 Q (F0 m pc ls (.int i :: .ref a :: rest)) := by
  obtain ⟨cell, g1, g2, g3, g4, g5, g6, g7⟩ := hT
  have hv := vp_in_iff.mpr hi
  have hlt : i.toNatClampNeg < N := Nat.not_le.mp fun q => hv (Or.inr q)
  refine W.iald (v := .int (f i.toNatClampNeg)) E.1 E.2.1 (a := a) (cell := cell) ?_ g2 g3 ?_ (g6 _ hlt) rfl rfl hd kk
  · rw [w.2.2.2.1 a (Array.getElem?_eq_some_iff.mp g1).1 (fun h => g7 (E.C.2.2.2.2.1 _ h))]
    exact g1
  · rintro (h | h)
    · exact hv (Or.inl h)
    · exact absurd (Nat.lt_of_lt_of_le hlt g4) (Nat.not_lt.mpr h)
theorem wi_e {x v : Int32} (h : x = v) (k : W p l e R s m args below meth c H locs 0 0 Q (F0 m pc ls (.int v :: rest))) : W p l e R s m args below meth c H locs 0 0 Q (F0 m pc ls (.int x :: rest)) := by subst h; exact k
theorem wl_e {x v : Int64} (h : x = v) (k : W p l e R s m args below meth c H locs 0 0 Q (F0 m pc ls (.long v :: rest))) : W p l e R s m args below meth c H locs 0 0 Q (F0 m pc ls (.long x :: rest)) := by subst h; exact k
theorem wr_e {x v : Nat} (h : x = v) (k : W p l e R s m args below meth c H locs 0 0 Q (F0 m pc ls (.ref v :: rest))) : W p l e R s m args below meth c H locs 0 0 Q (F0 m pc ls (.ref x :: rest)) := by subst h; exact k
theorem ne_ti {x v : Int32} {k : Int} (e : v.toInt = k) (h : ¬ x = v) : ¬ x.toInt = k := fun e2 => h (Int32.toInt_inj.mp (e2.trans e.symm))
theorem lgc_lt {x y : Int64} : lg_cmp x y < 0 ↔ x < y := lg_cmp_lt x y
theorem lgc_gt {x y : Int64} : 0 < lg_cmp x y ↔ y < x := lg_cmp_gt x y
theorem lgc_eq {x y : Int64} : lg_cmp x y = 0 ↔ x = y := lg_cmp_eq x y
theorem lgc_ge {x y : Int64} : 0 ≤ lg_cmp x y ↔ y ≤ x := by rw [← Int32.not_lt, lgc_lt, Int64.not_lt]
theorem lgc_le {x y : Int64} : lg_cmp x y ≤ 0 ↔ x ≤ y := by rw [← Int32.not_lt, lgc_gt, Int64.not_lt]
theorem en_i {y : MethodName} {maxL : Nat} {ret : Option FieldType} {av : List Value} {r0 : Int32} (hy : plainName y.cls = true) (hn : (lg_sl av).length ≤ maxL)
    (body : ∀ (p : Program) (e : Env) (R : Room) (s : State) (m : MethodId) (args : Array Value) (below : List Frame) (meth : Method) (c : Code) (H : Heap) (locs : List Loc) (ls : Array Slot) (A : Nat → Prop), Cx p R s m args meth c cc maxL y.cls lev D τ B A → meth.sig.returnType = ret → Wd s D A ws H locs → lv_has ls maxL (lv_args 0 av) → W p l e R s m args below meth c H locs 0 0 (QI below args s A D τ ws' r0) (F0 m 0 ls [])) : MI l y (Cond.code y cc maxL ret) lev D τ B av ws ws' r0 := by
  intro sz
  refine Met.ofW (cc := cc) (maxL := maxL) (ret := ret) hy rfl ?_
  intro p e s m args below meth c s₁ B0 hml hv
  obtain ⟨rfl, hv⟩ := hv
  have hts := atoms_spec (ws := Cond.code y cc maxL ret :: tw) B0.pre
  have hown : s.vm.findClass y.cls = some m.cls := findClass_of_methodNamed B0.named
  obtain ⟨hC, hP, hD, hsz⟩ := wC_init hv
  subst hsz
  rw [lg_entry_eq]
  exact body p e _ s m _ below meth c s.heap [] _ (va_A ws s.heap.size) ⟨B0.exec, B0.bytes, hml, hown, fun w hw => hts w (List.mem_cons_of_mem _ hw), hC, Nat.le_refl _, Nat.le_refl _, B0.notSynchronized⟩ B0.returns ⟨hP, hD, va_S.rf⟩ (lv_entry av hn)
theorem en_l {y : MethodName} {maxL : Nat} {ret : Option FieldType} {av : List Value} {r0 : Int64} (hy : plainName y.cls = true) (hn : (lg_sl av).length ≤ maxL)
    (body : ∀ (p : Program) (e : Env) (R : Room) (s : State) (m : MethodId) (args : Array Value) (below : List Frame) (meth : Method) (c : Code) (H : Heap) (locs : List Loc) (ls : Array Slot) (A : Nat → Prop), Cx p R s m args meth c cc maxL y.cls lev D τ B A → meth.sig.returnType = ret → Wd s D A ws H locs → lv_has ls maxL (lv_args 0 av) → W p l e R s m args below meth c H locs 0 0 (QL below args s A D τ ws' r0) (F0 m 0 ls [])) : ML l y (Cond.code y cc maxL ret) lev D τ B av ws ws' r0 := by
  intro sz
  refine Met.ofW (cc := cc) (maxL := maxL) (ret := ret) hy rfl ?_
  intro p e s m args below meth c s₁ B0 hml hv
  obtain ⟨rfl, hv⟩ := hv
  have hts := atoms_spec (ws := Cond.code y cc maxL ret :: tw) B0.pre
  have hown : s.vm.findClass y.cls = some m.cls := findClass_of_methodNamed B0.named
  obtain ⟨hC, hP, hD, hsz⟩ := wC_init hv
  subst hsz
  rw [lg_entry_eq]
  exact body p e _ s m _ below meth c s.heap [] _ (va_A ws s.heap.size) ⟨B0.exec, B0.bytes, hml, hown, fun w hw => hts w (List.mem_cons_of_mem _ hw), hC, Nat.le_refl _, Nat.le_refl _, B0.notSynchronized⟩ B0.returns ⟨hP, hD, va_S.rf⟩ (lv_entry av hn)
theorem en_v {y : MethodName} {maxL : Nat} {ret : Option FieldType} {av : List Value} (hy : plainName y.cls = true) (hn : (lg_sl av).length ≤ maxL)
    (body : ∀ (p : Program) (e : Env) (R : Room) (s : State) (m : MethodId) (args : Array Value) (below : List Frame) (meth : Method) (c : Code) (H : Heap) (locs : List Loc) (ls : Array Slot) (A : Nat → Prop), Cx p R s m args meth c cc maxL y.cls lev D τ B A → meth.sig.returnType = ret → Wd s D A ws H locs → lv_has ls maxL (lv_args 0 av) → W p l e R s m args below meth c H locs 0 0 (QV below args s A D τ ws') (F0 m 0 ls [])) : MV l y (Cond.code y cc maxL ret) lev D τ B av ws ws' := by
  intro sz
  refine Met.ofW (cc := cc) (maxL := maxL) (ret := ret) hy rfl ?_
  intro p e s m args below meth c s₁ B0 hml hv
  obtain ⟨rfl, hv⟩ := hv
  have hts := atoms_spec (ws := Cond.code y cc maxL ret :: tw) B0.pre
  have hown : s.vm.findClass y.cls = some m.cls := findClass_of_methodNamed B0.named
  obtain ⟨hC, hP, hD, hsz⟩ := wC_init hv
  subst hsz
  rw [lg_entry_eq]
  exact body p e _ s m _ below meth c s.heap [] _ (va_A ws s.heap.size) ⟨B0.exec, B0.bytes, hml, hown, fun w hw => hts w (List.mem_cons_of_mem _ hw), hC, Nat.le_refl _, Nat.le_refl _, B0.notSynchronized⟩ B0.returns ⟨hP, hD, va_S.rf⟩ (lv_entry av hn)
theorem en_r {y : MethodName} {maxL : Nat} {ret : Option FieldType} {av : List Value} {r0 : Nat} (hy : plainName y.cls = true) (hn : (lg_sl av).length ≤ maxL)
    (body : ∀ (p : Program) (e : Env) (R : Room) (s : State) (m : MethodId) (args : Array Value) (below : List Frame) (meth : Method) (c : Code) (H : Heap) (locs : List Loc) (ls : Array Slot) (A : Nat → Prop), Cx p R s m args meth c cc maxL y.cls lev D τ B A → meth.sig.returnType = ret → Wd s D A ws H locs → lv_has ls maxL (lv_args 0 av) → W p l e R s m args below meth c H locs 0 0 (QR below args s A D τ ws' r0) (F0 m 0 ls [])) : MR l y (Cond.code y cc maxL ret) lev D τ B av ws ws' r0 := by
  intro sz
  refine Met.ofW (cc := cc) (maxL := maxL) (ret := ret) hy rfl ?_
  intro p e s m args below meth c s₁ B0 hml hv
  obtain ⟨rfl, hv⟩ := hv
  have hts := atoms_spec (ws := Cond.code y cc maxL ret :: tw) B0.pre
  have hown : s.vm.findClass y.cls = some m.cls := findClass_of_methodNamed B0.named
  obtain ⟨hC, hP, hD, hsz⟩ := wC_init hv
  subst hsz
  rw [lg_entry_eq]
  exact body p e _ s m _ below meth c s.heap [] _ (va_A ws s.heap.size) ⟨B0.exec, B0.bytes, hml, hown, fun w hw => hts w (List.mem_cons_of_mem _ hw), hC, Nat.le_refl _, Nat.le_refl _, B0.notSynchronized⟩ B0.returns ⟨hP, hD, va_S.rf⟩ (lv_entry av hn)
theorem r_law {y : MethodName} {n na maxL : Nat} {bytes : ByteArray} {ret : Option FieldType} {P : Array Value → State → Prop} {v0 : Value} (E : Cx p R s m args meth c cc nL own lev D τ B A) (HL : Jvm.Free.XT.Law l y n na 0 0 bytes maxL ret [] P (Jvm.Free.XT.PureE (some v0)) [] 0 0) {index : Nat} (hlk : Cond.methodLink own index y ∈ tw) (hst : Cond.static y ∈ tw) (hini : Cond.initialized y.cls ∈ tw) (hcode : Cond.code y bytes maxL ret ∈ tw) (hmL : maxL ≤ 500) (hsz : ls.size = nL) {As : List Value} (hAs : As.length = na) (hP : ∀ U, P As.toArray U) (hr : (rest.map fun v => v.category).sum ≤ 8) (hd : decode cc pc = .ok (.invokestatic index, 3))
    (kk : W p l e R s m args below meth c H locs 0 0 Q (F0 m (pc + 3) ls (v0 :: rest))) : W p l e R s m args below meth c H locs 0 0 Q (F0 m pc ls (As.reverse ++ rest)) := by
  have e1 := E.2.2.2.2.2.2.1
  have e2 := E.2.2.2.2.2.2.2.1
  intro T hT X
  obtain ⟨v, T', X', ⟨hv, hh⟩, st⟩ := Jvm.Stand.callS X E.1 HL E.o (fun w hw => by
    simp only [Jvm.Free.XT.staticW, List.mem_cons, List.not_mem_nil, or_false] at hw
    rcases hw with rfl | rfl
    · exact E.w _ hlk
    · exact E.w _ hst) (Jvm.Free.XT.unparts (E.w _ hcode) (fun w hw => by
    simp only [List.mem_cons, List.not_mem_nil, or_false] at hw
    subst hw
    exact E.w _ hini)) (W := 8) (by omega) (by omega) (Nat.zero_le _) (Nat.zero_le _) (g := F0 m pc ls (As.reverse ++ rest)) rfl (by rw [E.2.2.1]; exact hsz) (Steps.refl _) hAs rfl (lv_room hr) (by rw [E.2.1]; exact hd) (hP _)
  subst hv
  rw [List.append_nil] at X'
  obtain ⟨t, a1, b1⟩ := kk T' (hh.trans hT) X'
  exact ⟨t, st.trans a1, b1⟩
def imax (x y : Int32) : Int32 := if x < y then y else x
def imin (x y : Int32) : Int32 := if y < x then y else x
def lmax (x y : Int64) : Int64 := if y < x then x else y
def fdiv (x y : Int64) : Int64 := if x ^^^ y < 0 then (if x / y * y = x then x / y else x / y - 1) else x / y
theorem r_aal (E : Cx p R s m args meth c cc nL own lev D τ B A) (w : Wd s D A ws H locs) {k a n : Nat} {f : Nat → Option Nat} (ha : ws[k]? = some (a, .inl (τ.2.2, n, .inr (.inr (.inr (.inr f)))))) {i : Int32} (hi : inb i n) (hd : decode cc pc = .ok (.aaload, 1))
    (kk : W p l e R s m args below meth c H locs 0 0 Q (F0 m (pc + 1) ls (va_rf (f i.toNatClampNeg) :: rest))) : W p l e R s m args below meth c H locs 0 0 Q (F0 m pc ls (.int i :: .ref a :: rest)) := by
  have hin := vp_in_iff.mpr hi
  have hlt : i.toNatClampNeg < n := Nat.not_le.mp fun q => hin (Or.inr q)
  exact W.aald (v := va_rf (f i.toNatClampNeg)) (ty := .array .int) E.1 E.2.1 (w.1 k _ ha) ((E.K.2 2 _ rfl).1 n (fun j => va_rf (f j))) rfl (fun q => by cases q) (by show ¬ (i < 0 ∨ (arrV _ _ _).slots.size ≤ _); rw [arrV_size]; exact hin) (by show (arrV _ _ _).slots[_]? = _; rw [arrV_read _ _ hlt]) rfl rfl hd kk
end CORE
