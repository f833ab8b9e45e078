/-! THE CLAIM OUT OF ONE WALK OF THE LAW'S BODY. Your part is whole_start (and what it stands on); all else here is the same for every law, but numbers. -/
def R_law : String := "DrawingMachineLaw"
def lw_P (b : Addr) (xs : List Int32) (args : Array Value) (s : State) : Prop := args = #[.ref b] ∧ s.IntsAt b xs ∧ xs.length ≤ 6 ∧ (Jvm.Cond.and given_1 narrow_1).before args s = true
def lw_Q (_ : Array Value) (s : State) (o : Outcome) (t : State) : Prop := o = .returned (some (.int 1)) ∧ Framed s o t [] 600002 7302232
def lw_Z (below : List Frame) (a : Array Value) (s : State) : State → Prop := fun t => ∃ o, t.status = .running ∧ Ended t below o ∧ lw_Q a s o t
/-- the law's own end, with 1 on the stack, nothing written that was there before, its room as the claim has it -/
theorem lw_ret {p : Program} {l : Launch} {e : Env} {s : State} {m : MethodId} {below : List Frame} {meth : Method} {c : Code} {b : Nat} (hx : p.tables.exec = Jvm.exec) (hb : c.code = code) (hr : meth.sig.returnType = ret) (hlocks : meth.locks = false) {pc : Nat} {H : Heap} {ls : Array Slot} (hdg : decode code pc = .ok (.ireturn, 1)) : W p l e room_1 s m #[Value.ref b] below meth c H [] 600002 7302232 (lw_Z below #[Value.ref b] s) (F0 m pc ls [.int 1]) := by
  intro T hT X
  obtain ⟨fs, hret, hrun, hended, hW, hframe⟩ := X.leave (v := some (.int 1)) (hlocks := hlocks) (fun h => by rw [hr] at h; cases h)
  have hmeth' : T.vm.method? m = some meth := X.method'
  refine ⟨T.setFrames fs, ?_, .returned (some (.int 1)), hrun, hended, rfl, ⟨_, rfl⟩, hW, hframe⟩
  jvm_step X.here [X.here.top, hx, hb, hdg, hmeth', hr, ret, narrow_b1]
  (try refine ⟨rfl, ?_⟩); (try refine ⟨rfl, ?_⟩)
  first | (intro acts; rw [hret _ acts rfl rfl rfl]) | rw [hret _ _ rfl rfl rfl]
  exact Steps.refl _
/-- what holds at the law's entry: the machine, the code, the tables' words (any of lw_tbl by 'hts w (by decide +kernel)'), the script of L ints xs at the cell b, what the Statement gives of the start (any of its parts by flat_of_before) -/
def lw_At (p : Program) (s : State) (m : MethodId) (meth : Method) (c : Code) (b L : Nat) (xs : Nat → Int32) : Prop :=
  p.tables.exec = Jvm.exec ∧ c.code = code ∧ meth.sig.returnType = ret ∧ c.maxLocals = 7 ∧ s.vm.findClass R_law = some m.cls ∧ (∀ w ∈ lw_tbl, w.before #[Value.ref b] s = true) ∧ va_X b L xs s s.heap ∧ b < s.heap.size ∧ meth.locks = false ∧ (Jvm.Cond.and given_1 narrow_1).before #[Value.ref b] s = true
abbrev stA (s : State) : Nat → Prop := fun q => s.heap.size ≤ q
theorem d_law_23 : decode code 23 = .ok (.iload 4, 2) := by decide +kernel
theorem d_law_25 : decode code 25 = .ok (.aload_n 0, 1) := by decide +kernel
theorem d_law_26 : decode code 26 = .ok (.arraylength, 1) := by decide +kernel
theorem d_law_27 : decode code 27 = .ok (.bipush 6, 2) := by decide +kernel
theorem d_law_29 : decode code 29 = .ok (.isub, 1) := by decide +kernel
theorem d_law_30 : decode code 30 = .ok (.if_icmp .gt 823, 3) := by decide +kernel
theorem d_law_847 : decode code 847 = .ok (.iinc 4 6, 3) := by decide +kernel
theorem d_law_850 : decode code 850 = .ok (.goto (-827), 3) := by decide +kernel
theorem d_law_853 : decode code 853 = .ok (.iconst 1, 1) := by decide +kernel
theorem d_law_854 : decode code 854 = .ok (.ireturn, 1) := by decide +kernel
theorem lw_tail {p : Program} {l : Launch} {e : Env} {s : State} {m : MethodId} {below : List Frame} {meth : Method} {c : Code} {b : Nat} {xs : Nat → Int32} {H : Heap} {locs : List Loc} {ls : Array Slot} (hx : p.tables.exec = Jvm.exec) (hb : c.code = code) (hr : meth.sig.returnType = ret) (hlocks : meth.locks = false) (hX : va_X b 6 xs s s.heap) (hbl : b < s.heap.size) (hbA : ¬ stA s b) (hS : va_S (stA s) s.heap H locs) (hl : lv_has ls 7 [(4, .int 0), (0, .ref b)]) : W p l e room_1 s m #[Value.ref b] below meth c H locs 600002 7302232 (lw_Z below #[Value.ref b] s) (F0 m 847 ls []) := by
  refine lv_iinc (v := 6) (lv' := [(4, .int 6), (0, .ref b)]) hx hb d_law_847 hl (k := 0) rfl (by decide) (by decide) rfl (fun ls hl => ?_)
  refine lv_goto (tgt := 23) hx hb d_law_850 (by decide) ?_
  refine lv_iload hx hb d_law_23 (lv_at hl 0 rfl) ?_
  refine lv_aload_n hx hb d_law_25 rfl (lv_at hl 1 rfl) ?_
  refine va_slen hx hb hX hbl hbA hS d_law_26 ?_
  refine wi_c (v := 6) (by decide) ?_
  refine lv_bipush (v := 6) hx hb d_law_27 (by decide) ?_
  refine lv_isub hx hb d_law_29 ?_
  refine wi_c (v := 0) (by decide) ?_
  refine lv_icmp_gt (tgt := 853) hx hb d_law_30 (by decide) (fun c_1907 => ?_) (fun c_1907 => absurd c_1907 (by decide))
  refine lv_iconst (v := 1) hx hb d_law_853 (by decide) ?_
  refine va_forget (fun q hq => hS.2.2 q hq) ?_
  refine W.widen (k := 600002) (n := 7302232) (by omega) (by omega) ?_
  exact lw_ret hx hb hr hlocks d_law_854
theorem lw_head_0 {p : Program} {l : Launch} {e : Env} {s : State} {m : MethodId} {below : List Frame} {meth : Method} {c : Code} {b : Nat} {xs : Nat → Int32} {H : Heap} {locs : List Loc} {ls : Array Slot} (hx : p.tables.exec = Jvm.exec) (hb : c.code = code) (hr : meth.sig.returnType = ret) (hlocks : meth.locks = false) (hX : va_X b 0 xs s s.heap) (hbl : b < s.heap.size) (hbA : ¬ stA s b) (hS : va_S (stA s) s.heap H locs) (hl : lv_has ls 7 [(4, .int 0), (0, .ref b)]) : W p l e room_1 s m #[Value.ref b] below meth c H locs 138 124625 (lw_Z below #[Value.ref b] s) (F0 m 23 ls []) := by
  refine lv_iload hx hb d_law_23 (lv_at hl 0 rfl) ?_
  refine lv_aload_n hx hb d_law_25 rfl (lv_at hl 1 rfl) ?_
  refine va_slen hx hb hX hbl hbA hS d_law_26 ?_
  refine wi_c (v := 0) (by decide) ?_
  refine lv_bipush (v := 6) hx hb d_law_27 (by decide) ?_
  refine lv_isub hx hb d_law_29 ?_
  refine wi_c (v := (-6)) (by decide) ?_
  refine lv_icmp_gt (tgt := 853) hx hb d_law_30 (by decide) (fun c_1908 => ?_) (fun c_1908 => absurd c_1908 (by decide))
  refine lv_iconst (v := 1) hx hb d_law_853 (by decide) ?_
  refine va_forget (fun q hq => hS.2.2 q hq) ?_
  refine W.widen (k := 600002) (n := 7302232) (by omega) (by omega) ?_
  exact lw_ret hx hb hr hlocks d_law_854
theorem lw_head_1 {p : Program} {l : Launch} {e : Env} {s : State} {m : MethodId} {below : List Frame} {meth : Method} {c : Code} {b : Nat} {xs : Nat → Int32} {H : Heap} {locs : List Loc} {ls : Array Slot} (hx : p.tables.exec = Jvm.exec) (hb : c.code = code) (hr : meth.sig.returnType = ret) (hlocks : meth.locks = false) (hX : va_X b 1 xs s s.heap) (hbl : b < s.heap.size) (hbA : ¬ stA s b) (hS : va_S (stA s) s.heap H locs) (hl : lv_has ls 7 [(4, .int 0), (0, .ref b)]) : W p l e room_1 s m #[Value.ref b] below meth c H locs 138 124625 (lw_Z below #[Value.ref b] s) (F0 m 23 ls []) := by
  refine lv_iload hx hb d_law_23 (lv_at hl 0 rfl) ?_
  refine lv_aload_n hx hb d_law_25 rfl (lv_at hl 1 rfl) ?_
  refine va_slen hx hb hX hbl hbA hS d_law_26 ?_
  refine wi_c (v := 1) (by decide) ?_
  refine lv_bipush (v := 6) hx hb d_law_27 (by decide) ?_
  refine lv_isub hx hb d_law_29 ?_
  refine wi_c (v := (-5)) (by decide) ?_
  refine lv_icmp_gt (tgt := 853) hx hb d_law_30 (by decide) (fun c_1909 => ?_) (fun c_1909 => absurd c_1909 (by decide))
  refine lv_iconst (v := 1) hx hb d_law_853 (by decide) ?_
  refine va_forget (fun q hq => hS.2.2 q hq) ?_
  refine W.widen (k := 600002) (n := 7302232) (by omega) (by omega) ?_
  exact lw_ret hx hb hr hlocks d_law_854
theorem lw_head_2 {p : Program} {l : Launch} {e : Env} {s : State} {m : MethodId} {below : List Frame} {meth : Method} {c : Code} {b : Nat} {xs : Nat → Int32} {H : Heap} {locs : List Loc} {ls : Array Slot} (hx : p.tables.exec = Jvm.exec) (hb : c.code = code) (hr : meth.sig.returnType = ret) (hlocks : meth.locks = false) (hX : va_X b 2 xs s s.heap) (hbl : b < s.heap.size) (hbA : ¬ stA s b) (hS : va_S (stA s) s.heap H locs) (hl : lv_has ls 7 [(4, .int 0), (0, .ref b)]) : W p l e room_1 s m #[Value.ref b] below meth c H locs 138 124625 (lw_Z below #[Value.ref b] s) (F0 m 23 ls []) := by
  refine lv_iload hx hb d_law_23 (lv_at hl 0 rfl) ?_
  refine lv_aload_n hx hb d_law_25 rfl (lv_at hl 1 rfl) ?_
  refine va_slen hx hb hX hbl hbA hS d_law_26 ?_
  refine wi_c (v := 2) (by decide) ?_
  refine lv_bipush (v := 6) hx hb d_law_27 (by decide) ?_
  refine lv_isub hx hb d_law_29 ?_
  refine wi_c (v := (-4)) (by decide) ?_
  refine lv_icmp_gt (tgt := 853) hx hb d_law_30 (by decide) (fun c_1910 => ?_) (fun c_1910 => absurd c_1910 (by decide))
  refine lv_iconst (v := 1) hx hb d_law_853 (by decide) ?_
  refine va_forget (fun q hq => hS.2.2 q hq) ?_
  refine W.widen (k := 600002) (n := 7302232) (by omega) (by omega) ?_
  exact lw_ret hx hb hr hlocks d_law_854
theorem lw_head_3 {p : Program} {l : Launch} {e : Env} {s : State} {m : MethodId} {below : List Frame} {meth : Method} {c : Code} {b : Nat} {xs : Nat → Int32} {H : Heap} {locs : List Loc} {ls : Array Slot} (hx : p.tables.exec = Jvm.exec) (hb : c.code = code) (hr : meth.sig.returnType = ret) (hlocks : meth.locks = false) (hX : va_X b 3 xs s s.heap) (hbl : b < s.heap.size) (hbA : ¬ stA s b) (hS : va_S (stA s) s.heap H locs) (hl : lv_has ls 7 [(4, .int 0), (0, .ref b)]) : W p l e room_1 s m #[Value.ref b] below meth c H locs 138 124625 (lw_Z below #[Value.ref b] s) (F0 m 23 ls []) := by
  refine lv_iload hx hb d_law_23 (lv_at hl 0 rfl) ?_
  refine lv_aload_n hx hb d_law_25 rfl (lv_at hl 1 rfl) ?_
  refine va_slen hx hb hX hbl hbA hS d_law_26 ?_
  refine wi_c (v := 3) (by decide) ?_
  refine lv_bipush (v := 6) hx hb d_law_27 (by decide) ?_
  refine lv_isub hx hb d_law_29 ?_
  refine wi_c (v := (-3)) (by decide) ?_
  refine lv_icmp_gt (tgt := 853) hx hb d_law_30 (by decide) (fun c_1911 => ?_) (fun c_1911 => absurd c_1911 (by decide))
  refine lv_iconst (v := 1) hx hb d_law_853 (by decide) ?_
  refine va_forget (fun q hq => hS.2.2 q hq) ?_
  refine W.widen (k := 600002) (n := 7302232) (by omega) (by omega) ?_
  exact lw_ret hx hb hr hlocks d_law_854
theorem lw_head_4 {p : Program} {l : Launch} {e : Env} {s : State} {m : MethodId} {below : List Frame} {meth : Method} {c : Code} {b : Nat} {xs : Nat → Int32} {H : Heap} {locs : List Loc} {ls : Array Slot} (hx : p.tables.exec = Jvm.exec) (hb : c.code = code) (hr : meth.sig.returnType = ret) (hlocks : meth.locks = false) (hX : va_X b 4 xs s s.heap) (hbl : b < s.heap.size) (hbA : ¬ stA s b) (hS : va_S (stA s) s.heap H locs) (hl : lv_has ls 7 [(4, .int 0), (0, .ref b)]) : W p l e room_1 s m #[Value.ref b] below meth c H locs 138 124625 (lw_Z below #[Value.ref b] s) (F0 m 23 ls []) := by
  refine lv_iload hx hb d_law_23 (lv_at hl 0 rfl) ?_
  refine lv_aload_n hx hb d_law_25 rfl (lv_at hl 1 rfl) ?_
  refine va_slen hx hb hX hbl hbA hS d_law_26 ?_
  refine wi_c (v := 4) (by decide) ?_
  refine lv_bipush (v := 6) hx hb d_law_27 (by decide) ?_
  refine lv_isub hx hb d_law_29 ?_
  refine wi_c (v := (-2)) (by decide) ?_
  refine lv_icmp_gt (tgt := 853) hx hb d_law_30 (by decide) (fun c_1912 => ?_) (fun c_1912 => absurd c_1912 (by decide))
  refine lv_iconst (v := 1) hx hb d_law_853 (by decide) ?_
  refine va_forget (fun q hq => hS.2.2 q hq) ?_
  refine W.widen (k := 600002) (n := 7302232) (by omega) (by omega) ?_
  exact lw_ret hx hb hr hlocks d_law_854
theorem lw_head_5 {p : Program} {l : Launch} {e : Env} {s : State} {m : MethodId} {below : List Frame} {meth : Method} {c : Code} {b : Nat} {xs : Nat → Int32} {H : Heap} {locs : List Loc} {ls : Array Slot} (hx : p.tables.exec = Jvm.exec) (hb : c.code = code) (hr : meth.sig.returnType = ret) (hlocks : meth.locks = false) (hX : va_X b 5 xs s s.heap) (hbl : b < s.heap.size) (hbA : ¬ stA s b) (hS : va_S (stA s) s.heap H locs) (hl : lv_has ls 7 [(4, .int 0), (0, .ref b)]) : W p l e room_1 s m #[Value.ref b] below meth c H locs 138 124625 (lw_Z below #[Value.ref b] s) (F0 m 23 ls []) := by
  refine lv_iload hx hb d_law_23 (lv_at hl 0 rfl) ?_
  refine lv_aload_n hx hb d_law_25 rfl (lv_at hl 1 rfl) ?_
  refine va_slen hx hb hX hbl hbA hS d_law_26 ?_
  refine wi_c (v := 5) (by decide) ?_
  refine lv_bipush (v := 6) hx hb d_law_27 (by decide) ?_
  refine lv_isub hx hb d_law_29 ?_
  refine wi_c (v := (-1)) (by decide) ?_
  refine lv_icmp_gt (tgt := 853) hx hb d_law_30 (by decide) (fun c_1913 => ?_) (fun c_1913 => absurd c_1913 (by decide))
  refine lv_iconst (v := 1) hx hb d_law_853 (by decide) ?_
  refine va_forget (fun q hq => hS.2.2 q hq) ?_
  refine W.widen (k := 600002) (n := 7302232) (by omega) (by omega) ?_
  exact lw_ret hx hb hr hlocks d_law_854
theorem d_law_33 : decode code 33 = .ok (.aload_n 0, 1) := by decide +kernel
theorem d_law_34 : decode code 34 = .ok (.iload 4, 2) := by decide +kernel
theorem d_law_36 : decode code 36 = .ok (.iaload, 1) := by decide +kernel
theorem d_law_37 : decode code 37 = .ok (.bipush 15, 2) := by decide +kernel
theorem d_law_39 : decode code 39 = .ok (.iand, 1) := by decide +kernel
theorem d_law_40 : decode code 40 = .ok (.tableswitch 807 0 11 #[64, 144, 212, 268, 372, 408, 447, 503, 559, 639, 695, 751], 64) := by decide +kernel
set_option maxHeartbeats 4000000 in
set_option maxRecDepth 100000 in
theorem lw_go {p : Program} {l : Launch} {e : Env} {s : State} {m : MethodId} {below : List Frame} {meth : Method} {c : Code} {b : Nat} {xs : Nat → Int32} {H : Heap} {locs : List Loc} {ls : Array Slot} (hx : p.tables.exec = Jvm.exec) (hb : c.code = code) (hr : meth.sig.returnType = ret) (hlocks : meth.locks = false) (hfl : l.stackTraces = false) (D : va_G) (cI cL : ClassId) (hml : c.maxLocals = 7) (hown : s.vm.findClass "DrawingMachineLaw" = some m.cls) (htw : ∀ w ∈ tw, w.before #[Value.ref b] s = true) (hC : wC D cI cL s.heap.size (stA s) s) (hX : va_X b 6 xs s s.heap) (hbl : b < s.heap.size) (hbA : ¬ stA s b) (dm : Nat) (md : Nat) (ou : Nat) (q83 : Nat) (q84 : Nat) (z87 : Nat) (z88 : Nat → Int32) (q89 : Nat) (z92 : Nat) (z93 : Nat) (z94 : Nat) (q95 : Nat) (z98 : Nat) (z99 : Nat) (z100 : Nat) (q101 : Nat) (z104 : Nat) (z105 : Nat) (z106 : Nat) (q107 : Nat) (z110 : Nat) (z111 : Nat) (z112 : Nat) (z113 : Nat) (z114 : Nat) (z115 : Nat) (q116 : Nat) (z119 : Nat) (q120 : Nat) (z123 : Nat) (q124 : Nat) (q562 : Nat) (z565 : Nat) (z566 : Nat) (z567 : Nat) (z568 : Nat) (z569 : Nat) (z570 : Nat → Int32) (q571 : Nat) (q574 : Nat) (q577 : Nat) (q580 : Nat) (q583 : Nat) (q586 : Nat) (z589 : Nat) (z590 : Nat) (z591 : Nat) (z592 : Nat) (z593 : Nat) (z594 : Nat) (z595 : Nat) (z596 : Nat) (z597 : Nat) (z598 : Nat) (q599 : Nat) (q600 : Nat) (q601 : Nat) (q602 : Nat) (hP : va_P D classes [(dm, .inr (0, [.ref q83, .ref q84, .ref q89, .ref q95, .ref q101, .ref q107, .ref q116, .ref q120, .ref q124])), (q83, .inl (cI, 4096, .inl (fun _ => 0))), (q84, .inr (1, [.ref z87])), (z87, .inl (cI, 245, .inl z88)), (q89, .inr (2, [.int 1, .int 1, .ref z92, .ref z93, .ref z94, .ref q84, .ref z87])), (z92, .inl (cI, 1, .inl (fun _ => 0))), (z93, .inl (cI, 1, .inl (fun _ => 0))), (z94, .inl (cI, 1, .inl (fun _ => 0))), (q95, .inr (3, [.ref z98, .int 0, .int 0, .int 0, .int 0, .int 0, .int (-1), .int (-1), .int 0, .long 0, .ref q83, .ref z99, .ref z100, .int 0, .int 0])), (z98, .inl (cI, 8, .inl (fun _ => 0))), (z100, .inl (cI, 64, .inl (fun _ => 0))), (q101, .inr (4, [.int 0, .int (-1), .ref z104, .ref z105, .ref z106, .int 0, .long 0])), (q107, .inr (5, [.ref z110, .ref z111, .int (-1), .ref z87, .ref q89, .ref z112, .ref z113, .ref z114, .ref z115])), (z110, .inl (cI, 9, .inl (fun _ => 0))), (z111, .inl (cI, 8, .inl (fun _ => 0))), (q116, .inr (11, [.ref z119, .int 0, .int 0, .int 0])), (q120, .inr (11, [.ref z123, .int 0, .int 0, .int 0])), (md, .inr (12, [.int 0, .int 1, .int 1, .ref q562, .ref q571, .ref q574, .ref q577, .ref q580, .ref q583, .ref q586, .int 0, .int (-1), .int 0, .int 0, .long 0, .ref q599, .ref q600, .ref q601, .ref q602])), (q562, .inr (13, [.int 0, .ref z565, .int 1, .int 1, .ref z566, .int 0, .int 0, .int 0, .ref z567, .int 0, .int 0, .int (-1), .int (-1), .int 0, .int (-1), .int 0, .ref z568, .ref z569])), (z565, .inl (cI, 4096, .inl (fun _ => 0))), (z566, .inl (cI, 4096, .inl (fun _ => 0))), (z569, .inl (cI, 4160, .inl z570)), (q586, .inr (18, [.int 0, .int 0, .int 0, .int 1, .int 1, .ref z589, .ref z590, .ref z591, .int 0, .ref z592, .int (-1), .int 0, .ref z593, .ref z594, .int (-1), .int 0, .ref z595, .int (-1), .int 15, .ref z596, .ref z597, .ref z598])), (z589, .inl (cI, 65536, .inl (fun _ => 0))), (z590, .inl (cI, 16384, .inl (fun _ => 0))), (z591, .inl (cI, 16384, .inl (fun _ => 0))), (q599, .inl (cI, 8, .inl (fun _ => 0))), (q600, .inl (cI, 9, .inl (fun _ => 0))), (q601, .inl (cI, 4, .inl (fun _ => 0))), (ou, .inl (cL, 1, .inr (.inl (fun _ => 0))))] H) (hD : va_D (stA s) [(dm, .inr (0, [.ref q83, .ref q84, .ref q89, .ref q95, .ref q101, .ref q107, .ref q116, .ref q120, .ref q124])), (q83, .inl (cI, 4096, .inl (fun _ => 0))), (q84, .inr (1, [.ref z87])), (z87, .inl (cI, 245, .inl z88)), (q89, .inr (2, [.int 1, .int 1, .ref z92, .ref z93, .ref z94, .ref q84, .ref z87])), (z92, .inl (cI, 1, .inl (fun _ => 0))), (z93, .inl (cI, 1, .inl (fun _ => 0))), (z94, .inl (cI, 1, .inl (fun _ => 0))), (q95, .inr (3, [.ref z98, .int 0, .int 0, .int 0, .int 0, .int 0, .int (-1), .int (-1), .int 0, .long 0, .ref q83, .ref z99, .ref z100, .int 0, .int 0])), (z98, .inl (cI, 8, .inl (fun _ => 0))), (z100, .inl (cI, 64, .inl (fun _ => 0))), (q101, .inr (4, [.int 0, .int (-1), .ref z104, .ref z105, .ref z106, .int 0, .long 0])), (q107, .inr (5, [.ref z110, .ref z111, .int (-1), .ref z87, .ref q89, .ref z112, .ref z113, .ref z114, .ref z115])), (z110, .inl (cI, 9, .inl (fun _ => 0))), (z111, .inl (cI, 8, .inl (fun _ => 0))), (q116, .inr (11, [.ref z119, .int 0, .int 0, .int 0])), (q120, .inr (11, [.ref z123, .int 0, .int 0, .int 0])), (md, .inr (12, [.int 0, .int 1, .int 1, .ref q562, .ref q571, .ref q574, .ref q577, .ref q580, .ref q583, .ref q586, .int 0, .int (-1), .int 0, .int 0, .long 0, .ref q599, .ref q600, .ref q601, .ref q602])), (q562, .inr (13, [.int 0, .ref z565, .int 1, .int 1, .ref z566, .int 0, .int 0, .int 0, .ref z567, .int 0, .int 0, .int (-1), .int (-1), .int 0, .int (-1), .int 0, .ref z568, .ref z569])), (z565, .inl (cI, 4096, .inl (fun _ => 0))), (z566, .inl (cI, 4096, .inl (fun _ => 0))), (z569, .inl (cI, 4160, .inl z570)), (q586, .inr (18, [.int 0, .int 0, .int 0, .int 1, .int 1, .ref z589, .ref z590, .ref z591, .int 0, .ref z592, .int (-1), .int 0, .ref z593, .ref z594, .int (-1), .int 0, .ref z595, .int (-1), .int 15, .ref z596, .ref z597, .ref z598])), (z589, .inl (cI, 65536, .inl (fun _ => 0))), (z590, .inl (cI, 16384, .inl (fun _ => 0))), (z591, .inl (cI, 16384, .inl (fun _ => 0))), (q599, .inl (cI, 8, .inl (fun _ => 0))), (q600, .inl (cI, 9, .inl (fun _ => 0))), (q601, .inl (cI, 4, .inl (fun _ => 0))), (ou, .inl (cL, 1, .inr (.inl (fun _ => 0))))]) (hS : va_S (stA s) s.heap H locs) (hl : lv_has ls 7 [(4, .int 0), (3, .ref ou), (2, .ref md), (1, .ref dm), (0, .ref b)]) : W p l e room_1 s m #[Value.ref b] below meth c H locs 138 124625 (lw_Z below #[Value.ref b] s) (F0 m 23 ls []) := by
  refine lv_iload hx hb d_law_23 (lv_at hl 0 rfl) ?_
  refine lv_aload_n hx hb d_law_25 rfl (lv_at hl 4 rfl) ?_
  refine va_slen hx hb hX hbl hbA hS d_law_26 ?_
  refine wi_c (v := 6) (by decide) ?_
  refine lv_bipush (v := 6) hx hb d_law_27 (by decide) ?_
  refine lv_isub hx hb d_law_29 ?_
  refine wi_c (v := 0) (by decide) ?_
  refine lv_icmp_gt (tgt := 853) hx hb d_law_30 (by decide) (fun c_1914 => absurd c_1914 (by decide)) (fun c_1914 => ?_)
  refine lv_aload_n hx hb d_law_33 rfl (lv_at hl 4 rfl) ?_
  refine lv_iload hx hb d_law_34 (lv_at hl 0 rfl) ?_
  refine va_sld hx hb hX hbl hbA hS (by unfold vp_in; decide) d_law_36 ?_
  refine wi_c (v := (xs 0)) (rfl) ?_
  refine lv_bipush (v := 15) hx hb d_law_37 (by decide) ?_
  refine lv_iand hx hb d_law_39 ?_
  obtain ⟨jj, hj, hje⟩ := pk_andE (xs 0) (m := 15) 4 (by decide)
  have hj : jj < 16 := hj
  refine wi_c (v := nI jj) hje ?_
  have kk : ∀ (H : Heap) (locs : List Loc) (ls : Array Slot), va_S (stA s) s.heap H locs → lv_has ls 7 [(4, .int 0), (0, .ref b)] → W p l e room_1 s m #[Value.ref b] below meth c H locs 600002 7302232 (lw_Z below #[Value.ref b] s) (F0 m 847 ls []) := fun H locs ls hS hl => lw_tail hx hb hr hlocks hX hbl hbA hS hl
  rcases (show jj = 0 ∨ jj = 1 ∨ jj = 2 ∨ jj = 3 ∨ jj = 4 ∨ jj = 5 ∨ jj = 6 ∨ jj = 7 ∨ jj = 8 ∨ jj = 9 ∨ jj = 10 ∨ jj = 11 ∨ jj = 12 ∨ jj = 13 ∨ jj = 14 ∨ jj = 15 by omega) with rfl | rfl | rfl | rfl | rfl | rfl | rfl | rfl | rfl | rfl | rfl | rfl | rfl | rfl | rfl | rfl
  · refine wi_c (v := 0) (by decide) ?_
    refine lv_tableIn (off := 64) (tgt := 104) hx hb d_law_40 (by decide) (by decide) (by decide) (by decide) ?_
    exact lk_frame hfl D cI cL _ hx hb hml hown htw hC hX hbl hbA dm md ou q83 q84 z87 z88 q89 z92 z93 z94 q95 z98 z99 z100 q101 z104 z105 z106 q107 z110 z111 z112 z113 z114 z115 q116 z119 q120 z123 q124 q562 z565 z566 z567 z568 z569 z570 q571 q574 q577 q580 q583 q586 z589 z590 z591 z592 z593 z594 z595 z596 z597 z598 q599 q600 q601 q602 kk hP hD hS (lv_sub hl [0, 1, 2, 3, 4] rfl)
  · refine wi_c (v := 1) (by decide) ?_
    refine lv_tableIn (off := 144) (tgt := 184) hx hb d_law_40 (by decide) (by decide) (by decide) (by decide) ?_
    exact lk_word hfl D cI cL _ hx hb hml hown htw hC hX hbl hbA dm md ou q83 q84 z87 z88 q89 z92 z93 z94 q95 z98 z99 z100 q101 z104 z105 z106 q107 z110 z111 z112 z113 z114 z115 q116 z119 q120 z123 q124 q562 z565 z566 z567 z568 z569 z570 q571 q574 q577 q580 q583 q586 z589 z590 z591 z592 z593 z594 z595 z596 z597 z598 q599 q600 q601 q602 kk hP hD hS (lv_sub hl [0, 1, 2, 3, 4] rfl)
  · refine wi_c (v := 2) (by decide) ?_
    refine lv_tableIn (off := 212) (tgt := 252) hx hb d_law_40 (by decide) (by decide) (by decide) (by decide) ?_
    exact lk_look hfl D cI cL _ hx hb hml hown htw hC hX hbl hbA dm md ou q83 q84 z87 z88 q89 z92 z93 z94 q95 z98 z99 z100 q101 z104 z105 z106 q107 z110 z111 z112 z113 z114 z115 q116 z119 q120 z123 q124 q562 z565 z566 z567 z568 z569 z570 q571 q574 q577 q580 q583 q586 z589 z590 z591 z592 z593 z594 z595 z596 z597 z598 q599 q600 q601 q602 kk hP hD hS (lv_sub hl [0, 1, 2, 3, 4] rfl)
  · refine wi_c (v := 3) (by decide) ?_
    refine lv_tableIn (off := 268) (tgt := 308) hx hb d_law_40 (by decide) (by decide) (by decide) (by decide) ?_
    exact lk_feed hfl D cI cL _ hx hb hml hown htw hC hX hbl hbA dm md ou q83 q84 z87 z88 q89 z92 z93 z94 q95 z98 z99 z100 q101 z104 z105 z106 q107 z110 z111 z112 z113 z114 z115 q116 z119 q120 z123 q124 q562 z565 z566 z567 z568 z569 z570 q571 q574 q577 q580 q583 q586 z589 z590 z591 z592 z593 z594 z595 z596 z597 z598 q599 q600 q601 q602 kk hP hD hS (lv_sub hl [0, 1, 2, 3, 4] rfl)
  · refine wi_c (v := 4) (by decide) ?_
    refine lv_tableIn (off := 372) (tgt := 412) hx hb d_law_40 (by decide) (by decide) (by decide) (by decide) ?_
    exact lk_end hfl D cI cL _ hx hb hml hown htw hC hX hbl hbA dm md ou q83 q84 z87 z88 q89 z92 z93 z94 q95 z98 z99 z100 q101 z104 z105 z106 q107 z110 z111 z112 z113 z114 z115 q116 z119 q120 z123 q124 q562 z565 z566 z567 z568 z569 z570 q571 q574 q577 q580 q583 q586 z589 z590 z591 z592 z593 z594 z595 z596 z597 z598 q599 q600 q601 q602 kk hP hD hS (lv_sub hl [0, 1, 2, 3, 4] rfl)
  · refine wi_c (v := 5) (by decide) ?_
    refine lv_tableIn (off := 408) (tgt := 448) hx hb d_law_40 (by decide) (by decide) (by decide) (by decide) ?_
    exact lk_begin hfl D cI cL _ hx hb hml hown htw hC hX hbl hbA dm md ou q83 q84 z87 z88 q89 z92 z93 z94 q95 z98 z99 z100 q101 z104 z105 z106 q107 z110 z111 z112 z113 z114 z115 q116 z119 q120 z123 q124 q562 z565 z566 z567 z568 z569 z570 q571 q574 q577 q580 q583 q586 z589 z590 z591 z592 z593 z594 z595 z596 z597 z598 q599 q600 q601 q602 kk hP hD hS (lv_sub hl [0, 1, 2, 3, 4] rfl)
  · refine wi_c (v := 6) (by decide) ?_
    refine lv_tableIn (off := 447) (tgt := 487) hx hb d_law_40 (by decide) (by decide) (by decide) (by decide) ?_
    exact lk_run hfl D cI cL _ hx hb hml hown htw hC hX hbl hbA dm md ou q83 q84 z87 z88 q89 z92 z93 z94 q95 z98 z99 z100 q101 z104 z105 z106 q107 z110 z111 z112 z113 z114 z115 q116 z119 q120 z123 q124 q562 z565 z566 z567 z568 z569 z570 q571 q574 q577 q580 q583 q586 z589 z590 z591 z592 z593 z594 z595 z596 z597 z598 q599 q600 q601 q602 kk hP hD hS (lv_sub hl [0, 1, 2, 3, 4] rfl)
  · refine wi_c (v := 7) (by decide) ?_
    refine lv_tableIn (off := 503) (tgt := 543) hx hb d_law_40 (by decide) (by decide) (by decide) (by decide) ?_
    exact lk_about hfl D cI cL _ hx hb hml hown htw hC hX hbl hbA dm md ou q83 q84 z87 z88 q89 z92 z93 z94 q95 z98 z99 z100 q101 z104 z105 z106 q107 z110 z111 z112 z113 z114 z115 q116 z119 q120 z123 q124 q562 z565 z566 z567 z568 z569 z570 q571 q574 q577 q580 q583 q586 z589 z590 z591 z592 z593 z594 z595 z596 z597 z598 q599 q600 q601 q602 kk hP hD hS (lv_sub hl [0, 1, 2, 3, 4] rfl)
  · refine wi_c (v := 8) (by decide) ?_
    refine lv_tableIn (off := 559) (tgt := 599) hx hb d_law_40 (by decide) (by decide) (by decide) (by decide) ?_
    exact lk_at hfl D cI cL _ hx hb hml hown htw hC hX hbl hbA dm md ou q83 q84 z87 z88 q89 z92 z93 z94 q95 z98 z99 z100 q101 z104 z105 z106 q107 z110 z111 z112 z113 z114 z115 q116 z119 q120 z123 q124 q562 z565 z566 z567 z568 z569 z570 q571 q574 q577 q580 q583 q586 z589 z590 z591 z592 z593 z594 z595 z596 z597 z598 q599 q600 q601 q602 kk hP hD hS (lv_sub hl [0, 1, 2, 3, 4] rfl)
  · refine wi_c (v := 9) (by decide) ?_
    refine lv_tableIn (off := 639) (tgt := 679) hx hb d_law_40 (by decide) (by decide) (by decide) (by decide) ?_
    exact lk_sum hfl D cI cL _ hx hb hml hown htw hC hX hbl hbA dm md ou q83 q84 z87 z88 q89 z92 z93 z94 q95 z98 z99 z100 q101 z104 z105 z106 q107 z110 z111 z112 z113 z114 z115 q116 z119 q120 z123 q124 q562 z565 z566 z567 z568 z569 z570 q571 q574 q577 q580 q583 q586 z589 z590 z591 z592 z593 z594 z595 z596 z597 z598 q599 q600 q601 q602 kk hP hD hS (lv_sub hl [0, 1, 2, 3, 4] rfl)
  · refine wi_c (v := 10) (by decide) ?_
    refine lv_tableIn (off := 695) (tgt := 735) hx hb d_law_40 (by decide) (by decide) (by decide) (by decide) ?_
    exact lk_query hfl D cI cL _ hx hb hml hown htw hC hX hbl hbA dm md ou q83 q84 z87 z88 q89 z92 z93 z94 q95 z98 z99 z100 q101 z104 z105 z106 q107 z110 z111 z112 z113 z114 z115 q116 z119 q120 z123 q124 q562 z565 z566 z567 z568 z569 z570 q571 q574 q577 q580 q583 q586 z589 z590 z591 z592 z593 z594 z595 z596 z597 z598 q599 q600 q601 q602 kk hP hD hS (lv_sub hl [0, 1, 2, 3, 4] rfl)
  · refine wi_c (v := 11) (by decide) ?_
    refine lv_tableIn (off := 751) (tgt := 791) hx hb d_law_40 (by decide) (by decide) (by decide) (by decide) ?_
    exact lk_count hfl D cI cL _ hx hb hml hown htw hC hX hbl hbA dm md ou q83 q84 z87 z88 q89 z92 z93 z94 q95 z98 z99 z100 q101 z104 z105 z106 q107 z110 z111 z112 z113 z114 z115 q116 z119 q120 z123 q124 q562 z565 z566 z567 z568 z569 z570 q571 q574 q577 q580 q583 q586 z589 z590 z591 z592 z593 z594 z595 z596 z597 z598 q599 q600 q601 q602 kk hP hD hS (lv_sub hl [0, 1, 2, 3, 4] rfl)
  · refine wi_c (v := 12) (by decide) ?_
    refine lv_tableOut (tgt := 847) hx hb d_law_40 (by decide) (by decide) ?_
    refine W.widen (k := 600002) (n := 7302232) (by omega) (by omega) ?_
    exact kk _ _ _ hS (lv_sub hl [0, 4] rfl)
  · refine wi_c (v := 13) (by decide) ?_
    refine lv_tableOut (tgt := 847) hx hb d_law_40 (by decide) (by decide) ?_
    refine W.widen (k := 600002) (n := 7302232) (by omega) (by omega) ?_
    exact kk _ _ _ hS (lv_sub hl [0, 4] rfl)
  · refine wi_c (v := 14) (by decide) ?_
    refine lv_tableOut (tgt := 847) hx hb d_law_40 (by decide) (by decide) ?_
    refine W.widen (k := 600002) (n := 7302232) (by omega) (by omega) ?_
    exact kk _ _ _ hS (lv_sub hl [0, 4] rfl)
  · refine wi_c (v := 15) (by decide) ?_
    refine lv_tableOut (tgt := 847) hx hb d_law_40 (by decide) (by decide) ?_
    refine W.widen (k := 600002) (n := 7302232) (by omega) (by omega) ?_
    exact kk _ _ _ hS (lv_sub hl [0, 4] rfl)
theorem d_law_0 : decode code 0 = .ok (.new 8, 3) := by decide +kernel
theorem d_law_3 : decode code 3 = .ok (.dup, 1) := by decide +kernel
theorem d_law_4 : decode code 4 = .ok (.invokespecial 55, 3) := by decide +kernel
theorem d_law_7 : decode code 7 = .ok (.astore_n 1, 1) := by decide +kernel
theorem d_law_8 : decode code 8 = .ok (.new 56, 3) := by decide +kernel
theorem d_law_11 : decode code 11 = .ok (.dup, 1) := by decide +kernel
theorem d_law_12 : decode code 12 = .ok (.invokespecial 58, 3) := by decide +kernel
theorem d_law_15 : decode code 15 = .ok (.astore_n 2, 1) := by decide +kernel
theorem d_law_16 : decode code 16 = .ok (.iconst 1, 1) := by decide +kernel
theorem d_law_17 : decode code 17 = .ok (.newarray .long, 2) := by decide +kernel
theorem d_law_19 : decode code 19 = .ok (.astore_n 3, 1) := by decide +kernel
theorem d_law_20 : decode code 20 = .ok (.iconst 0, 1) := by decide +kernel
theorem d_law_21 : decode code 21 = .ok (.istore 4, 2) := by decide +kernel
set_option maxHeartbeats 4000000 in
set_option maxRecDepth 100000 in
theorem whole_start {p : Program} {e : Env} {s : State} {m : MethodId} {below : List Frame} {meth : Method} {c : Code} (l : Launch) (hfl : l.stackTraces = false) {b L : Nat} {xs : Nat → Int32} (hL : L ≤ 6) (C0 : lw_At p s m meth c b L xs) : W p l e room_1 s m #[Value.ref b] below meth c s.heap [] 0 0 (lw_Z below #[Value.ref b] s) (entryFrame m ([Value.ref b] : List Value).toArray 7) := by
  obtain ⟨hx, hb, hr, hml, hown, hts, hX, hbl, hlocks, hg⟩ := C0
  have hown : s.vm.findClass "DrawingMachineLaw" = some m.cls := hown
  have htw : ∀ w ∈ tw, w.before #[Value.ref b] s = true := fun w hw => hts w (tw_tbl w hw)
  obtain ⟨D, cI, cL, hC⟩ := st_C hts hg
  have hC : wC D cI cL s.heap.size (stA s) s := hC
  have hbA : ¬ stA s b := Nat.not_le.mpr hbl
  generalize hAe : stA s = A at hC hbA
  generalize hBe : s.heap.size = B at hC
  have hP : va_P D classes [] s.heap := fun k q hq => by simp at hq
  have hD : va_D A [] := ⟨fun i j p q hp => by simp at hp, fun k q hq => by simp at hq⟩
  have hS : va_S A s.heap s.heap [] := va_S.rf
  have hl := lv_entry ([Value.ref b]) (n := 7) (Nat.le_of_ble_eq_true rfl)
  rw [lg_entry_eq]
  generalize (lg_sl ([Value.ref b]) ++ List.replicate (7 - (lg_sl ([Value.ref b])).length) Slot.unset).toArray = ls at hl ⊢
  have hl : lv_has ls 7 [(0, .ref b)] := hl
  refine va_new (ci := 0) (fs := [.null, .null, .null, .null, .null, .null, .null, .null, .null]) (C := R_DM) (T := F_DM) (N := 9) hx hb htw i_DM t_DM t_DM_ok hown (htw _ k813) (htw _ k1) (htw _ k0) hC.1 hP hD hS hC.2.2.2.1 rfl (fun j hj => by rcases (show j = 0 ∨ j = 1 ∨ j = 2 ∨ j = 3 ∨ j = 4 ∨ j = 5 ∨ j = 6 ∨ j = 7 ∨ j = 8 by omega) with rfl | rfl | rfl | rfl | rfl | rfl | rfl | rfl | rfl <;> rfl) (Nat.le_of_ble_eq_true rfl) (Nat.le_of_ble_eq_true rfl) d_law_0 (fun q1915 H hP hD hS => ?_)
  have hP : va_P D classes [(q1915, .inr (0, [.null, .null, .null, .null, .null, .null, .null, .null, .null]))] H := hP
  have hD : va_D A [(q1915, .inr (0, [.null, .null, .null, .null, .null, .null, .null, .null, .null]))] := hD
  refine W.widen (k := 1) (n := 9) (by omega) (by omega) ?_
  refine lv_dup hx hb d_law_3 rfl ?_
  refine wc_v (wr := []) hC hP hD hS [0] [] rfl rfl (by decide) (by decide) (va_runI (As := []) (rest := [.ref q1915]) ⟨hx, hb, hml, hown, htw⟩ (c_DM_init l D cI cL B _ q1915) (cwI 0 htw (tw_good (fun _ h => h) k240) rfl rfl rfl (htw _ k0) (htw _ k814) (htw _ k815) rfl (by decide +kernel) ⟨Nat.le_of_ble_eq_true rfl, Nat.le_of_ble_eq_true rfl⟩) (wC_pre hC hP hD hS [0] (by decide) rfl) rfl rfl hl.1 rfl (lv_room (Nat.le_of_ble_eq_true rfl)) d_law_4 ⟨Nat.le_of_ble_eq_true rfl, Nat.le_of_ble_eq_true rfl⟩) (fun u1916 H locs hw1917 hP hD hS => ?_)
  obtain ⟨z1918, z1919, z1920, z1921, z1922, z1923, z1924, z1925, z1926, z1927, z1928, z1929, z1930, z1931, z1932, z1933, z1934, z1935, z1936, z1937, z1938, z1939, z1940, z1941, z1942, z1943, z1944, z1945⟩ := u1916
  have hP : va_P D classes [(q1915, .inr (0, [.ref z1918, .ref z1919, .ref z1922, .ref z1926, .ref z1930, .ref z1934, .ref z1941, .ref z1943, .ref z1945])), (z1918, .inl (cI, 4096, .inl (fun _ => 0))), (z1919, .inr (1, [.ref z1920])), (z1920, .inl (cI, 245, .inl z1921)), (z1922, .inr (2, [.int 1, .int 1, .ref z1923, .ref z1924, .ref z1925, .ref z1919, .ref z1920])), (z1923, .inl (cI, 1, .inl (fun _ => 0))), (z1924, .inl (cI, 1, .inl (fun _ => 0))), (z1925, .inl (cI, 1, .inl (fun _ => 0))), (z1926, .inr (3, [.ref z1927, .int 0, .int 0, .int 0, .int 0, .int 0, .int (-1), .int (-1), .int 0, .long 0, .ref z1918, .ref z1928, .ref z1929, .int 0, .int 0])), (z1927, .inl (cI, 8, .inl (fun _ => 0))), (z1929, .inl (cI, 64, .inl (fun _ => 0))), (z1930, .inr (4, [.int 0, .int (-1), .ref z1931, .ref z1932, .ref z1933, .int 0, .long 0])), (z1934, .inr (5, [.ref z1935, .ref z1936, .int (-1), .ref z1920, .ref z1922, .ref z1937, .ref z1938, .ref z1939, .ref z1940])), (z1935, .inl (cI, 9, .inl (fun _ => 0))), (z1936, .inl (cI, 8, .inl (fun _ => 0))), (z1941, .inr (11, [.ref z1942, .int 0, .int 0, .int 0])), (z1943, .inr (11, [.ref z1944, .int 0, .int 0, .int 0]))] H := hP
  have hD : va_D A [(q1915, .inr (0, [.ref z1918, .ref z1919, .ref z1922, .ref z1926, .ref z1930, .ref z1934, .ref z1941, .ref z1943, .ref z1945])), (z1918, .inl (cI, 4096, .inl (fun _ => 0))), (z1919, .inr (1, [.ref z1920])), (z1920, .inl (cI, 245, .inl z1921)), (z1922, .inr (2, [.int 1, .int 1, .ref z1923, .ref z1924, .ref z1925, .ref z1919, .ref z1920])), (z1923, .inl (cI, 1, .inl (fun _ => 0))), (z1924, .inl (cI, 1, .inl (fun _ => 0))), (z1925, .inl (cI, 1, .inl (fun _ => 0))), (z1926, .inr (3, [.ref z1927, .int 0, .int 0, .int 0, .int 0, .int 0, .int (-1), .int (-1), .int 0, .long 0, .ref z1918, .ref z1928, .ref z1929, .int 0, .int 0])), (z1927, .inl (cI, 8, .inl (fun _ => 0))), (z1929, .inl (cI, 64, .inl (fun _ => 0))), (z1930, .inr (4, [.int 0, .int (-1), .ref z1931, .ref z1932, .ref z1933, .int 0, .long 0])), (z1934, .inr (5, [.ref z1935, .ref z1936, .int (-1), .ref z1920, .ref z1922, .ref z1937, .ref z1938, .ref z1939, .ref z1940])), (z1935, .inl (cI, 9, .inl (fun _ => 0))), (z1936, .inl (cI, 8, .inl (fun _ => 0))), (z1941, .inr (11, [.ref z1942, .int 0, .int 0, .int 0])), (z1943, .inr (11, [.ref z1944, .int 0, .int 0, .int 0]))] := hD
  refine W.widen (k := 70) (n := 7987) (by omega) (by omega) ?_
  refine lv_astore_n (lv' := [(1, .ref q1915), (0, .ref b)]) hx hb d_law_7 rfl hl (by decide) rfl (fun ls hl => ?_)
  refine va_new (ci := 12) (fs := [.int 0, .int 0, .int 0, .null, .null, .null, .null, .null, .null, .null, .int 0, .int 0, .int 0, .int 0, .long 0, .null, .null, .null, .null]) (C := R_Mod) (T := F_Mod) (N := 19) hx hb htw i_Mod t_Mod t_Mod_ok hown (htw _ k816) (htw _ k117) (htw _ k116) hC.1 hP hD hS hC.2.2.2.1 rfl (fun j hj => by rcases (show j = 0 ∨ j = 1 ∨ j = 2 ∨ j = 3 ∨ j = 4 ∨ j = 5 ∨ j = 6 ∨ j = 7 ∨ j = 8 ∨ j = 9 ∨ j = 10 ∨ j = 11 ∨ j = 12 ∨ j = 13 ∨ j = 14 ∨ j = 15 ∨ j = 16 ∨ j = 17 ∨ j = 18 by omega) with rfl | rfl | rfl | rfl | rfl | rfl | rfl | rfl | rfl | rfl | rfl | rfl | rfl | rfl | rfl | rfl | rfl | rfl | rfl <;> rfl) (Nat.le_of_ble_eq_true rfl) (Nat.le_of_ble_eq_true rfl) d_law_8 (fun q1946 H hP hD hS => ?_)
  have hP : va_P D classes [(q1915, .inr (0, [.ref z1918, .ref z1919, .ref z1922, .ref z1926, .ref z1930, .ref z1934, .ref z1941, .ref z1943, .ref z1945])), (z1918, .inl (cI, 4096, .inl (fun _ => 0))), (z1919, .inr (1, [.ref z1920])), (z1920, .inl (cI, 245, .inl z1921)), (z1922, .inr (2, [.int 1, .int 1, .ref z1923, .ref z1924, .ref z1925, .ref z1919, .ref z1920])), (z1923, .inl (cI, 1, .inl (fun _ => 0))), (z1924, .inl (cI, 1, .inl (fun _ => 0))), (z1925, .inl (cI, 1, .inl (fun _ => 0))), (z1926, .inr (3, [.ref z1927, .int 0, .int 0, .int 0, .int 0, .int 0, .int (-1), .int (-1), .int 0, .long 0, .ref z1918, .ref z1928, .ref z1929, .int 0, .int 0])), (z1927, .inl (cI, 8, .inl (fun _ => 0))), (z1929, .inl (cI, 64, .inl (fun _ => 0))), (z1930, .inr (4, [.int 0, .int (-1), .ref z1931, .ref z1932, .ref z1933, .int 0, .long 0])), (z1934, .inr (5, [.ref z1935, .ref z1936, .int (-1), .ref z1920, .ref z1922, .ref z1937, .ref z1938, .ref z1939, .ref z1940])), (z1935, .inl (cI, 9, .inl (fun _ => 0))), (z1936, .inl (cI, 8, .inl (fun _ => 0))), (z1941, .inr (11, [.ref z1942, .int 0, .int 0, .int 0])), (z1943, .inr (11, [.ref z1944, .int 0, .int 0, .int 0])), (q1946, .inr (12, [.int 0, .int 0, .int 0, .null, .null, .null, .null, .null, .null, .null, .int 0, .int 0, .int 0, .int 0, .long 0, .null, .null, .null, .null]))] H := hP
  have hD : va_D A [(q1915, .inr (0, [.ref z1918, .ref z1919, .ref z1922, .ref z1926, .ref z1930, .ref z1934, .ref z1941, .ref z1943, .ref z1945])), (z1918, .inl (cI, 4096, .inl (fun _ => 0))), (z1919, .inr (1, [.ref z1920])), (z1920, .inl (cI, 245, .inl z1921)), (z1922, .inr (2, [.int 1, .int 1, .ref z1923, .ref z1924, .ref z1925, .ref z1919, .ref z1920])), (z1923, .inl (cI, 1, .inl (fun _ => 0))), (z1924, .inl (cI, 1, .inl (fun _ => 0))), (z1925, .inl (cI, 1, .inl (fun _ => 0))), (z1926, .inr (3, [.ref z1927, .int 0, .int 0, .int 0, .int 0, .int 0, .int (-1), .int (-1), .int 0, .long 0, .ref z1918, .ref z1928, .ref z1929, .int 0, .int 0])), (z1927, .inl (cI, 8, .inl (fun _ => 0))), (z1929, .inl (cI, 64, .inl (fun _ => 0))), (z1930, .inr (4, [.int 0, .int (-1), .ref z1931, .ref z1932, .ref z1933, .int 0, .long 0])), (z1934, .inr (5, [.ref z1935, .ref z1936, .int (-1), .ref z1920, .ref z1922, .ref z1937, .ref z1938, .ref z1939, .ref z1940])), (z1935, .inl (cI, 9, .inl (fun _ => 0))), (z1936, .inl (cI, 8, .inl (fun _ => 0))), (z1941, .inr (11, [.ref z1942, .int 0, .int 0, .int 0])), (z1943, .inr (11, [.ref z1944, .int 0, .int 0, .int 0])), (q1946, .inr (12, [.int 0, .int 0, .int 0, .null, .null, .null, .null, .null, .null, .null, .int 0, .int 0, .int 0, .int 0, .long 0, .null, .null, .null, .null]))] := hD
  refine W.widen (k := 71) (n := 8006) (by omega) (by omega) ?_
  refine lv_dup hx hb d_law_11 rfl ?_
  refine wc_v (wr := [(q1915, .inr (0, [.ref z1918, .ref z1919, .ref z1922, .ref z1926, .ref z1930, .ref z1934, .ref z1941, .ref z1943, .ref z1945])), (z1918, .inl (cI, 4096, .inl (fun _ => 0))), (z1919, .inr (1, [.ref z1920])), (z1920, .inl (cI, 245, .inl z1921)), (z1922, .inr (2, [.int 1, .int 1, .ref z1923, .ref z1924, .ref z1925, .ref z1919, .ref z1920])), (z1923, .inl (cI, 1, .inl (fun _ => 0))), (z1924, .inl (cI, 1, .inl (fun _ => 0))), (z1925, .inl (cI, 1, .inl (fun _ => 0))), (z1926, .inr (3, [.ref z1927, .int 0, .int 0, .int 0, .int 0, .int 0, .int (-1), .int (-1), .int 0, .long 0, .ref z1918, .ref z1928, .ref z1929, .int 0, .int 0])), (z1927, .inl (cI, 8, .inl (fun _ => 0))), (z1929, .inl (cI, 64, .inl (fun _ => 0))), (z1930, .inr (4, [.int 0, .int (-1), .ref z1931, .ref z1932, .ref z1933, .int 0, .long 0])), (z1934, .inr (5, [.ref z1935, .ref z1936, .int (-1), .ref z1920, .ref z1922, .ref z1937, .ref z1938, .ref z1939, .ref z1940])), (z1935, .inl (cI, 9, .inl (fun _ => 0))), (z1936, .inl (cI, 8, .inl (fun _ => 0))), (z1941, .inr (11, [.ref z1942, .int 0, .int 0, .int 0])), (z1943, .inr (11, [.ref z1944, .int 0, .int 0, .int 0]))]) hC hP hD hS [17] [0, 1, 2, 3, 4, 5, 6, 7, 8, 9, 10, 11, 12, 13, 14, 15, 16] rfl rfl (by decide) (by decide) (va_runI (As := []) (rest := [.ref q1946]) ⟨hx, hb, hml, hown, htw⟩ (c_Mod_init l D cI cL B _ q1946) (cwI 0 htw (tw_good (fun _ h => h) k513) rfl rfl rfl (htw _ k116) (htw _ k817) (htw _ k818) rfl (by decide +kernel) ⟨Nat.le_of_ble_eq_true rfl, Nat.le_of_ble_eq_true rfl⟩) (wC_pre hC hP hD hS [17] (by decide) rfl) rfl rfl hl.1 rfl (lv_room (Nat.le_of_ble_eq_true rfl)) d_law_12 ⟨Nat.le_of_ble_eq_true rfl, Nat.le_of_ble_eq_true rfl⟩) (fun u1947 H locs hw1948 hP hD hS => ?_)
  obtain ⟨z1949, z1950, z1951, z1952, z1953, z1954, z1955, z1956, z1957, z1958, z1959, z1960, z1961, z1962, z1963, z1964, z1965, z1966, z1967, z1968, z1969, z1970, z1971, z1972, z1973, z1974, z1975⟩ := u1947
  have hP : va_P D classes [(q1915, .inr (0, [.ref z1918, .ref z1919, .ref z1922, .ref z1926, .ref z1930, .ref z1934, .ref z1941, .ref z1943, .ref z1945])), (z1918, .inl (cI, 4096, .inl (fun _ => 0))), (z1919, .inr (1, [.ref z1920])), (z1920, .inl (cI, 245, .inl z1921)), (z1922, .inr (2, [.int 1, .int 1, .ref z1923, .ref z1924, .ref z1925, .ref z1919, .ref z1920])), (z1923, .inl (cI, 1, .inl (fun _ => 0))), (z1924, .inl (cI, 1, .inl (fun _ => 0))), (z1925, .inl (cI, 1, .inl (fun _ => 0))), (z1926, .inr (3, [.ref z1927, .int 0, .int 0, .int 0, .int 0, .int 0, .int (-1), .int (-1), .int 0, .long 0, .ref z1918, .ref z1928, .ref z1929, .int 0, .int 0])), (z1927, .inl (cI, 8, .inl (fun _ => 0))), (z1929, .inl (cI, 64, .inl (fun _ => 0))), (z1930, .inr (4, [.int 0, .int (-1), .ref z1931, .ref z1932, .ref z1933, .int 0, .long 0])), (z1934, .inr (5, [.ref z1935, .ref z1936, .int (-1), .ref z1920, .ref z1922, .ref z1937, .ref z1938, .ref z1939, .ref z1940])), (z1935, .inl (cI, 9, .inl (fun _ => 0))), (z1936, .inl (cI, 8, .inl (fun _ => 0))), (z1941, .inr (11, [.ref z1942, .int 0, .int 0, .int 0])), (z1943, .inr (11, [.ref z1944, .int 0, .int 0, .int 0])), (q1946, .inr (12, [.int 0, .int 1, .int 1, .ref z1949, .ref z1956, .ref z1957, .ref z1958, .ref z1959, .ref z1960, .ref z1961, .int 0, .int (-1), .int 0, .int 0, .long 0, .ref z1972, .ref z1973, .ref z1974, .ref z1975])), (z1949, .inr (13, [.int 0, .ref z1950, .int 1, .int 1, .ref z1951, .int 0, .int 0, .int 0, .ref z1952, .int 0, .int 0, .int (-1), .int (-1), .int 0, .int (-1), .int 0, .ref z1953, .ref z1954])), (z1950, .inl (cI, 4096, .inl (fun _ => 0))), (z1951, .inl (cI, 4096, .inl (fun _ => 0))), (z1954, .inl (cI, 4160, .inl z1955)), (z1961, .inr (18, [.int 0, .int 0, .int 0, .int 1, .int 1, .ref z1962, .ref z1963, .ref z1964, .int 0, .ref z1965, .int (-1), .int 0, .ref z1966, .ref z1967, .int (-1), .int 0, .ref z1968, .int (-1), .int 15, .ref z1969, .ref z1970, .ref z1971])), (z1962, .inl (cI, 65536, .inl (fun _ => 0))), (z1963, .inl (cI, 16384, .inl (fun _ => 0))), (z1964, .inl (cI, 16384, .inl (fun _ => 0))), (z1972, .inl (cI, 8, .inl (fun _ => 0))), (z1973, .inl (cI, 9, .inl (fun _ => 0))), (z1974, .inl (cI, 4, .inl (fun _ => 0)))] H := hP
  have hD : va_D A [(q1915, .inr (0, [.ref z1918, .ref z1919, .ref z1922, .ref z1926, .ref z1930, .ref z1934, .ref z1941, .ref z1943, .ref z1945])), (z1918, .inl (cI, 4096, .inl (fun _ => 0))), (z1919, .inr (1, [.ref z1920])), (z1920, .inl (cI, 245, .inl z1921)), (z1922, .inr (2, [.int 1, .int 1, .ref z1923, .ref z1924, .ref z1925, .ref z1919, .ref z1920])), (z1923, .inl (cI, 1, .inl (fun _ => 0))), (z1924, .inl (cI, 1, .inl (fun _ => 0))), (z1925, .inl (cI, 1, .inl (fun _ => 0))), (z1926, .inr (3, [.ref z1927, .int 0, .int 0, .int 0, .int 0, .int 0, .int (-1), .int (-1), .int 0, .long 0, .ref z1918, .ref z1928, .ref z1929, .int 0, .int 0])), (z1927, .inl (cI, 8, .inl (fun _ => 0))), (z1929, .inl (cI, 64, .inl (fun _ => 0))), (z1930, .inr (4, [.int 0, .int (-1), .ref z1931, .ref z1932, .ref z1933, .int 0, .long 0])), (z1934, .inr (5, [.ref z1935, .ref z1936, .int (-1), .ref z1920, .ref z1922, .ref z1937, .ref z1938, .ref z1939, .ref z1940])), (z1935, .inl (cI, 9, .inl (fun _ => 0))), (z1936, .inl (cI, 8, .inl (fun _ => 0))), (z1941, .inr (11, [.ref z1942, .int 0, .int 0, .int 0])), (z1943, .inr (11, [.ref z1944, .int 0, .int 0, .int 0])), (q1946, .inr (12, [.int 0, .int 1, .int 1, .ref z1949, .ref z1956, .ref z1957, .ref z1958, .ref z1959, .ref z1960, .ref z1961, .int 0, .int (-1), .int 0, .int 0, .long 0, .ref z1972, .ref z1973, .ref z1974, .ref z1975])), (z1949, .inr (13, [.int 0, .ref z1950, .int 1, .int 1, .ref z1951, .int 0, .int 0, .int 0, .ref z1952, .int 0, .int 0, .int (-1), .int (-1), .int 0, .int (-1), .int 0, .ref z1953, .ref z1954])), (z1950, .inl (cI, 4096, .inl (fun _ => 0))), (z1951, .inl (cI, 4096, .inl (fun _ => 0))), (z1954, .inl (cI, 4160, .inl z1955)), (z1961, .inr (18, [.int 0, .int 0, .int 0, .int 1, .int 1, .ref z1962, .ref z1963, .ref z1964, .int 0, .ref z1965, .int (-1), .int 0, .ref z1966, .ref z1967, .int (-1), .int 0, .ref z1968, .int (-1), .int 15, .ref z1969, .ref z1970, .ref z1971])), (z1962, .inl (cI, 65536, .inl (fun _ => 0))), (z1963, .inl (cI, 16384, .inl (fun _ => 0))), (z1964, .inl (cI, 16384, .inl (fun _ => 0))), (z1972, .inl (cI, 8, .inl (fun _ => 0))), (z1973, .inl (cI, 9, .inl (fun _ => 0))), (z1974, .inl (cI, 4, .inl (fun _ => 0)))] := hD
  refine W.widen (k := 137) (n := 124624) (by omega) (by omega) ?_
  refine lv_astore_n (lv' := [(2, .ref q1946), (1, .ref q1915), (0, .ref b)]) hx hb d_law_15 rfl hl (by decide) rfl (fun ls hl => ?_)
  refine lv_iconst (v := 1) hx hb d_law_16 (by decide) ?_
  refine wna_l hx hb (htw _ k239) hC hP hD hS (N := 1) (by decide) (by omega) (Nat.le_of_ble_eq_true rfl) (Nat.le_of_ble_eq_true rfl) d_law_17 (fun q1976 H hP hD hS => ?_)
  have hP : va_P D classes [(q1915, .inr (0, [.ref z1918, .ref z1919, .ref z1922, .ref z1926, .ref z1930, .ref z1934, .ref z1941, .ref z1943, .ref z1945])), (z1918, .inl (cI, 4096, .inl (fun _ => 0))), (z1919, .inr (1, [.ref z1920])), (z1920, .inl (cI, 245, .inl z1921)), (z1922, .inr (2, [.int 1, .int 1, .ref z1923, .ref z1924, .ref z1925, .ref z1919, .ref z1920])), (z1923, .inl (cI, 1, .inl (fun _ => 0))), (z1924, .inl (cI, 1, .inl (fun _ => 0))), (z1925, .inl (cI, 1, .inl (fun _ => 0))), (z1926, .inr (3, [.ref z1927, .int 0, .int 0, .int 0, .int 0, .int 0, .int (-1), .int (-1), .int 0, .long 0, .ref z1918, .ref z1928, .ref z1929, .int 0, .int 0])), (z1927, .inl (cI, 8, .inl (fun _ => 0))), (z1929, .inl (cI, 64, .inl (fun _ => 0))), (z1930, .inr (4, [.int 0, .int (-1), .ref z1931, .ref z1932, .ref z1933, .int 0, .long 0])), (z1934, .inr (5, [.ref z1935, .ref z1936, .int (-1), .ref z1920, .ref z1922, .ref z1937, .ref z1938, .ref z1939, .ref z1940])), (z1935, .inl (cI, 9, .inl (fun _ => 0))), (z1936, .inl (cI, 8, .inl (fun _ => 0))), (z1941, .inr (11, [.ref z1942, .int 0, .int 0, .int 0])), (z1943, .inr (11, [.ref z1944, .int 0, .int 0, .int 0])), (q1946, .inr (12, [.int 0, .int 1, .int 1, .ref z1949, .ref z1956, .ref z1957, .ref z1958, .ref z1959, .ref z1960, .ref z1961, .int 0, .int (-1), .int 0, .int 0, .long 0, .ref z1972, .ref z1973, .ref z1974, .ref z1975])), (z1949, .inr (13, [.int 0, .ref z1950, .int 1, .int 1, .ref z1951, .int 0, .int 0, .int 0, .ref z1952, .int 0, .int 0, .int (-1), .int (-1), .int 0, .int (-1), .int 0, .ref z1953, .ref z1954])), (z1950, .inl (cI, 4096, .inl (fun _ => 0))), (z1951, .inl (cI, 4096, .inl (fun _ => 0))), (z1954, .inl (cI, 4160, .inl z1955)), (z1961, .inr (18, [.int 0, .int 0, .int 0, .int 1, .int 1, .ref z1962, .ref z1963, .ref z1964, .int 0, .ref z1965, .int (-1), .int 0, .ref z1966, .ref z1967, .int (-1), .int 0, .ref z1968, .int (-1), .int 15, .ref z1969, .ref z1970, .ref z1971])), (z1962, .inl (cI, 65536, .inl (fun _ => 0))), (z1963, .inl (cI, 16384, .inl (fun _ => 0))), (z1964, .inl (cI, 16384, .inl (fun _ => 0))), (z1972, .inl (cI, 8, .inl (fun _ => 0))), (z1973, .inl (cI, 9, .inl (fun _ => 0))), (z1974, .inl (cI, 4, .inl (fun _ => 0))), (q1976, .inl (cL, 1, .inr (.inl (fun _ => 0))))] H := hP
  have hD : va_D A [(q1915, .inr (0, [.ref z1918, .ref z1919, .ref z1922, .ref z1926, .ref z1930, .ref z1934, .ref z1941, .ref z1943, .ref z1945])), (z1918, .inl (cI, 4096, .inl (fun _ => 0))), (z1919, .inr (1, [.ref z1920])), (z1920, .inl (cI, 245, .inl z1921)), (z1922, .inr (2, [.int 1, .int 1, .ref z1923, .ref z1924, .ref z1925, .ref z1919, .ref z1920])), (z1923, .inl (cI, 1, .inl (fun _ => 0))), (z1924, .inl (cI, 1, .inl (fun _ => 0))), (z1925, .inl (cI, 1, .inl (fun _ => 0))), (z1926, .inr (3, [.ref z1927, .int 0, .int 0, .int 0, .int 0, .int 0, .int (-1), .int (-1), .int 0, .long 0, .ref z1918, .ref z1928, .ref z1929, .int 0, .int 0])), (z1927, .inl (cI, 8, .inl (fun _ => 0))), (z1929, .inl (cI, 64, .inl (fun _ => 0))), (z1930, .inr (4, [.int 0, .int (-1), .ref z1931, .ref z1932, .ref z1933, .int 0, .long 0])), (z1934, .inr (5, [.ref z1935, .ref z1936, .int (-1), .ref z1920, .ref z1922, .ref z1937, .ref z1938, .ref z1939, .ref z1940])), (z1935, .inl (cI, 9, .inl (fun _ => 0))), (z1936, .inl (cI, 8, .inl (fun _ => 0))), (z1941, .inr (11, [.ref z1942, .int 0, .int 0, .int 0])), (z1943, .inr (11, [.ref z1944, .int 0, .int 0, .int 0])), (q1946, .inr (12, [.int 0, .int 1, .int 1, .ref z1949, .ref z1956, .ref z1957, .ref z1958, .ref z1959, .ref z1960, .ref z1961, .int 0, .int (-1), .int 0, .int 0, .long 0, .ref z1972, .ref z1973, .ref z1974, .ref z1975])), (z1949, .inr (13, [.int 0, .ref z1950, .int 1, .int 1, .ref z1951, .int 0, .int 0, .int 0, .ref z1952, .int 0, .int 0, .int (-1), .int (-1), .int 0, .int (-1), .int 0, .ref z1953, .ref z1954])), (z1950, .inl (cI, 4096, .inl (fun _ => 0))), (z1951, .inl (cI, 4096, .inl (fun _ => 0))), (z1954, .inl (cI, 4160, .inl z1955)), (z1961, .inr (18, [.int 0, .int 0, .int 0, .int 1, .int 1, .ref z1962, .ref z1963, .ref z1964, .int 0, .ref z1965, .int (-1), .int 0, .ref z1966, .ref z1967, .int (-1), .int 0, .ref z1968, .int (-1), .int 15, .ref z1969, .ref z1970, .ref z1971])), (z1962, .inl (cI, 65536, .inl (fun _ => 0))), (z1963, .inl (cI, 16384, .inl (fun _ => 0))), (z1964, .inl (cI, 16384, .inl (fun _ => 0))), (z1972, .inl (cI, 8, .inl (fun _ => 0))), (z1973, .inl (cI, 9, .inl (fun _ => 0))), (z1974, .inl (cI, 4, .inl (fun _ => 0))), (q1976, .inl (cL, 1, .inr (.inl (fun _ => 0))))] := hD
  refine W.widen (k := 138) (n := 124625) (by omega) (by omega) ?_
  refine lv_astore_n (lv' := [(3, .ref q1976), (2, .ref q1946), (1, .ref q1915), (0, .ref b)]) hx hb d_law_19 rfl hl (by decide) rfl (fun ls hl => ?_)
  refine lv_iconst (v := 0) hx hb d_law_20 (by decide) ?_
  refine lv_istore (lv' := [(4, .int 0), (3, .ref q1976), (2, .ref q1946), (1, .ref q1915), (0, .ref b)]) hx hb d_law_21 hl (by decide) rfl (fun ls hl => ?_)
  have hP := hP.sub (ws' := [(q1915, .inr (0, [.ref z1918, .ref z1919, .ref z1922, .ref z1926, .ref z1930, .ref z1934, .ref z1941, .ref z1943, .ref z1945])), (z1918, .inl (cI, 4096, .inl (fun _ => 0))), (z1919, .inr (1, [.ref z1920])), (z1920, .inl (cI, 245, .inl z1921)), (z1922, .inr (2, [.int 1, .int 1, .ref z1923, .ref z1924, .ref z1925, .ref z1919, .ref z1920])), (z1923, .inl (cI, 1, .inl (fun _ => 0))), (z1924, .inl (cI, 1, .inl (fun _ => 0))), (z1925, .inl (cI, 1, .inl (fun _ => 0))), (z1926, .inr (3, [.ref z1927, .int 0, .int 0, .int 0, .int 0, .int 0, .int (-1), .int (-1), .int 0, .long 0, .ref z1918, .ref z1928, .ref z1929, .int 0, .int 0])), (z1927, .inl (cI, 8, .inl (fun _ => 0))), (z1929, .inl (cI, 64, .inl (fun _ => 0))), (z1930, .inr (4, [.int 0, .int (-1), .ref z1931, .ref z1932, .ref z1933, .int 0, .long 0])), (z1934, .inr (5, [.ref z1935, .ref z1936, .int (-1), .ref z1920, .ref z1922, .ref z1937, .ref z1938, .ref z1939, .ref z1940])), (z1935, .inl (cI, 9, .inl (fun _ => 0))), (z1936, .inl (cI, 8, .inl (fun _ => 0))), (z1941, .inr (11, [.ref z1942, .int 0, .int 0, .int 0])), (z1943, .inr (11, [.ref z1944, .int 0, .int 0, .int 0])), (q1946, .inr (12, [.int 0, .int 1, .int 1, .ref z1949, .ref z1956, .ref z1957, .ref z1958, .ref z1959, .ref z1960, .ref z1961, .int 0, .int (-1), .int 0, .int 0, .long 0, .ref z1972, .ref z1973, .ref z1974, .ref z1975])), (z1949, .inr (13, [.int 0, .ref z1950, .int 1, .int 1, .ref z1951, .int 0, .int 0, .int 0, .ref z1952, .int 0, .int 0, .int (-1), .int (-1), .int 0, .int (-1), .int 0, .ref z1953, .ref z1954])), (z1950, .inl (cI, 4096, .inl (fun _ => 0))), (z1951, .inl (cI, 4096, .inl (fun _ => 0))), (z1954, .inl (cI, 4160, .inl z1955)), (z1961, .inr (18, [.int 0, .int 0, .int 0, .int 1, .int 1, .ref z1962, .ref z1963, .ref z1964, .int 0, .ref z1965, .int (-1), .int 0, .ref z1966, .ref z1967, .int (-1), .int 0, .ref z1968, .int (-1), .int 15, .ref z1969, .ref z1970, .ref z1971])), (z1962, .inl (cI, 65536, .inl (fun _ => 0))), (z1963, .inl (cI, 16384, .inl (fun _ => 0))), (z1964, .inl (cI, 16384, .inl (fun _ => 0))), (z1972, .inl (cI, 8, .inl (fun _ => 0))), (z1973, .inl (cI, 9, .inl (fun _ => 0))), (z1974, .inl (cI, 4, .inl (fun _ => 0))), (q1976, .inl (cL, 1, .inr (.inl (fun _ => 0))))]) [0, 1, 2, 3, 4, 5, 6, 7, 8, 9, 10, 11, 12, 13, 14, 15, 16, 17, 18, 19, 20, 21, 22, 23, 24, 25, 26, 27, 28, 29] rfl
  have hD := hD.sub (ws' := [(q1915, .inr (0, [.ref z1918, .ref z1919, .ref z1922, .ref z1926, .ref z1930, .ref z1934, .ref z1941, .ref z1943, .ref z1945])), (z1918, .inl (cI, 4096, .inl (fun _ => 0))), (z1919, .inr (1, [.ref z1920])), (z1920, .inl (cI, 245, .inl z1921)), (z1922, .inr (2, [.int 1, .int 1, .ref z1923, .ref z1924, .ref z1925, .ref z1919, .ref z1920])), (z1923, .inl (cI, 1, .inl (fun _ => 0))), (z1924, .inl (cI, 1, .inl (fun _ => 0))), (z1925, .inl (cI, 1, .inl (fun _ => 0))), (z1926, .inr (3, [.ref z1927, .int 0, .int 0, .int 0, .int 0, .int 0, .int (-1), .int (-1), .int 0, .long 0, .ref z1918, .ref z1928, .ref z1929, .int 0, .int 0])), (z1927, .inl (cI, 8, .inl (fun _ => 0))), (z1929, .inl (cI, 64, .inl (fun _ => 0))), (z1930, .inr (4, [.int 0, .int (-1), .ref z1931, .ref z1932, .ref z1933, .int 0, .long 0])), (z1934, .inr (5, [.ref z1935, .ref z1936, .int (-1), .ref z1920, .ref z1922, .ref z1937, .ref z1938, .ref z1939, .ref z1940])), (z1935, .inl (cI, 9, .inl (fun _ => 0))), (z1936, .inl (cI, 8, .inl (fun _ => 0))), (z1941, .inr (11, [.ref z1942, .int 0, .int 0, .int 0])), (z1943, .inr (11, [.ref z1944, .int 0, .int 0, .int 0])), (q1946, .inr (12, [.int 0, .int 1, .int 1, .ref z1949, .ref z1956, .ref z1957, .ref z1958, .ref z1959, .ref z1960, .ref z1961, .int 0, .int (-1), .int 0, .int 0, .long 0, .ref z1972, .ref z1973, .ref z1974, .ref z1975])), (z1949, .inr (13, [.int 0, .ref z1950, .int 1, .int 1, .ref z1951, .int 0, .int 0, .int 0, .ref z1952, .int 0, .int 0, .int (-1), .int (-1), .int 0, .int (-1), .int 0, .ref z1953, .ref z1954])), (z1950, .inl (cI, 4096, .inl (fun _ => 0))), (z1951, .inl (cI, 4096, .inl (fun _ => 0))), (z1954, .inl (cI, 4160, .inl z1955)), (z1961, .inr (18, [.int 0, .int 0, .int 0, .int 1, .int 1, .ref z1962, .ref z1963, .ref z1964, .int 0, .ref z1965, .int (-1), .int 0, .ref z1966, .ref z1967, .int (-1), .int 0, .ref z1968, .int (-1), .int 15, .ref z1969, .ref z1970, .ref z1971])), (z1962, .inl (cI, 65536, .inl (fun _ => 0))), (z1963, .inl (cI, 16384, .inl (fun _ => 0))), (z1964, .inl (cI, 16384, .inl (fun _ => 0))), (z1972, .inl (cI, 8, .inl (fun _ => 0))), (z1973, .inl (cI, 9, .inl (fun _ => 0))), (z1974, .inl (cI, 4, .inl (fun _ => 0))), (q1976, .inl (cL, 1, .inr (.inl (fun _ => 0))))]) [0, 1, 2, 3, 4, 5, 6, 7, 8, 9, 10, 11, 12, 13, 14, 15, 16, 17, 18, 19, 20, 21, 22, 23, 24, 25, 26, 27, 28, 29] (by decide) rfl
  subst hBe
  subst hAe
  rcases (show L = 0 ∨ L = 1 ∨ L = 2 ∨ L = 3 ∨ L = 4 ∨ L = 5 ∨ L = 6 by omega) with rfl | rfl | rfl | rfl | rfl | rfl | rfl
  · exact lw_head_0 hx hb hr hlocks hX hbl hbA hS (lv_sub hl [0, 4] rfl)
  · exact lw_head_1 hx hb hr hlocks hX hbl hbA hS (lv_sub hl [0, 4] rfl)
  · exact lw_head_2 hx hb hr hlocks hX hbl hbA hS (lv_sub hl [0, 4] rfl)
  · exact lw_head_3 hx hb hr hlocks hX hbl hbA hS (lv_sub hl [0, 4] rfl)
  · exact lw_head_4 hx hb hr hlocks hX hbl hbA hS (lv_sub hl [0, 4] rfl)
  · exact lw_head_5 hx hb hr hlocks hX hbl hbA hS (lv_sub hl [0, 4] rfl)
  · exact lw_go hx hb hr hlocks hfl D cI cL hml hown htw hC hX hbl hbA q1915 q1946 q1976 z1918 z1919 z1920 z1921 z1922 z1923 z1924 z1925 z1926 z1927 z1928 z1929 z1930 z1931 z1932 z1933 z1934 z1935 z1936 z1937 z1938 z1939 z1940 z1941 z1942 z1943 z1944 z1945 z1949 z1950 z1951 z1952 z1953 z1954 z1955 z1956 z1957 z1958 z1959 z1960 z1961 z1962 z1963 z1964 z1965 z1966 z1967 z1968 z1969 z1970 z1971 z1972 z1973 z1974 z1975 hP hD hS (lv_sub hl [0, 1, 2, 3, 4] rfl)
set_option maxHeartbeats 4000000 in
theorem lw_walk (l : Launch) (hfl : l.stackTraces = false) (b : Addr) (xs : List Int32) : MetFree l x (headSpec (Jvm.Cond.code x code maxLocals ret :: tables_1) room_1) (lw_P b xs) (fun _ _ _ _ _ => True) lw_Q := by
  refine MetFree.of_bodyS (code := code) (maxLocals := maxLocals) (ret := ret) (by decide) ?_ ?_
  · intro args s m h hn
    obtain ⟨meth, c, h1, h2, h3, h4, h5, h6, -, -⟩ := Cond.code_spec hn (atoms_spec (ws := Jvm.Cond.code x code maxLocals ret :: tables_1) h _ List.mem_cons_self)
    exact ⟨meth, c, h1, h2, h3, h4, h5, h6⟩
  · intro p e s m args below meth c s₁ B hml0 hP _
    obtain ⟨rfl, hx, hbd, hgv⟩ := hP
    obtain ⟨scr, harrAt, hlist, hof, hsmall⟩ := hx
    obtain ⟨hcb, hkn, -, -⟩ := State.arrayAt?_spec harrAt
    have hown : s.vm.findClass R_law = some m.cls := findClass_of_methodNamed B.named
    have hts0 : ∀ c ∈ (Jvm.Cond.code x code maxLocals ret :: tables_1), c.before #[Value.ref b] s = true := atoms_spec (ws := Jvm.Cond.code x code maxLocals ret :: tables_1) B.pre
    have hts : ∀ w ∈ lw_tbl, w.before #[Value.ref b] s = true := k2_hts_sels lw_privs (fun w hw => hts0 w (List.mem_cons_of_mem _ hw)) lw_privs_ok
    have hml : c.maxLocals = 7 := B.maxLocals_eq (hts0 _ List.mem_cons_self)
    have X₀ : Stand p l e room_1 s m #[Value.ref b] below meth c s₁ [] 0 0 := Stand.of_body B
    have hh0 : s₁.heap = s.heap := by rw [B.state]; rfl
    have hsz : scr.slots.size = xs.length := by rw [← Array.length_toList, hlist, List.length_map]
    have hval : ∀ j : Nat, j < xs.length → scr.slots[j]? = some (.int (xs.getD j 0)) := fun j hj => by
      rw [← Array.getElem?_toList, hlist]
      simp [hj]
    have hbl : b < s.heap.size := (Array.getElem?_eq_some_iff.mp hcb).1
    have hX : va_X b xs.length (fun j => xs.getD j 0) s s.heap := ⟨scr, hcb, hof, hkn, hsz, hval⟩
    have K : W p l e room_1 s m #[Value.ref b] below meth c s₁.heap [] 0 0 (lw_Z below #[Value.ref b] s) (entryFrame m ([Value.ref b] : List Value).toArray 7) := by
      rw [hh0]
      exact whole_start l hfl hbd ⟨B.exec, B.bytes, B.returns, hml, hown, hts, hX, hbl, B.notSynchronized, hgv⟩
    obtain ⟨t, a1, o, b1, b2, b3⟩ := K s₁ rfl X₀
    exact ⟨t, o, a1, b1, b2, b3⟩
theorem lw_pre_spec {args : Array Value} {s : State} (h : (Jvm.Cond.and given_1 narrow_1).before args s = true) (hr : rest_1_c.before args s = true) : ∃ (b : Addr) (xs : List Int32), lw_P b xs args s := by
  have hs := flat_of_before _ h
  have hq := flat_of_before _ hr
  have hc : (Cond.count 1).before args s = true := hs _ (by decide +kernel)
  have harr : (Cond.arrayOf (.arg 0) .int).before args s = true := hs _ (by decide +kernel)
  have hle : (Cond.le (.length (.arg 0)) (.int 6)).before args s = true := hs _ (by decide +kernel)
  have hlen : (Cond.isInt (.length (.arg 0))).before args s = true := hq _ (by decide +kernel)
  have hall : (Cond.all (.arg 0) (.isInt (.elem (.arg 0) (.index 0)))).before args s = true := hq _ (by decide +kernel)
  obtain ⟨b, xs, hb, hx⟩ := State.ints_of_pre rfl harr hlen hall
  have hsm : xs.length < 2 ^ 31 := hx.choose_spec.2.2.2
  have hev : (Term.length (.arg 0)).eval args s none [] s = some (.int xs.length.toInt32) := hx.length_eval hb
  have hv := Cond.le_ints hev (show (Term.int 6).eval args s none [] s = some (.int 6) from rfl)
  have hd : xs.length.toInt32 ≤ 6 := by
    simpa [Cond.before, Cond.holds, hv] using hle
  have hN : xs.length ≤ 6 := (Int32.ofNat_le_ofNat hsm (by decide)).mp (show Int32.ofNat xs.length ≤ Int32.ofNat 6 from hd)
  exact ⟨b, xs, Cond.one_arg hc (show args[0]? = some (.ref b) from hb), hx, hN, h⟩
theorem lw_comes (l : Launch) (hfl : l.stackTraces = false) : Comes l x (Jvm.Cond.code x code maxLocals ret :: tables_1) room_1 (fun tb e args s => Calls_1 tb e args s ∧ rest_1 tb e args s ∧ Pre_1 tb e args s)
    (fun _ _ args s o t => lw_Q args s o t) := by
  intro p e ha hc hk s m args below hf hfit hheap happ hpre
  obtain ⟨b, xs, hP⟩ := lw_pre_spec hpre.2.2 hpre.2.1
  obtain ⟨k, o, h1, h2, h3, hQ⟩ := lw_walk l hfl b xs p e ha hc hk s m args below hf ((Spec.applies_iff_loose hf).mp happ).1 hP trivial
  exact ⟨k, o, h1, h2, h3, hQ⟩
theorem lw_frame {s t : State} {o : Outcome} {args : Array Value} (h : Framed s o t [] 600002 7302232) :
    Framed s o t (fieldLocs frame_1_writes args s ++ arrayLocs frame_1_arrays args s ++ staticLocs frame_1_statics s) 600002 7302232 := h
theorem lw_limb (L : Cond) (hL : ∀ (args : Array Value) (s t : State), L.after args s (.returned (some (.int 1))) t = true) :
    ArmFor flags0 classFile x code maxLocals ret World_1 tables_1 room_1 Calls_1 rest_1 Pre_1
      (fun tb e a s o t => postC L tb e a s o t ∧ Framed s o t (fieldLocs frame_1_writes a s ++ arrayLocs frame_1_arrays a s ++ staticLocs frame_1_statics s) 600002 7302232) := by
  intro l hfg _ _ p e ha hc hk s m args below hf hfit hheap happ hpre
  obtain ⟨k, o, h1, h2, h3, rfl, hF⟩ := lw_comes l (by rw [Launch.stackTraces, hfg]; decide) p e ha hc hk s m args below hf hfit hheap happ hpre
  exact ⟨k, _, h1, h2, h3, hL args s _, lw_frame hF⟩
theorem i_vc : Claimed_1_1 ∧ Claimed_1_2 := ⟨lw_limb limb_1_1 (fun args s t => by simp [limb_1_1, Cond.after, Cond.holds, Cond.value]), lw_limb limb_1_2 (fun args s t => Cond.after_iff.mpr (by
  first | (rw [show limb_1_2 = Cond.eq .result (.int 1) from rfl, Cond.eq_ints (x := 1) (y := 1) rfl rfl]; simp; done) | (simp [limb_1_2, Cond.value, Term.eval]; done)))⟩
