theorem d_law_184 : decode code 184 = .ok (.aload_n 1, 1) := by decide +kernel
theorem d_law_185 : decode code 185 = .ok (.aload_n 0, 1) := by decide +kernel
theorem d_law_186 : decode code 186 = .ok (.iload 4, 2) := by decide +kernel
theorem d_law_188 : decode code 188 = .ok (.iconst 1, 1) := by decide +kernel
theorem d_law_189 : decode code 189 = .ok (.iadd, 1) := by decide +kernel
theorem d_law_190 : decode code 190 = .ok (.iaload, 1) := by decide +kernel
theorem d_law_191 : decode code 191 = .ok (.aload_n 0, 1) := by decide +kernel
theorem d_law_192 : decode code 192 = .ok (.iload 4, 2) := by decide +kernel
theorem d_law_194 : decode code 194 = .ok (.iconst 2, 1) := by decide +kernel
theorem d_law_195 : decode code 195 = .ok (.iadd, 1) := by decide +kernel
theorem d_law_196 : decode code 196 = .ok (.iaload, 1) := by decide +kernel
theorem d_law_197 : decode code 197 = .ok (.aload_n 3, 1) := by decide +kernel
theorem d_law_198 : decode code 198 = .ok (.invokestatic 69, 3) := by decide +kernel
theorem d_law_201 : decode code 201 = .ok (.istore 5, 2) := by decide +kernel
theorem d_law_203 : decode code 203 = .ok (.aload_n 2, 1) := by decide +kernel
theorem d_law_204 : decode code 204 = .ok (.aload_n 0, 1) := by decide +kernel
theorem d_law_205 : decode code 205 = .ok (.iload 4, 2) := by decide +kernel
theorem d_law_207 : decode code 207 = .ok (.iconst 1, 1) := by decide +kernel
theorem d_law_208 : decode code 208 = .ok (.iadd, 1) := by decide +kernel
theorem d_law_209 : decode code 209 = .ok (.iaload, 1) := by decide +kernel
theorem d_law_210 : decode code 210 = .ok (.aload_n 0, 1) := by decide +kernel
theorem d_law_211 : decode code 211 = .ok (.iload 4, 2) := by decide +kernel
theorem d_law_213 : decode code 213 = .ok (.iconst 2, 1) := by decide +kernel
theorem d_law_214 : decode code 214 = .ok (.iadd, 1) := by decide +kernel
theorem d_law_215 : decode code 215 = .ok (.iaload, 1) := by decide +kernel
theorem d_law_216 : decode code 216 = .ok (.invokevirtual 72, 3) := by decide +kernel
theorem d_law_219 : decode code 219 = .ok (.istore 6, 2) := by decide +kernel
theorem d_law_221 : decode code 221 = .ok (.aload_n 2, 1) := by decide +kernel
theorem d_law_222 : decode code 222 = .ok (.invokevirtual 65, 3) := by decide +kernel
theorem d_law_225 : decode code 225 = .ok (.iload 5, 2) := by decide +kernel
theorem d_law_227 : decode code 227 = .ok (.if_icmp .eq 5, 3) := by decide +kernel
theorem d_law_232 : decode code 232 = .ok (.iload 5, 2) := by decide +kernel
theorem d_law_234 : decode code 234 = .ok (.ifCond .ne 15, 3) := by decide +kernel
theorem d_law_237 : decode code 237 = .ok (.aload_n 3, 1) := by decide +kernel
theorem d_law_238 : decode code 238 = .ok (.iconst 0, 1) := by decide +kernel
theorem d_law_239 : decode code 239 = .ok (.laload, 1) := by decide +kernel
theorem d_law_240 : decode code 240 = .ok (.iload 6, 2) := by decide +kernel
theorem d_law_242 : decode code 242 = .ok (.i2l, 1) := by decide +kernel
theorem d_law_243 : decode code 243 = .ok (.lcmp, 1) := by decide +kernel
theorem d_law_244 : decode code 244 = .ok (.ifCond .eq 5, 3) := by decide +kernel
theorem d_law_249 : decode code 249 = .ok (.goto 598, 3) := by decide +kernel
theorem gV_law_72 : GoodIn tw (wsV "DrawingMachineLaw" 72 "DrawingMachineModel" y_Mod_word ((Cond.code y_Mod_word prog_14_method_6_code 3 (some .int)) :: tw)) := tw_pre (fun _ h => h) (tw_good (fun _ h => h) k643) (List.forall_mem_cons.mpr ⟨k829, List.forall_mem_cons.mpr ⟨k830, List.forall_mem_cons.mpr ⟨k831, List.forall_mem_cons.mpr ⟨k116, fun _ h => absurd h List.not_mem_nil⟩⟩⟩⟩)
theorem gV_law_65 : GoodIn tw (wsV "DrawingMachineLaw" 65 "DrawingMachineModel" y_Mod_thrown ((Cond.code y_Mod_thrown prog_14_method_2_code 1 (some .int)) :: tw)) := tw_pre (fun _ h => h) (tw_good (fun _ h => h) k625) (List.forall_mem_cons.mpr ⟨k824, List.forall_mem_cons.mpr ⟨k825, List.forall_mem_cons.mpr ⟨k826, List.forall_mem_cons.mpr ⟨k116, fun _ h => absurd h List.not_mem_nil⟩⟩⟩⟩)
set_option maxHeartbeats 4000000 in
set_option maxRecDepth 100000 in
theorem lc_word_g {p : Program} {l : Launch} {e : Env} {s : State} {m : MethodId} {args : Array Value} {below : List Frame} {meth : Method} {c : Code} {Q : State → Prop} {A : Nat → Prop} {b : Nat} {xs : Nat → Int32} {H : Heap} {locs : List Loc} {ls : Array Slot} (hfl : l.stackTraces = false) (D : va_G) (cI cL : ClassId) (B : Nat) (hx : p.tables.exec = Jvm.exec) (hb : c.code = code) (hml : c.maxLocals = 7) (hown : s.vm.findClass "DrawingMachineLaw" = some m.cls) (htw : ∀ w ∈ tw, w.before args s = true) (hC : wC D cI cL B A s) (hX : va_X b 6 xs s s.heap) (hbl : b < s.heap.size) (hbA : ¬ A b) (dm : Nat) (md : Nat) (ou : Nat) (q83 : Nat) (q84 : Nat) (q89 : Nat) (q95 : Nat) (q101 : Nat) (q107 : Nat) (q116 : Nat) (q120 : Nat) (q124 : Nat) (q562 : Nat) (z565 : Nat) (z566 : Nat) (z567 : Nat) (z568 : Nat) (z569 : Nat) (q571 : Nat) (q574 : Nat) (q577 : Nat) (q580 : Nat) (q583 : Nat) (q586 : Nat) (q599 : Nat) (q600 : Nat) (q601 : Nat) (q602 : Nat) (j : Nat) (v : Int32) (hj : j < 4096) (hx1 : xs 1 = (nI j)) (hx2 : xs 2 = v) (kk : ∀ (H : Heap) (locs : List Loc) (ls : Array Slot), va_S A s.heap H locs → lv_has ls 7 [(4, .int 0), (0, .ref b)] → W p l e room_1 s m args below meth c H locs 600002 7302232 Q (F0 m 847 ls [])) (hP : va_P D classes [(dm, .inr (0, [.ref q83, .ref q84, .ref q89, .ref q95, .ref q101, .ref q107, .ref q116, .ref q120, .ref q124])), (q83, .inl (cI, 4096, .inl (fun _ => 0))), (ou, .inl (cL, 1, .inr (.inl (fun _ => 0)))), (md, .inr (12, [.int 0, .int 1, .int 1, .ref q562, .ref q571, .ref q574, .ref q577, .ref q580, .ref q583, .ref q586, .int 0, .int (-1), .int 0, .int 0, .long 0, .ref q599, .ref q600, .ref q601, .ref q602])), (q562, .inr (13, [.int 0, .ref z565, .int 1, .int 1, .ref z566, .int 0, .int 0, .int 0, .ref z567, .int 0, .int 0, .int (-1), .int (-1), .int 0, .int (-1), .int 0, .ref z568, .ref z569])), (z565, .inl (cI, 4096, .inl (fun _ => 0)))] H) (hD : va_D A [(dm, .inr (0, [.ref q83, .ref q84, .ref q89, .ref q95, .ref q101, .ref q107, .ref q116, .ref q120, .ref q124])), (q83, .inl (cI, 4096, .inl (fun _ => 0))), (ou, .inl (cL, 1, .inr (.inl (fun _ => 0)))), (md, .inr (12, [.int 0, .int 1, .int 1, .ref q562, .ref q571, .ref q574, .ref q577, .ref q580, .ref q583, .ref q586, .int 0, .int (-1), .int 0, .int 0, .long 0, .ref q599, .ref q600, .ref q601, .ref q602])), (q562, .inr (13, [.int 0, .ref z565, .int 1, .int 1, .ref z566, .int 0, .int 0, .int 0, .ref z567, .int 0, .int 0, .int (-1), .int (-1), .int 0, .int (-1), .int 0, .ref z568, .ref z569])), (z565, .inl (cI, 4096, .inl (fun _ => 0)))]) (hS : va_S A s.heap H locs) (hl : lv_has ls 7 [(4, .int 0), (3, .ref ou), (2, .ref md), (1, .ref dm), (0, .ref b)]) : W p l e room_1 s m args below meth c H locs 138 124625 Q (F0 m 184 ls []) := by
  refine lv_aload_n hx hb d_law_184 rfl (lv_at hl 3 rfl) ?_
  refine lv_aload_n hx hb d_law_185 rfl (lv_at hl 4 rfl) ?_
  refine lv_iload hx hb d_law_186 (lv_at hl 0 rfl) ?_
  refine lv_iconst (v := 1) hx hb d_law_188 (by decide) ?_
  refine lv_iadd hx hb d_law_189 ?_
  refine wi_c (v := 1) (by decide) ?_
  refine va_sld hx hb hX hbl hbA hS (by unfold vp_in; decide) d_law_190 ?_
  refine wi_c (v := (nI j)) (hx1) ?_
  refine lv_aload_n hx hb d_law_191 rfl (lv_at hl 4 rfl) ?_
  refine lv_iload hx hb d_law_192 (lv_at hl 0 rfl) ?_
  refine lv_iconst (v := 2) hx hb d_law_194 (by decide) ?_
  refine lv_iadd hx hb d_law_195 ?_
  refine wi_c (v := 2) (by decide) ?_
  refine va_sld hx hb hX hbl hbA hS (by unfold vp_in; decide) d_law_196 ?_
  refine wi_c (v := v) (hx2) ?_
  refine lv_aload_n hx hb d_law_197 rfl (lv_at hl 1 rfl) ?_
  refine wc_i (wr := [(md, .inr (12, [.int 0, .int 1, .int 1, .ref q562, .ref q571, .ref q574, .ref q577, .ref q580, .ref q583, .ref q586, .int 0, .int (-1), .int 0, .int 0, .long 0, .ref q599, .ref q600, .ref q601, .ref q602])), (q562, .inr (13, [.int 0, .ref z565, .int 1, .int 1, .ref z566, .int 0, .int 0, .int 0, .ref z567, .int 0, .int 0, .int (-1), .int (-1), .int 0, .int (-1), .int 0, .ref z568, .ref z569])), (z565, .inl (cI, 4096, .inl (fun _ => 0)))]) hC hP hD hS [0, 1, 2] [3, 4, 5] rfl rfl (by decide) (by decide) (tq_runSW (n := 4) (hh := [(0, 10, 13, 19)]) (As := [.ref dm, .int (nI j), .int v, .ref ou]) (rest := []) ⟨hx, hb, hml, hown, htw⟩ (c_hword_g l D cI cL B _ dm q83 q84 q89 q95 q101 q107 q116 q120 q124 j v ou (hj)) htw (tw_goodW (fun _ h => h) k769) rfl rfl rfl ⟨Nat.le_of_ble_eq_true rfl, Nat.le_of_ble_eq_true rfl⟩ (htw _ k237) (by decide +kernel) (htw _ k827) (htw _ k828) (wC_pre hC hP hD hS [0, 1, 2] (by decide) rfl) rfl rfl hl.1 rfl (lv_room (Nat.le_of_ble_eq_true rfl)) d_law_198 ⟨Nat.le_of_ble_eq_true rfl, Nat.le_of_ble_eq_true rfl⟩) (fun r1448 u1446 H locs hw1447 hP hD hS => ?_)
  obtain rfl : r1448 = 0 := hw1447
  have hP : va_P D classes [(md, .inr (12, [.int 0, .int 1, .int 1, .ref q562, .ref q571, .ref q574, .ref q577, .ref q580, .ref q583, .ref q586, .int 0, .int (-1), .int 0, .int 0, .long 0, .ref q599, .ref q600, .ref q601, .ref q602])), (q562, .inr (13, [.int 0, .ref z565, .int 1, .int 1, .ref z566, .int 0, .int 0, .int 0, .ref z567, .int 0, .int 0, .int (-1), .int (-1), .int 0, .int (-1), .int 0, .ref z568, .ref z569])), (z565, .inl (cI, 4096, .inl (fun _ => 0))), (ou, .inl (cL, 1, .inr (.inl (vp_updL (fun _ => 0) (0 : Int32).toNatClampNeg 0))))] H := hP
  have hD : va_D A [(md, .inr (12, [.int 0, .int 1, .int 1, .ref q562, .ref q571, .ref q574, .ref q577, .ref q580, .ref q583, .ref q586, .int 0, .int (-1), .int 0, .int 0, .long 0, .ref q599, .ref q600, .ref q601, .ref q602])), (q562, .inr (13, [.int 0, .ref z565, .int 1, .int 1, .ref z566, .int 0, .int 0, .int 0, .ref z567, .int 0, .int 0, .int (-1), .int (-1), .int 0, .int (-1), .int 0, .ref z568, .ref z569])), (z565, .inl (cI, 4096, .inl (fun _ => 0))), (ou, .inl (cL, 1, .inr (.inl (vp_updL (fun _ => 0) (0 : Int32).toNatClampNeg 0))))] := hD
  refine W.widen (k := 138) (n := 124625) (by omega) (by omega) ?_
  refine lv_istore (lv' := [(5, .int 0), (4, .int 0), (3, .ref ou), (2, .ref md), (1, .ref dm), (0, .ref b)]) hx hb d_law_201 hl (by decide) rfl (fun ls hl => ?_)
  refine lv_aload_n hx hb d_law_203 rfl (lv_at hl 3 rfl) ?_
  refine lv_aload_n hx hb d_law_204 rfl (lv_at hl 5 rfl) ?_
  refine lv_iload hx hb d_law_205 (lv_at hl 1 rfl) ?_
  refine lv_iconst (v := 1) hx hb d_law_207 (by decide) ?_
  refine lv_iadd hx hb d_law_208 ?_
  refine wi_c (v := 1) (by decide) ?_
  refine va_sld hx hb hX hbl hbA hS (by unfold vp_in; decide) d_law_209 ?_
  refine wi_c (v := (nI j)) (hx1) ?_
  refine lv_aload_n hx hb d_law_210 rfl (lv_at hl 5 rfl) ?_
  refine lv_iload hx hb d_law_211 (lv_at hl 1 rfl) ?_
  refine lv_iconst (v := 2) hx hb d_law_213 (by decide) ?_
  refine lv_iadd hx hb d_law_214 ?_
  refine wi_c (v := 2) (by decide) ?_
  refine va_sld hx hb hX hbl hbA hS (by unfold vp_in; decide) d_law_215 ?_
  refine wi_c (v := v) (hx2) ?_
  refine wc_i (wr := [(ou, .inl (cL, 1, .inr (.inl (vp_updL (fun _ => 0) (0 : Int32).toNatClampNeg 0))))]) hC hP hD hS [0, 1, 2] [3] rfl rfl (by decide) (by decide) (va_runV (As := [.int (nI j), .int v]) (rest := []) ⟨hx, hb, hml, hown, htw⟩ (c_Mword_g l D cI cL B _ md q562 z565 z566 z567 z568 z569 q571 q574 q577 q580 q583 q586 q599 q600 q601 q602 j v (hj)) (cwV 2 htw gV_law_72 rfl rfl rfl (by decide +kernel) ⟨Nat.le_of_ble_eq_true rfl, Nat.le_of_ble_eq_true rfl⟩) (wC_preV (As := [.int (nI j), .int v]) hC hP hD hS [0, 1, 2] (by decide) rfl (q0 := 0) rfl rfl) rfl rfl hl.1 rfl (lv_room (Nat.le_of_ble_eq_true rfl)) d_law_216 ⟨Nat.le_of_ble_eq_true rfl, Nat.le_of_ble_eq_true rfl⟩) (fun r1451 u1449 H locs hw1450 hP hD hS => ?_)
  obtain rfl : r1451 = 0 := hw1450
  have hP : va_P D classes [(ou, .inl (cL, 1, .inr (.inl (vp_updL (fun _ => 0) (0 : Int32).toNatClampNeg 0)))), (md, .inr (12, [.int 0, .int 1, .int 1, .ref q562, .ref q571, .ref q574, .ref q577, .ref q580, .ref q583, .ref q586, .int 0, .int (-1), .int 0, .int 0, .long 0, .ref q599, .ref q600, .ref q601, .ref q602]))] H := hP
  have hD : va_D A [(ou, .inl (cL, 1, .inr (.inl (vp_updL (fun _ => 0) (0 : Int32).toNatClampNeg 0)))), (md, .inr (12, [.int 0, .int 1, .int 1, .ref q562, .ref q571, .ref q574, .ref q577, .ref q580, .ref q583, .ref q586, .int 0, .int (-1), .int 0, .int 0, .long 0, .ref q599, .ref q600, .ref q601, .ref q602]))] := hD
  refine W.widen (k := 138) (n := 124625) (by omega) (by omega) ?_
  refine lv_istore (lv' := [(6, .int 0), (5, .int 0), (4, .int 0), (3, .ref ou), (2, .ref md), (1, .ref dm), (0, .ref b)]) hx hb d_law_219 hl (by decide) rfl (fun ls hl => ?_)
  refine lv_aload_n hx hb d_law_221 rfl (lv_at hl 4 rfl) ?_
  refine wc_i (wr := [(ou, .inl (cL, 1, .inr (.inl (vp_updL (fun _ => 0) (0 : Int32).toNatClampNeg 0))))]) hC hP hD hS [1] [0] rfl rfl (by decide) (by decide) (va_runV (As := []) (rest := []) ⟨hx, hb, hml, hown, htw⟩ (c_thrown l D cI cL B _ md 0 1 1 q562 q571 q574 q577 q580 q583 q586 0 (-1) 0 0 0 q599 q600 q601 q602) (cwV 0 htw gV_law_65 rfl rfl rfl (by decide +kernel) ⟨Nat.le_of_ble_eq_true rfl, Nat.le_of_ble_eq_true rfl⟩) (wC_preV (As := []) hC hP hD hS [1] (by decide) rfl (q0 := 1) rfl rfl) rfl rfl hl.1 rfl (lv_room (Nat.le_of_ble_eq_true rfl)) d_law_222 ⟨Nat.le_of_ble_eq_true rfl, Nat.le_of_ble_eq_true rfl⟩) (fun r1454 u1452 H locs hw1453 hP hD hS => ?_)
  obtain rfl : r1454 = 0 := hw1453
  have hP : va_P D classes [(ou, .inl (cL, 1, .inr (.inl (vp_updL (fun _ => 0) (0 : Int32).toNatClampNeg 0)))), (md, .inr (12, [.int 0, .int 1, .int 1, .ref q562, .ref q571, .ref q574, .ref q577, .ref q580, .ref q583, .ref q586, .int 0, .int (-1), .int 0, .int 0, .long 0, .ref q599, .ref q600, .ref q601, .ref q602]))] H := hP
  have hD : va_D A [(ou, .inl (cL, 1, .inr (.inl (vp_updL (fun _ => 0) (0 : Int32).toNatClampNeg 0)))), (md, .inr (12, [.int 0, .int 1, .int 1, .ref q562, .ref q571, .ref q574, .ref q577, .ref q580, .ref q583, .ref q586, .int 0, .int (-1), .int 0, .int 0, .long 0, .ref q599, .ref q600, .ref q601, .ref q602]))] := hD
  refine W.widen (k := 138) (n := 124625) (by omega) (by omega) ?_
  refine lv_iload hx hb d_law_225 (lv_at hl 1 rfl) ?_
  refine lv_icmp_eq (tgt := 232) hx hb d_law_227 (by decide) (fun c_1455 => ?_) (fun c_1455 => absurd c_1455 (by decide))
  refine lv_iload hx hb d_law_232 (lv_at hl 1 rfl) ?_
  refine lv_if_ne (tgt := 249) hx hb d_law_234 (by decide) (fun c_1456 => absurd c_1456 (by decide)) (fun c_1456 => ?_)
  refine lv_aload_n hx hb d_law_237 rfl (lv_at hl 3 rfl) ?_
  refine lv_iconst (v := 0) hx hb d_law_238 (by decide) ?_
  refine va_lald hx hb hC.1 hP 0 1 rfl rfl (by unfold vp_in; decide) d_law_239 ?_
  refine wl_c (v := 0) updL_0 ?_
  refine lv_iload hx hb d_law_240 (lv_at hl 0 rfl) ?_
  refine lv_i2l (v := 0) hx hb d_law_242 (by decide) ?_
  refine W.lcmp hx hb d_law_243 ?_
  refine wi_c (v := 0) (by decide) ?_
  refine lv_if_eq (tgt := 249) hx hb d_law_244 (by decide) (fun c_1457 => ?_) (fun c_1457 => absurd c_1457 (by decide))
  refine lv_goto (tgt := 847) hx hb d_law_249 (by decide) ?_
  refine W.widen (k := 600002) (n := 7302232) (by omega) (by omega) ?_
  exact kk _ _ _ hS (lv_sub hl [2, 6] rfl)

set_option maxHeartbeats 4000000 in
set_option maxRecDepth 100000 in
theorem lc_word_b {p : Program} {l : Launch} {e : Env} {s : State} {m : MethodId} {args : Array Value} {below : List Frame} {meth : Method} {c : Code} {Q : State → Prop} {A : Nat → Prop} {b : Nat} {xs : Nat → Int32} {H : Heap} {locs : List Loc} {ls : Array Slot} (hfl : l.stackTraces = false) (D : va_G) (cI cL : ClassId) (B : Nat) (hx : p.tables.exec = Jvm.exec) (hb : c.code = code) (hml : c.maxLocals = 7) (hown : s.vm.findClass "DrawingMachineLaw" = some m.cls) (htw : ∀ w ∈ tw, w.before args s = true) (hC : wC D cI cL B A s) (hX : va_X b 6 xs s s.heap) (hbl : b < s.heap.size) (hbA : ¬ A b) (dm : Nat) (md : Nat) (ou : Nat) (q83 : Nat) (q84 : Nat) (q89 : Nat) (q95 : Nat) (q101 : Nat) (q107 : Nat) (q116 : Nat) (q120 : Nat) (q124 : Nat) (q562 : Nat) (q571 : Nat) (q574 : Nat) (q577 : Nat) (q580 : Nat) (q583 : Nat) (q586 : Nat) (q599 : Nat) (q600 : Nat) (q601 : Nat) (q602 : Nat) (x : Int32) (v : Int32) (h1 : x < 0 ∨ 4096 ≤ x) (h2 : x < 0 ∨ 4095 < x) (hx1 : xs 1 = x) (hx2 : xs 2 = v) (kk : ∀ (H : Heap) (locs : List Loc) (ls : Array Slot), va_S A s.heap H locs → lv_has ls 7 [(4, .int 0), (0, .ref b)] → W p l e room_1 s m args below meth c H locs 600002 7302232 Q (F0 m 847 ls [])) (hP : va_P D classes [(dm, .inr (0, [.ref q83, .ref q84, .ref q89, .ref q95, .ref q101, .ref q107, .ref q116, .ref q120, .ref q124])), (ou, .inl (cL, 1, .inr (.inl (fun _ => 0)))), (md, .inr (12, [.int 0, .int 1, .int 1, .ref q562, .ref q571, .ref q574, .ref q577, .ref q580, .ref q583, .ref q586, .int 0, .int (-1), .int 0, .int 0, .long 0, .ref q599, .ref q600, .ref q601, .ref q602]))] H) (hD : va_D A [(dm, .inr (0, [.ref q83, .ref q84, .ref q89, .ref q95, .ref q101, .ref q107, .ref q116, .ref q120, .ref q124])), (ou, .inl (cL, 1, .inr (.inl (fun _ => 0)))), (md, .inr (12, [.int 0, .int 1, .int 1, .ref q562, .ref q571, .ref q574, .ref q577, .ref q580, .ref q583, .ref q586, .int 0, .int (-1), .int 0, .int 0, .long 0, .ref q599, .ref q600, .ref q601, .ref q602]))]) (hS : va_S A s.heap H locs) (hl : lv_has ls 7 [(4, .int 0), (3, .ref ou), (2, .ref md), (1, .ref dm), (0, .ref b)]) : W p l e room_1 s m args below meth c H locs 138 124625 Q (F0 m 184 ls []) := by
  refine lv_aload_n hx hb d_law_184 rfl (lv_at hl 3 rfl) ?_
  refine lv_aload_n hx hb d_law_185 rfl (lv_at hl 4 rfl) ?_
  refine lv_iload hx hb d_law_186 (lv_at hl 0 rfl) ?_
  refine lv_iconst (v := 1) hx hb d_law_188 (by decide) ?_
  refine lv_iadd hx hb d_law_189 ?_
  refine wi_c (v := 1) (by decide) ?_
  refine va_sld hx hb hX hbl hbA hS (by unfold vp_in; decide) d_law_190 ?_
  refine wi_c (v := x) (hx1) ?_
  refine lv_aload_n hx hb d_law_191 rfl (lv_at hl 4 rfl) ?_
  refine lv_iload hx hb d_law_192 (lv_at hl 0 rfl) ?_
  refine lv_iconst (v := 2) hx hb d_law_194 (by decide) ?_
  refine lv_iadd hx hb d_law_195 ?_
  refine wi_c (v := 2) (by decide) ?_
  refine va_sld hx hb hX hbl hbA hS (by unfold vp_in; decide) d_law_196 ?_
  refine wi_c (v := v) (hx2) ?_
  refine lv_aload_n hx hb d_law_197 rfl (lv_at hl 1 rfl) ?_
  refine wc_i (wr := [(md, .inr (12, [.int 0, .int 1, .int 1, .ref q562, .ref q571, .ref q574, .ref q577, .ref q580, .ref q583, .ref q586, .int 0, .int (-1), .int 0, .int 0, .long 0, .ref q599, .ref q600, .ref q601, .ref q602]))]) hC hP hD hS [0, 1] [2] rfl rfl (by decide) (by decide) (tq_runSW (n := 4) (hh := [(0, 10, 13, 19)]) (As := [.ref dm, .int x, .int v, .ref ou]) (rest := []) ⟨hx, hb, hml, hown, htw⟩ (c_hword_b l hfl D cI cL B _ dm q83 q84 q89 q95 q101 q107 q116 q120 q124 x v ou (h1)) htw (tw_goodW (fun _ h => h) k769) rfl rfl rfl ⟨Nat.le_of_ble_eq_true rfl, Nat.le_of_ble_eq_true rfl⟩ (htw _ k237) (by decide +kernel) (htw _ k827) (htw _ k828) (wC_pre hC hP hD hS [0, 1] (by decide) rfl) rfl rfl hl.1 rfl (lv_room (Nat.le_of_ble_eq_true rfl)) d_law_198 ⟨Nat.le_of_ble_eq_true rfl, Nat.le_of_ble_eq_true rfl⟩) (fun r1460 u1458 H locs hw1459 hP hD hS => ?_)
  obtain rfl : r1460 = 1 := hw1459
  have hP : va_P D classes [(md, .inr (12, [.int 0, .int 1, .int 1, .ref q562, .ref q571, .ref q574, .ref q577, .ref q580, .ref q583, .ref q586, .int 0, .int (-1), .int 0, .int 0, .long 0, .ref q599, .ref q600, .ref q601, .ref q602]))] H := hP
  have hD : va_D A [(md, .inr (12, [.int 0, .int 1, .int 1, .ref q562, .ref q571, .ref q574, .ref q577, .ref q580, .ref q583, .ref q586, .int 0, .int (-1), .int 0, .int 0, .long 0, .ref q599, .ref q600, .ref q601, .ref q602]))] := hD
  refine W.widen (k := 139) (n := 124631) (by omega) (by omega) ?_
  refine lv_istore (lv' := [(5, .int 1), (4, .int 0), (3, .ref ou), (2, .ref md), (1, .ref dm), (0, .ref b)]) hx hb d_law_201 hl (by decide) rfl (fun ls hl => ?_)
  refine lv_aload_n hx hb d_law_203 rfl (lv_at hl 3 rfl) ?_
  refine lv_aload_n hx hb d_law_204 rfl (lv_at hl 5 rfl) ?_
  refine lv_iload hx hb d_law_205 (lv_at hl 1 rfl) ?_
  refine lv_iconst (v := 1) hx hb d_law_207 (by decide) ?_
  refine lv_iadd hx hb d_law_208 ?_
  refine wi_c (v := 1) (by decide) ?_
  refine va_sld hx hb hX hbl hbA hS (by unfold vp_in; decide) d_law_209 ?_
  refine wi_c (v := x) (hx1) ?_
  refine lv_aload_n hx hb d_law_210 rfl (lv_at hl 5 rfl) ?_
  refine lv_iload hx hb d_law_211 (lv_at hl 1 rfl) ?_
  refine lv_iconst (v := 2) hx hb d_law_213 (by decide) ?_
  refine lv_iadd hx hb d_law_214 ?_
  refine wi_c (v := 2) (by decide) ?_
  refine va_sld hx hb hX hbl hbA hS (by unfold vp_in; decide) d_law_215 ?_
  refine wi_c (v := v) (hx2) ?_
  refine wc_i (wr := []) hC hP hD hS [0] [] rfl rfl (by decide) (by decide) (va_runV (As := [.int x, .int v]) (rest := []) ⟨hx, hb, hml, hown, htw⟩ (c_Mword_b l D cI cL B _ md q562 q571 q574 q577 q580 q583 q586 q599 q600 q601 q602 x v (h2)) (cwV 2 htw gV_law_72 rfl rfl rfl (by decide +kernel) ⟨Nat.le_of_ble_eq_true rfl, Nat.le_of_ble_eq_true rfl⟩) (wC_preV (As := [.int x, .int v]) hC hP hD hS [0] (by decide) rfl (q0 := 0) rfl rfl) rfl rfl hl.1 rfl (lv_room (Nat.le_of_ble_eq_true rfl)) d_law_216 ⟨Nat.le_of_ble_eq_true rfl, Nat.le_of_ble_eq_true rfl⟩) (fun r1463 u1461 H locs hw1462 hP hD hS => ?_)
  obtain rfl : r1463 = 0 := hw1462
  have hP : va_P D classes [(md, .inr (12, [.int 1, .int 1, .int 1, .ref q562, .ref q571, .ref q574, .ref q577, .ref q580, .ref q583, .ref q586, .int 0, .int (-1), .int 0, .int 0, .long 0, .ref q599, .ref q600, .ref q601, .ref q602]))] H := hP
  have hD : va_D A [(md, .inr (12, [.int 1, .int 1, .int 1, .ref q562, .ref q571, .ref q574, .ref q577, .ref q580, .ref q583, .ref q586, .int 0, .int (-1), .int 0, .int 0, .long 0, .ref q599, .ref q600, .ref q601, .ref q602]))] := hD
  refine W.widen (k := 139) (n := 124631) (by omega) (by omega) ?_
  refine lv_istore (lv' := [(6, .int 0), (5, .int 1), (4, .int 0), (3, .ref ou), (2, .ref md), (1, .ref dm), (0, .ref b)]) hx hb d_law_219 hl (by decide) rfl (fun ls hl => ?_)
  refine lv_aload_n hx hb d_law_221 rfl (lv_at hl 4 rfl) ?_
  refine wc_i (wr := []) hC hP hD hS [0] [] rfl rfl (by decide) (by decide) (va_runV (As := []) (rest := []) ⟨hx, hb, hml, hown, htw⟩ (c_thrown l D cI cL B _ md 1 1 1 q562 q571 q574 q577 q580 q583 q586 0 (-1) 0 0 0 q599 q600 q601 q602) (cwV 0 htw gV_law_65 rfl rfl rfl (by decide +kernel) ⟨Nat.le_of_ble_eq_true rfl, Nat.le_of_ble_eq_true rfl⟩) (wC_preV (As := []) hC hP hD hS [0] (by decide) rfl (q0 := 0) rfl rfl) rfl rfl hl.1 rfl (lv_room (Nat.le_of_ble_eq_true rfl)) d_law_222 ⟨Nat.le_of_ble_eq_true rfl, Nat.le_of_ble_eq_true rfl⟩) (fun r1466 u1464 H locs hw1465 hP hD hS => ?_)
  obtain rfl : r1466 = 1 := hw1465
  have hP : va_P D classes [(md, .inr (12, [.int 1, .int 1, .int 1, .ref q562, .ref q571, .ref q574, .ref q577, .ref q580, .ref q583, .ref q586, .int 0, .int (-1), .int 0, .int 0, .long 0, .ref q599, .ref q600, .ref q601, .ref q602]))] H := hP
  have hD : va_D A [(md, .inr (12, [.int 1, .int 1, .int 1, .ref q562, .ref q571, .ref q574, .ref q577, .ref q580, .ref q583, .ref q586, .int 0, .int (-1), .int 0, .int 0, .long 0, .ref q599, .ref q600, .ref q601, .ref q602]))] := hD
  refine W.widen (k := 139) (n := 124631) (by omega) (by omega) ?_
  refine lv_iload hx hb d_law_225 (lv_at hl 1 rfl) ?_
  refine lv_icmp_eq (tgt := 232) hx hb d_law_227 (by decide) (fun c_1467 => ?_) (fun c_1467 => absurd c_1467 (by decide))
  refine lv_iload hx hb d_law_232 (lv_at hl 1 rfl) ?_
  refine lv_if_ne (tgt := 249) hx hb d_law_234 (by decide) (fun c_1468 => ?_) (fun c_1468 => absurd c_1468 (by decide))
  refine lv_goto (tgt := 847) hx hb d_law_249 (by decide) ?_
  refine W.widen (k := 600002) (n := 7302232) (by omega) (by omega) ?_
  exact kk _ _ _ hS (lv_sub hl [2, 6] rfl)

theorem d_law_252 : decode code 252 = .ok (.aload_n 1, 1) := by decide +kernel
theorem d_law_253 : decode code 253 = .ok (.aload_n 0, 1) := by decide +kernel
theorem d_law_254 : decode code 254 = .ok (.iload 4, 2) := by decide +kernel
theorem d_law_256 : decode code 256 = .ok (.iconst 1, 1) := by decide +kernel
theorem d_law_257 : decode code 257 = .ok (.iadd, 1) := by decide +kernel
theorem d_law_258 : decode code 258 = .ok (.iaload, 1) := by decide +kernel
theorem d_law_259 : decode code 259 = .ok (.aload_n 3, 1) := by decide +kernel
theorem d_law_260 : decode code 260 = .ok (.invokestatic 73, 3) := by decide +kernel
theorem d_law_263 : decode code 263 = .ok (.istore 5, 2) := by decide +kernel
theorem d_law_265 : decode code 265 = .ok (.aload_n 2, 1) := by decide +kernel
theorem d_law_266 : decode code 266 = .ok (.aload_n 0, 1) := by decide +kernel
theorem d_law_267 : decode code 267 = .ok (.iload 4, 2) := by decide +kernel
theorem d_law_269 : decode code 269 = .ok (.iconst 1, 1) := by decide +kernel
theorem d_law_270 : decode code 270 = .ok (.iadd, 1) := by decide +kernel
theorem d_law_271 : decode code 271 = .ok (.iaload, 1) := by decide +kernel
theorem d_law_272 : decode code 272 = .ok (.invokevirtual 76, 3) := by decide +kernel
theorem d_law_275 : decode code 275 = .ok (.istore 6, 2) := by decide +kernel
theorem d_law_277 : decode code 277 = .ok (.aload_n 2, 1) := by decide +kernel
theorem d_law_278 : decode code 278 = .ok (.invokevirtual 65, 3) := by decide +kernel
theorem d_law_281 : decode code 281 = .ok (.iload 5, 2) := by decide +kernel
theorem d_law_283 : decode code 283 = .ok (.if_icmp .eq 5, 3) := by decide +kernel
theorem d_law_288 : decode code 288 = .ok (.iload 5, 2) := by decide +kernel
theorem d_law_290 : decode code 290 = .ok (.ifCond .ne 15, 3) := by decide +kernel
theorem d_law_293 : decode code 293 = .ok (.aload_n 3, 1) := by decide +kernel
theorem d_law_294 : decode code 294 = .ok (.iconst 0, 1) := by decide +kernel
theorem d_law_295 : decode code 295 = .ok (.laload, 1) := by decide +kernel
theorem d_law_296 : decode code 296 = .ok (.iload 6, 2) := by decide +kernel
theorem d_law_298 : decode code 298 = .ok (.i2l, 1) := by decide +kernel
theorem d_law_299 : decode code 299 = .ok (.lcmp, 1) := by decide +kernel
theorem d_law_300 : decode code 300 = .ok (.ifCond .eq 5, 3) := by decide +kernel
theorem d_law_305 : decode code 305 = .ok (.goto 542, 3) := by decide +kernel
theorem gV_law_76 : GoodIn tw (wsV "DrawingMachineLaw" 76 "DrawingMachineModel" y_Mod_look ((Cond.code y_Mod_look prog_14_method_7_code 2 (some .int)) :: tw)) := tw_pre (fun _ h => h) (tw_good (fun _ h => h) k649) (List.forall_mem_cons.mpr ⟨k834, List.forall_mem_cons.mpr ⟨k835, List.forall_mem_cons.mpr ⟨k836, List.forall_mem_cons.mpr ⟨k116, fun _ h => absurd h List.not_mem_nil⟩⟩⟩⟩)
set_option maxHeartbeats 4000000 in
set_option maxRecDepth 100000 in
theorem lc_look_g {p : Program} {l : Launch} {e : Env} {s : State} {m : MethodId} {args : Array Value} {below : List Frame} {meth : Method} {c : Code} {Q : State → Prop} {A : Nat → Prop} {b : Nat} {xs : Nat → Int32} {H : Heap} {locs : List Loc} {ls : Array Slot} (hfl : l.stackTraces = false) (D : va_G) (cI cL : ClassId) (B : Nat) (hx : p.tables.exec = Jvm.exec) (hb : c.code = code) (hml : c.maxLocals = 7) (hown : s.vm.findClass "DrawingMachineLaw" = some m.cls) (htw : ∀ w ∈ tw, w.before args s = true) (hC : wC D cI cL B A s) (hX : va_X b 6 xs s s.heap) (hbl : b < s.heap.size) (hbA : ¬ A b) (dm : Nat) (md : Nat) (ou : Nat) (q83 : Nat) (q84 : Nat) (q89 : Nat) (q95 : Nat) (q101 : Nat) (q107 : Nat) (q116 : Nat) (q120 : Nat) (q124 : Nat) (q562 : Nat) (z565 : Nat) (z566 : Nat) (z567 : Nat) (z568 : Nat) (z569 : Nat) (q571 : Nat) (q574 : Nat) (q577 : Nat) (q580 : Nat) (q583 : Nat) (q586 : Nat) (q599 : Nat) (q600 : Nat) (q601 : Nat) (q602 : Nat) (j : Nat) (hj : j < 4096) (hx1 : xs 1 = (nI j)) (kk : ∀ (H : Heap) (locs : List Loc) (ls : Array Slot), va_S A s.heap H locs → lv_has ls 7 [(4, .int 0), (0, .ref b)] → W p l e room_1 s m args below meth c H locs 600002 7302232 Q (F0 m 847 ls [])) (hP : va_P D classes [(dm, .inr (0, [.ref q83, .ref q84, .ref q89, .ref q95, .ref q101, .ref q107, .ref q116, .ref q120, .ref q124])), (q83, .inl (cI, 4096, .inl (fun _ => 0))), (ou, .inl (cL, 1, .inr (.inl (fun _ => 0)))), (md, .inr (12, [.int 0, .int 1, .int 1, .ref q562, .ref q571, .ref q574, .ref q577, .ref q580, .ref q583, .ref q586, .int 0, .int (-1), .int 0, .int 0, .long 0, .ref q599, .ref q600, .ref q601, .ref q602])), (q562, .inr (13, [.int 0, .ref z565, .int 1, .int 1, .ref z566, .int 0, .int 0, .int 0, .ref z567, .int 0, .int 0, .int (-1), .int (-1), .int 0, .int (-1), .int 0, .ref z568, .ref z569])), (z565, .inl (cI, 4096, .inl (fun _ => 0)))] H) (hD : va_D A [(dm, .inr (0, [.ref q83, .ref q84, .ref q89, .ref q95, .ref q101, .ref q107, .ref q116, .ref q120, .ref q124])), (q83, .inl (cI, 4096, .inl (fun _ => 0))), (ou, .inl (cL, 1, .inr (.inl (fun _ => 0)))), (md, .inr (12, [.int 0, .int 1, .int 1, .ref q562, .ref q571, .ref q574, .ref q577, .ref q580, .ref q583, .ref q586, .int 0, .int (-1), .int 0, .int 0, .long 0, .ref q599, .ref q600, .ref q601, .ref q602])), (q562, .inr (13, [.int 0, .ref z565, .int 1, .int 1, .ref z566, .int 0, .int 0, .int 0, .ref z567, .int 0, .int 0, .int (-1), .int (-1), .int 0, .int (-1), .int 0, .ref z568, .ref z569])), (z565, .inl (cI, 4096, .inl (fun _ => 0)))]) (hS : va_S A s.heap H locs) (hl : lv_has ls 7 [(4, .int 0), (3, .ref ou), (2, .ref md), (1, .ref dm), (0, .ref b)]) : W p l e room_1 s m args below meth c H locs 138 124625 Q (F0 m 252 ls []) := by
  refine lv_aload_n hx hb d_law_252 rfl (lv_at hl 3 rfl) ?_
  refine lv_aload_n hx hb d_law_253 rfl (lv_at hl 4 rfl) ?_
  refine lv_iload hx hb d_law_254 (lv_at hl 0 rfl) ?_
  refine lv_iconst (v := 1) hx hb d_law_256 (by decide) ?_
  refine lv_iadd hx hb d_law_257 ?_
  refine wi_c (v := 1) (by decide) ?_
  refine va_sld hx hb hX hbl hbA hS (by unfold vp_in; decide) d_law_258 ?_
  refine wi_c (v := (nI j)) (hx1) ?_
  refine lv_aload_n hx hb d_law_259 rfl (lv_at hl 1 rfl) ?_
  refine wc_i (wr := [(md, .inr (12, [.int 0, .int 1, .int 1, .ref q562, .ref q571, .ref q574, .ref q577, .ref q580, .ref q583, .ref q586, .int 0, .int (-1), .int 0, .int 0, .long 0, .ref q599, .ref q600, .ref q601, .ref q602])), (q562, .inr (13, [.int 0, .ref z565, .int 1, .int 1, .ref z566, .int 0, .int 0, .int 0, .ref z567, .int 0, .int 0, .int (-1), .int (-1), .int 0, .int (-1), .int 0, .ref z568, .ref z569])), (z565, .inl (cI, 4096, .inl (fun _ => 0)))]) hC hP hD hS [0, 1, 2] [3, 4, 5] rfl rfl (by decide) (by decide) (tq_runSW (n := 3) (hh := [(0, 9, 12, 19)]) (As := [.ref dm, .int (nI j), .ref ou]) (rest := []) ⟨hx, hb, hml, hown, htw⟩ (c_hlook_g l D cI cL B _ dm q83 q84 q89 q95 q101 q107 q116 q120 q124 j ou (hj)) htw (tw_goodW (fun _ h => h) k773) rfl rfl rfl ⟨Nat.le_of_ble_eq_true rfl, Nat.le_of_ble_eq_true rfl⟩ (htw _ k237) (by decide +kernel) (htw _ k832) (htw _ k833) (wC_pre hC hP hD hS [0, 1, 2] (by decide) rfl) rfl rfl hl.1 rfl (lv_room (Nat.le_of_ble_eq_true rfl)) d_law_260 ⟨Nat.le_of_ble_eq_true rfl, Nat.le_of_ble_eq_true rfl⟩) (fun r1471 u1469 H locs hw1470 hP hD hS => ?_)
  obtain rfl : r1471 = 0 := hw1470
  have hP : va_P D classes [(md, .inr (12, [.int 0, .int 1, .int 1, .ref q562, .ref q571, .ref q574, .ref q577, .ref q580, .ref q583, .ref q586, .int 0, .int (-1), .int 0, .int 0, .long 0, .ref q599, .ref q600, .ref q601, .ref q602])), (q562, .inr (13, [.int 0, .ref z565, .int 1, .int 1, .ref z566, .int 0, .int 0, .int 0, .ref z567, .int 0, .int 0, .int (-1), .int (-1), .int 0, .int (-1), .int 0, .ref z568, .ref z569])), (z565, .inl (cI, 4096, .inl (fun _ => 0))), (ou, .inl (cL, 1, .inr (.inl (vp_updL (fun _ => 0) (0 : Int32).toNatClampNeg 0))))] H := hP
  have hD : va_D A [(md, .inr (12, [.int 0, .int 1, .int 1, .ref q562, .ref q571, .ref q574, .ref q577, .ref q580, .ref q583, .ref q586, .int 0, .int (-1), .int 0, .int 0, .long 0, .ref q599, .ref q600, .ref q601, .ref q602])), (q562, .inr (13, [.int 0, .ref z565, .int 1, .int 1, .ref z566, .int 0, .int 0, .int 0, .ref z567, .int 0, .int 0, .int (-1), .int (-1), .int 0, .int (-1), .int 0, .ref z568, .ref z569])), (z565, .inl (cI, 4096, .inl (fun _ => 0))), (ou, .inl (cL, 1, .inr (.inl (vp_updL (fun _ => 0) (0 : Int32).toNatClampNeg 0))))] := hD
  refine W.widen (k := 138) (n := 124625) (by omega) (by omega) ?_
  refine lv_istore (lv' := [(5, .int 0), (4, .int 0), (3, .ref ou), (2, .ref md), (1, .ref dm), (0, .ref b)]) hx hb d_law_263 hl (by decide) rfl (fun ls hl => ?_)
  refine lv_aload_n hx hb d_law_265 rfl (lv_at hl 3 rfl) ?_
  refine lv_aload_n hx hb d_law_266 rfl (lv_at hl 5 rfl) ?_
  refine lv_iload hx hb d_law_267 (lv_at hl 1 rfl) ?_
  refine lv_iconst (v := 1) hx hb d_law_269 (by decide) ?_
  refine lv_iadd hx hb d_law_270 ?_
  refine wi_c (v := 1) (by decide) ?_
  refine va_sld hx hb hX hbl hbA hS (by unfold vp_in; decide) d_law_271 ?_
  refine wi_c (v := (nI j)) (hx1) ?_
  refine wc_i (wr := [(ou, .inl (cL, 1, .inr (.inl (vp_updL (fun _ => 0) (0 : Int32).toNatClampNeg 0))))]) hC hP hD hS [0, 1, 2] [3] rfl rfl (by decide) (by decide) (va_runV (As := [.int (nI j)]) (rest := []) ⟨hx, hb, hml, hown, htw⟩ (c_Mlook_g l D cI cL B _ md q562 z565 z566 z567 z568 z569 q571 q574 q577 q580 q583 q586 q599 q600 q601 q602 j (hj)) (cwV 1 htw gV_law_76 rfl rfl rfl (by decide +kernel) ⟨Nat.le_of_ble_eq_true rfl, Nat.le_of_ble_eq_true rfl⟩) (wC_preV (As := [.int (nI j)]) hC hP hD hS [0, 1, 2] (by decide) rfl (q0 := 0) rfl rfl) rfl rfl hl.1 rfl (lv_room (Nat.le_of_ble_eq_true rfl)) d_law_272 ⟨Nat.le_of_ble_eq_true rfl, Nat.le_of_ble_eq_true rfl⟩) (fun r1474 u1472 H locs hw1473 hP hD hS => ?_)
  obtain rfl : r1474 = 0 := hw1473
  have hP : va_P D classes [(ou, .inl (cL, 1, .inr (.inl (vp_updL (fun _ => 0) (0 : Int32).toNatClampNeg 0)))), (md, .inr (12, [.int 0, .int 1, .int 1, .ref q562, .ref q571, .ref q574, .ref q577, .ref q580, .ref q583, .ref q586, .int 0, .int (-1), .int 0, .int 0, .long 0, .ref q599, .ref q600, .ref q601, .ref q602]))] H := hP
  have hD : va_D A [(ou, .inl (cL, 1, .inr (.inl (vp_updL (fun _ => 0) (0 : Int32).toNatClampNeg 0)))), (md, .inr (12, [.int 0, .int 1, .int 1, .ref q562, .ref q571, .ref q574, .ref q577, .ref q580, .ref q583, .ref q586, .int 0, .int (-1), .int 0, .int 0, .long 0, .ref q599, .ref q600, .ref q601, .ref q602]))] := hD
  refine W.widen (k := 138) (n := 124625) (by omega) (by omega) ?_
  refine lv_istore (lv' := [(6, .int 0), (5, .int 0), (4, .int 0), (3, .ref ou), (2, .ref md), (1, .ref dm), (0, .ref b)]) hx hb d_law_275 hl (by decide) rfl (fun ls hl => ?_)
  refine lv_aload_n hx hb d_law_277 rfl (lv_at hl 4 rfl) ?_
  refine wc_i (wr := [(ou, .inl (cL, 1, .inr (.inl (vp_updL (fun _ => 0) (0 : Int32).toNatClampNeg 0))))]) hC hP hD hS [1] [0] rfl rfl (by decide) (by decide) (va_runV (As := []) (rest := []) ⟨hx, hb, hml, hown, htw⟩ (c_thrown l D cI cL B _ md 0 1 1 q562 q571 q574 q577 q580 q583 q586 0 (-1) 0 0 0 q599 q600 q601 q602) (cwV 0 htw gV_law_65 rfl rfl rfl (by decide +kernel) ⟨Nat.le_of_ble_eq_true rfl, Nat.le_of_ble_eq_true rfl⟩) (wC_preV (As := []) hC hP hD hS [1] (by decide) rfl (q0 := 1) rfl rfl) rfl rfl hl.1 rfl (lv_room (Nat.le_of_ble_eq_true rfl)) d_law_278 ⟨Nat.le_of_ble_eq_true rfl, Nat.le_of_ble_eq_true rfl⟩) (fun r1477 u1475 H locs hw1476 hP hD hS => ?_)
  obtain rfl : r1477 = 0 := hw1476
  have hP : va_P D classes [(ou, .inl (cL, 1, .inr (.inl (vp_updL (fun _ => 0) (0 : Int32).toNatClampNeg 0)))), (md, .inr (12, [.int 0, .int 1, .int 1, .ref q562, .ref q571, .ref q574, .ref q577, .ref q580, .ref q583, .ref q586, .int 0, .int (-1), .int 0, .int 0, .long 0, .ref q599, .ref q600, .ref q601, .ref q602]))] H := hP
  have hD : va_D A [(ou, .inl (cL, 1, .inr (.inl (vp_updL (fun _ => 0) (0 : Int32).toNatClampNeg 0)))), (md, .inr (12, [.int 0, .int 1, .int 1, .ref q562, .ref q571, .ref q574, .ref q577, .ref q580, .ref q583, .ref q586, .int 0, .int (-1), .int 0, .int 0, .long 0, .ref q599, .ref q600, .ref q601, .ref q602]))] := hD
  refine W.widen (k := 138) (n := 124625) (by omega) (by omega) ?_
  refine lv_iload hx hb d_law_281 (lv_at hl 1 rfl) ?_
  refine lv_icmp_eq (tgt := 288) hx hb d_law_283 (by decide) (fun c_1478 => ?_) (fun c_1478 => absurd c_1478 (by decide))
  refine lv_iload hx hb d_law_288 (lv_at hl 1 rfl) ?_
  refine lv_if_ne (tgt := 305) hx hb d_law_290 (by decide) (fun c_1479 => absurd c_1479 (by decide)) (fun c_1479 => ?_)
  refine lv_aload_n hx hb d_law_293 rfl (lv_at hl 3 rfl) ?_
  refine lv_iconst (v := 0) hx hb d_law_294 (by decide) ?_
  refine va_lald hx hb hC.1 hP 0 1 rfl rfl (by unfold vp_in; decide) d_law_295 ?_
  refine wl_c (v := 0) updL_0 ?_
  refine lv_iload hx hb d_law_296 (lv_at hl 0 rfl) ?_
  refine lv_i2l (v := 0) hx hb d_law_298 (by decide) ?_
  refine W.lcmp hx hb d_law_299 ?_
  refine wi_c (v := 0) (by decide) ?_
  refine lv_if_eq (tgt := 305) hx hb d_law_300 (by decide) (fun c_1480 => ?_) (fun c_1480 => absurd c_1480 (by decide))
  refine lv_goto (tgt := 847) hx hb d_law_305 (by decide) ?_
  refine W.widen (k := 600002) (n := 7302232) (by omega) (by omega) ?_
  exact kk _ _ _ hS (lv_sub hl [2, 6] rfl)

set_option maxHeartbeats 4000000 in
set_option maxRecDepth 100000 in
theorem lc_look_b {p : Program} {l : Launch} {e : Env} {s : State} {m : MethodId} {args : Array Value} {below : List Frame} {meth : Method} {c : Code} {Q : State → Prop} {A : Nat → Prop} {b : Nat} {xs : Nat → Int32} {H : Heap} {locs : List Loc} {ls : Array Slot} (hfl : l.stackTraces = false) (D : va_G) (cI cL : ClassId) (B : Nat) (hx : p.tables.exec = Jvm.exec) (hb : c.code = code) (hml : c.maxLocals = 7) (hown : s.vm.findClass "DrawingMachineLaw" = some m.cls) (htw : ∀ w ∈ tw, w.before args s = true) (hC : wC D cI cL B A s) (hX : va_X b 6 xs s s.heap) (hbl : b < s.heap.size) (hbA : ¬ A b) (dm : Nat) (md : Nat) (ou : Nat) (q83 : Nat) (q84 : Nat) (q89 : Nat) (q95 : Nat) (q101 : Nat) (q107 : Nat) (q116 : Nat) (q120 : Nat) (q124 : Nat) (q562 : Nat) (q571 : Nat) (q574 : Nat) (q577 : Nat) (q580 : Nat) (q583 : Nat) (q586 : Nat) (q599 : Nat) (q600 : Nat) (q601 : Nat) (q602 : Nat) (x : Int32) (h1 : x < 0 ∨ 4096 ≤ x) (h2 : x < 0 ∨ 4095 < x) (hx1 : xs 1 = x) (kk : ∀ (H : Heap) (locs : List Loc) (ls : Array Slot), va_S A s.heap H locs → lv_has ls 7 [(4, .int 0), (0, .ref b)] → W p l e room_1 s m args below meth c H locs 600002 7302232 Q (F0 m 847 ls [])) (hP : va_P D classes [(dm, .inr (0, [.ref q83, .ref q84, .ref q89, .ref q95, .ref q101, .ref q107, .ref q116, .ref q120, .ref q124])), (ou, .inl (cL, 1, .inr (.inl (fun _ => 0)))), (md, .inr (12, [.int 0, .int 1, .int 1, .ref q562, .ref q571, .ref q574, .ref q577, .ref q580, .ref q583, .ref q586, .int 0, .int (-1), .int 0, .int 0, .long 0, .ref q599, .ref q600, .ref q601, .ref q602]))] H) (hD : va_D A [(dm, .inr (0, [.ref q83, .ref q84, .ref q89, .ref q95, .ref q101, .ref q107, .ref q116, .ref q120, .ref q124])), (ou, .inl (cL, 1, .inr (.inl (fun _ => 0)))), (md, .inr (12, [.int 0, .int 1, .int 1, .ref q562, .ref q571, .ref q574, .ref q577, .ref q580, .ref q583, .ref q586, .int 0, .int (-1), .int 0, .int 0, .long 0, .ref q599, .ref q600, .ref q601, .ref q602]))]) (hS : va_S A s.heap H locs) (hl : lv_has ls 7 [(4, .int 0), (3, .ref ou), (2, .ref md), (1, .ref dm), (0, .ref b)]) : W p l e room_1 s m args below meth c H locs 138 124625 Q (F0 m 252 ls []) := by
  refine lv_aload_n hx hb d_law_252 rfl (lv_at hl 3 rfl) ?_
  refine lv_aload_n hx hb d_law_253 rfl (lv_at hl 4 rfl) ?_
  refine lv_iload hx hb d_law_254 (lv_at hl 0 rfl) ?_
  refine lv_iconst (v := 1) hx hb d_law_256 (by decide) ?_
  refine lv_iadd hx hb d_law_257 ?_
  refine wi_c (v := 1) (by decide) ?_
  refine va_sld hx hb hX hbl hbA hS (by unfold vp_in; decide) d_law_258 ?_
  refine wi_c (v := x) (hx1) ?_
  refine lv_aload_n hx hb d_law_259 rfl (lv_at hl 1 rfl) ?_
  refine wc_i (wr := [(md, .inr (12, [.int 0, .int 1, .int 1, .ref q562, .ref q571, .ref q574, .ref q577, .ref q580, .ref q583, .ref q586, .int 0, .int (-1), .int 0, .int 0, .long 0, .ref q599, .ref q600, .ref q601, .ref q602]))]) hC hP hD hS [0, 1] [2] rfl rfl (by decide) (by decide) (tq_runSW (n := 3) (hh := [(0, 9, 12, 19)]) (As := [.ref dm, .int x, .ref ou]) (rest := []) ⟨hx, hb, hml, hown, htw⟩ (c_hlook_b l hfl D cI cL B _ dm q83 q84 q89 q95 q101 q107 q116 q120 q124 x ou (h1)) htw (tw_goodW (fun _ h => h) k773) rfl rfl rfl ⟨Nat.le_of_ble_eq_true rfl, Nat.le_of_ble_eq_true rfl⟩ (htw _ k237) (by decide +kernel) (htw _ k832) (htw _ k833) (wC_pre hC hP hD hS [0, 1] (by decide) rfl) rfl rfl hl.1 rfl (lv_room (Nat.le_of_ble_eq_true rfl)) d_law_260 ⟨Nat.le_of_ble_eq_true rfl, Nat.le_of_ble_eq_true rfl⟩) (fun r1483 u1481 H locs hw1482 hP hD hS => ?_)
  obtain rfl : r1483 = 1 := hw1482
  have hP : va_P D classes [(md, .inr (12, [.int 0, .int 1, .int 1, .ref q562, .ref q571, .ref q574, .ref q577, .ref q580, .ref q583, .ref q586, .int 0, .int (-1), .int 0, .int 0, .long 0, .ref q599, .ref q600, .ref q601, .ref q602]))] H := hP
  have hD : va_D A [(md, .inr (12, [.int 0, .int 1, .int 1, .ref q562, .ref q571, .ref q574, .ref q577, .ref q580, .ref q583, .ref q586, .int 0, .int (-1), .int 0, .int 0, .long 0, .ref q599, .ref q600, .ref q601, .ref q602]))] := hD
  refine W.widen (k := 139) (n := 124631) (by omega) (by omega) ?_
  refine lv_istore (lv' := [(5, .int 1), (4, .int 0), (3, .ref ou), (2, .ref md), (1, .ref dm), (0, .ref b)]) hx hb d_law_263 hl (by decide) rfl (fun ls hl => ?_)
  refine lv_aload_n hx hb d_law_265 rfl (lv_at hl 3 rfl) ?_
  refine lv_aload_n hx hb d_law_266 rfl (lv_at hl 5 rfl) ?_
  refine lv_iload hx hb d_law_267 (lv_at hl 1 rfl) ?_
  refine lv_iconst (v := 1) hx hb d_law_269 (by decide) ?_
  refine lv_iadd hx hb d_law_270 ?_
  refine wi_c (v := 1) (by decide) ?_
  refine va_sld hx hb hX hbl hbA hS (by unfold vp_in; decide) d_law_271 ?_
  refine wi_c (v := x) (hx1) ?_
  refine wc_i (wr := []) hC hP hD hS [0] [] rfl rfl (by decide) (by decide) (va_runV (As := [.int x]) (rest := []) ⟨hx, hb, hml, hown, htw⟩ (c_Mlook_b l D cI cL B _ md q562 q571 q574 q577 q580 q583 q586 q599 q600 q601 q602 x (h2)) (cwV 1 htw gV_law_76 rfl rfl rfl (by decide +kernel) ⟨Nat.le_of_ble_eq_true rfl, Nat.le_of_ble_eq_true rfl⟩) (wC_preV (As := [.int x]) hC hP hD hS [0] (by decide) rfl (q0 := 0) rfl rfl) rfl rfl hl.1 rfl (lv_room (Nat.le_of_ble_eq_true rfl)) d_law_272 ⟨Nat.le_of_ble_eq_true rfl, Nat.le_of_ble_eq_true rfl⟩) (fun r1486 u1484 H locs hw1485 hP hD hS => ?_)
  obtain rfl : r1486 = 0 := hw1485
  have hP : va_P D classes [(md, .inr (12, [.int 1, .int 1, .int 1, .ref q562, .ref q571, .ref q574, .ref q577, .ref q580, .ref q583, .ref q586, .int 0, .int (-1), .int 0, .int 0, .long 0, .ref q599, .ref q600, .ref q601, .ref q602]))] H := hP
  have hD : va_D A [(md, .inr (12, [.int 1, .int 1, .int 1, .ref q562, .ref q571, .ref q574, .ref q577, .ref q580, .ref q583, .ref q586, .int 0, .int (-1), .int 0, .int 0, .long 0, .ref q599, .ref q600, .ref q601, .ref q602]))] := hD
  refine W.widen (k := 139) (n := 124631) (by omega) (by omega) ?_
  refine lv_istore (lv' := [(6, .int 0), (5, .int 1), (4, .int 0), (3, .ref ou), (2, .ref md), (1, .ref dm), (0, .ref b)]) hx hb d_law_275 hl (by decide) rfl (fun ls hl => ?_)
  refine lv_aload_n hx hb d_law_277 rfl (lv_at hl 4 rfl) ?_
  refine wc_i (wr := []) hC hP hD hS [0] [] rfl rfl (by decide) (by decide) (va_runV (As := []) (rest := []) ⟨hx, hb, hml, hown, htw⟩ (c_thrown l D cI cL B _ md 1 1 1 q562 q571 q574 q577 q580 q583 q586 0 (-1) 0 0 0 q599 q600 q601 q602) (cwV 0 htw gV_law_65 rfl rfl rfl (by decide +kernel) ⟨Nat.le_of_ble_eq_true rfl, Nat.le_of_ble_eq_true rfl⟩) (wC_preV (As := []) hC hP hD hS [0] (by decide) rfl (q0 := 0) rfl rfl) rfl rfl hl.1 rfl (lv_room (Nat.le_of_ble_eq_true rfl)) d_law_278 ⟨Nat.le_of_ble_eq_true rfl, Nat.le_of_ble_eq_true rfl⟩) (fun r1489 u1487 H locs hw1488 hP hD hS => ?_)
  obtain rfl : r1489 = 1 := hw1488
  have hP : va_P D classes [(md, .inr (12, [.int 1, .int 1, .int 1, .ref q562, .ref q571, .ref q574, .ref q577, .ref q580, .ref q583, .ref q586, .int 0, .int (-1), .int 0, .int 0, .long 0, .ref q599, .ref q600, .ref q601, .ref q602]))] H := hP
  have hD : va_D A [(md, .inr (12, [.int 1, .int 1, .int 1, .ref q562, .ref q571, .ref q574, .ref q577, .ref q580, .ref q583, .ref q586, .int 0, .int (-1), .int 0, .int 0, .long 0, .ref q599, .ref q600, .ref q601, .ref q602]))] := hD
  refine W.widen (k := 139) (n := 124631) (by omega) (by omega) ?_
  refine lv_iload hx hb d_law_281 (lv_at hl 1 rfl) ?_
  refine lv_icmp_eq (tgt := 288) hx hb d_law_283 (by decide) (fun c_1490 => ?_) (fun c_1490 => absurd c_1490 (by decide))
  refine lv_iload hx hb d_law_288 (lv_at hl 1 rfl) ?_
  refine lv_if_ne (tgt := 305) hx hb d_law_290 (by decide) (fun c_1491 => ?_) (fun c_1491 => absurd c_1491 (by decide))
  refine lv_goto (tgt := 847) hx hb d_law_305 (by decide) ?_
  refine W.widen (k := 600002) (n := 7302232) (by omega) (by omega) ?_
  exact kk _ _ _ hS (lv_sub hl [2, 6] rfl)

theorem d_law_308 : decode code 308 = .ok (.aload_n 1, 1) := by decide +kernel
theorem d_law_309 : decode code 309 = .ok (.aload_n 0, 1) := by decide +kernel
theorem d_law_310 : decode code 310 = .ok (.iload 4, 2) := by decide +kernel
theorem d_law_312 : decode code 312 = .ok (.iconst 1, 1) := by decide +kernel
theorem d_law_313 : decode code 313 = .ok (.iadd, 1) := by decide +kernel
theorem d_law_314 : decode code 314 = .ok (.iaload, 1) := by decide +kernel
theorem d_law_315 : decode code 315 = .ok (.aload_n 0, 1) := by decide +kernel
theorem d_law_316 : decode code 316 = .ok (.iload 4, 2) := by decide +kernel
theorem d_law_318 : decode code 318 = .ok (.iconst 2, 1) := by decide +kernel
theorem d_law_319 : decode code 319 = .ok (.iadd, 1) := by decide +kernel
theorem d_law_320 : decode code 320 = .ok (.iaload, 1) := by decide +kernel
theorem d_law_321 : decode code 321 = .ok (.aload_n 0, 1) := by decide +kernel
theorem d_law_322 : decode code 322 = .ok (.iload 4, 2) := by decide +kernel
theorem d_law_324 : decode code 324 = .ok (.iconst 3, 1) := by decide +kernel
theorem d_law_325 : decode code 325 = .ok (.iadd, 1) := by decide +kernel
theorem d_law_326 : decode code 326 = .ok (.iaload, 1) := by decide +kernel
theorem d_law_327 : decode code 327 = .ok (.aload_n 0, 1) := by decide +kernel
theorem d_law_328 : decode code 328 = .ok (.iload 4, 2) := by decide +kernel
theorem d_law_330 : decode code 330 = .ok (.iconst 4, 1) := by decide +kernel
theorem d_law_331 : decode code 331 = .ok (.iadd, 1) := by decide +kernel
theorem d_law_332 : decode code 332 = .ok (.iaload, 1) := by decide +kernel
theorem d_law_333 : decode code 333 = .ok (.aload_n 0, 1) := by decide +kernel
theorem d_law_334 : decode code 334 = .ok (.iload 4, 2) := by decide +kernel
theorem d_law_336 : decode code 336 = .ok (.iconst 5, 1) := by decide +kernel
theorem d_law_337 : decode code 337 = .ok (.iadd, 1) := by decide +kernel
theorem d_law_338 : decode code 338 = .ok (.iaload, 1) := by decide +kernel
theorem d_law_339 : decode code 339 = .ok (.aload_n 3, 1) := by decide +kernel
theorem d_law_340 : decode code 340 = .ok (.invokestatic 77, 3) := by decide +kernel
theorem d_law_343 : decode code 343 = .ok (.istore 5, 2) := by decide +kernel
theorem d_law_345 : decode code 345 = .ok (.aload_n 2, 1) := by decide +kernel
theorem d_law_346 : decode code 346 = .ok (.aload_n 0, 1) := by decide +kernel
theorem d_law_347 : decode code 347 = .ok (.iload 4, 2) := by decide +kernel
theorem d_law_349 : decode code 349 = .ok (.iconst 1, 1) := by decide +kernel
theorem d_law_350 : decode code 350 = .ok (.iadd, 1) := by decide +kernel
theorem d_law_351 : decode code 351 = .ok (.iaload, 1) := by decide +kernel
theorem d_law_352 : decode code 352 = .ok (.aload_n 0, 1) := by decide +kernel
theorem d_law_353 : decode code 353 = .ok (.iload 4, 2) := by decide +kernel
theorem d_law_355 : decode code 355 = .ok (.iconst 2, 1) := by decide +kernel
theorem d_law_356 : decode code 356 = .ok (.iadd, 1) := by decide +kernel
theorem d_law_357 : decode code 357 = .ok (.iaload, 1) := by decide +kernel
theorem d_law_358 : decode code 358 = .ok (.aload_n 0, 1) := by decide +kernel
theorem d_law_359 : decode code 359 = .ok (.iload 4, 2) := by decide +kernel
theorem d_law_361 : decode code 361 = .ok (.iconst 3, 1) := by decide +kernel
theorem d_law_362 : decode code 362 = .ok (.iadd, 1) := by decide +kernel
theorem d_law_363 : decode code 363 = .ok (.iaload, 1) := by decide +kernel
theorem d_law_364 : decode code 364 = .ok (.aload_n 0, 1) := by decide +kernel
theorem d_law_365 : decode code 365 = .ok (.iload 4, 2) := by decide +kernel
theorem d_law_367 : decode code 367 = .ok (.iconst 4, 1) := by decide +kernel
theorem d_law_368 : decode code 368 = .ok (.iadd, 1) := by decide +kernel
theorem d_law_369 : decode code 369 = .ok (.iaload, 1) := by decide +kernel
theorem d_law_370 : decode code 370 = .ok (.aload_n 0, 1) := by decide +kernel
theorem d_law_371 : decode code 371 = .ok (.iload 4, 2) := by decide +kernel
theorem d_law_373 : decode code 373 = .ok (.iconst 5, 1) := by decide +kernel
theorem d_law_374 : decode code 374 = .ok (.iadd, 1) := by decide +kernel
theorem d_law_375 : decode code 375 = .ok (.iaload, 1) := by decide +kernel
theorem d_law_376 : decode code 376 = .ok (.invokevirtual 80, 3) := by decide +kernel
theorem d_law_379 : decode code 379 = .ok (.istore 6, 2) := by decide +kernel
theorem d_law_381 : decode code 381 = .ok (.aload_n 2, 1) := by decide +kernel
theorem d_law_382 : decode code 382 = .ok (.invokevirtual 65, 3) := by decide +kernel
theorem d_law_385 : decode code 385 = .ok (.iload 5, 2) := by decide +kernel
theorem d_law_387 : decode code 387 = .ok (.if_icmp .eq 5, 3) := by decide +kernel
theorem d_law_392 : decode code 392 = .ok (.iload 5, 2) := by decide +kernel
theorem d_law_394 : decode code 394 = .ok (.ifCond .ne 15, 3) := by decide +kernel
theorem d_law_397 : decode code 397 = .ok (.aload_n 3, 1) := by decide +kernel
theorem d_law_398 : decode code 398 = .ok (.iconst 0, 1) := by decide +kernel
theorem d_law_399 : decode code 399 = .ok (.laload, 1) := by decide +kernel
theorem d_law_400 : decode code 400 = .ok (.iload 6, 2) := by decide +kernel
theorem d_law_402 : decode code 402 = .ok (.i2l, 1) := by decide +kernel
theorem d_law_403 : decode code 403 = .ok (.lcmp, 1) := by decide +kernel
theorem d_law_404 : decode code 404 = .ok (.ifCond .eq 5, 3) := by decide +kernel
theorem d_law_409 : decode code 409 = .ok (.goto 438, 3) := by decide +kernel
theorem gV_law_80 : GoodIn tw (wsV "DrawingMachineLaw" 80 "DrawingMachineModel" y_Mod_feed ((Cond.code y_Mod_feed prog_14_method_8_code 6 (some .int)) :: tw)) := tw_pre (fun _ h => h) (tw_good (fun _ h => h) k650) (List.forall_mem_cons.mpr ⟨k839, List.forall_mem_cons.mpr ⟨k840, List.forall_mem_cons.mpr ⟨k841, List.forall_mem_cons.mpr ⟨k116, fun _ h => absurd h List.not_mem_nil⟩⟩⟩⟩)
set_option maxHeartbeats 4000000 in
set_option maxRecDepth 100000 in
theorem lc_feed {p : Program} {l : Launch} {e : Env} {s : State} {m : MethodId} {args : Array Value} {below : List Frame} {meth : Method} {c : Code} {Q : State → Prop} {A : Nat → Prop} {b : Nat} {xs : Nat → Int32} {H : Heap} {locs : List Loc} {ls : Array Slot} (hfl : l.stackTraces = false) (D : va_G) (cI cL : ClassId) (B : Nat) (hx : p.tables.exec = Jvm.exec) (hb : c.code = code) (hml : c.maxLocals = 7) (hown : s.vm.findClass "DrawingMachineLaw" = some m.cls) (htw : ∀ w ∈ tw, w.before args s = true) (hC : wC D cI cL B A s) (hX : va_X b 6 xs s s.heap) (hbl : b < s.heap.size) (hbA : ¬ A b) (dm : Nat) (md : Nat) (ou : Nat) (q83 : Nat) (q84 : Nat) (q89 : Nat) (q95 : Nat) (z98 : Nat) (z99 : Nat) (z100 : Nat) (q101 : Nat) (q107 : Nat) (q116 : Nat) (q120 : Nat) (q124 : Nat) (q562 : Nat) (z565 : Nat) (z566 : Nat) (z567 : Nat) (z568 : Nat) (z569 : Nat) (q571 : Nat) (q574 : Nat) (q577 : Nat) (q580 : Nat) (q583 : Nat) (q586 : Nat) (q599 : Nat) (q600 : Nat) (q601 : Nat) (q602 : Nat) (y1 : Int32) (y2 : Int32) (y3 : Int32) (y4 : Int32) (y5 : Int32) (hx1 : xs 1 = y1) (hx2 : xs 2 = y2) (hx3 : xs 3 = y3) (hx4 : xs 4 = y4) (hx5 : xs 5 = y5) (kk : ∀ (H : Heap) (locs : List Loc) (ls : Array Slot), va_S A s.heap H locs → lv_has ls 7 [(4, .int 0), (0, .ref b)] → W p l e room_1 s m args below meth c H locs 600002 7302232 Q (F0 m 847 ls [])) (hP : va_P D classes [(dm, .inr (0, [.ref q83, .ref q84, .ref q89, .ref q95, .ref q101, .ref q107, .ref q116, .ref q120, .ref q124])), (q95, .inr (3, [.ref z98, .int 0, .int 0, .int 0, .int 0, .int 0, .int (-1), .int (-1), .int 0, .long 0, .ref q83, .ref z99, .ref z100, .int 0, .int 0])), (z100, .inl (cI, 64, .inl (fun _ => 0))), (ou, .inl (cL, 1, .inr (.inl (fun _ => 0)))), (md, .inr (12, [.int 0, .int 1, .int 1, .ref q562, .ref q571, .ref q574, .ref q577, .ref q580, .ref q583, .ref q586, .int 0, .int (-1), .int 0, .int 0, .long 0, .ref q599, .ref q600, .ref q601, .ref q602])), (q562, .inr (13, [.int 0, .ref z565, .int 1, .int 1, .ref z566, .int 0, .int 0, .int 0, .ref z567, .int 0, .int 0, .int (-1), .int (-1), .int 0, .int (-1), .int 0, .ref z568, .ref z569])), (z566, .inl (cI, 4096, .inl (fun _ => 0)))] H) (hD : va_D A [(dm, .inr (0, [.ref q83, .ref q84, .ref q89, .ref q95, .ref q101, .ref q107, .ref q116, .ref q120, .ref q124])), (q95, .inr (3, [.ref z98, .int 0, .int 0, .int 0, .int 0, .int 0, .int (-1), .int (-1), .int 0, .long 0, .ref q83, .ref z99, .ref z100, .int 0, .int 0])), (z100, .inl (cI, 64, .inl (fun _ => 0))), (ou, .inl (cL, 1, .inr (.inl (fun _ => 0)))), (md, .inr (12, [.int 0, .int 1, .int 1, .ref q562, .ref q571, .ref q574, .ref q577, .ref q580, .ref q583, .ref q586, .int 0, .int (-1), .int 0, .int 0, .long 0, .ref q599, .ref q600, .ref q601, .ref q602])), (q562, .inr (13, [.int 0, .ref z565, .int 1, .int 1, .ref z566, .int 0, .int 0, .int 0, .ref z567, .int 0, .int 0, .int (-1), .int (-1), .int 0, .int (-1), .int 0, .ref z568, .ref z569])), (z566, .inl (cI, 4096, .inl (fun _ => 0)))]) (hS : va_S A s.heap H locs) (hl : lv_has ls 7 [(4, .int 0), (3, .ref ou), (2, .ref md), (1, .ref dm), (0, .ref b)]) : W p l e room_1 s m args below meth c H locs 138 124625 Q (F0 m 308 ls []) := by
  refine lv_aload_n hx hb d_law_308 rfl (lv_at hl 3 rfl) ?_
  refine lv_aload_n hx hb d_law_309 rfl (lv_at hl 4 rfl) ?_
  refine lv_iload hx hb d_law_310 (lv_at hl 0 rfl) ?_
  refine lv_iconst (v := 1) hx hb d_law_312 (by decide) ?_
  refine lv_iadd hx hb d_law_313 ?_
  refine wi_c (v := 1) (by decide) ?_
  refine va_sld hx hb hX hbl hbA hS (by unfold vp_in; decide) d_law_314 ?_
  refine wi_c (v := y1) (hx1) ?_
  refine lv_aload_n hx hb d_law_315 rfl (lv_at hl 4 rfl) ?_
  refine lv_iload hx hb d_law_316 (lv_at hl 0 rfl) ?_
  refine lv_iconst (v := 2) hx hb d_law_318 (by decide) ?_
  refine lv_iadd hx hb d_law_319 ?_
  refine wi_c (v := 2) (by decide) ?_
  refine va_sld hx hb hX hbl hbA hS (by unfold vp_in; decide) d_law_320 ?_
  refine wi_c (v := y2) (hx2) ?_
  refine lv_aload_n hx hb d_law_321 rfl (lv_at hl 4 rfl) ?_
  refine lv_iload hx hb d_law_322 (lv_at hl 0 rfl) ?_
  refine lv_iconst (v := 3) hx hb d_law_324 (by decide) ?_
  refine lv_iadd hx hb d_law_325 ?_
  refine wi_c (v := 3) (by decide) ?_
  refine va_sld hx hb hX hbl hbA hS (by unfold vp_in; decide) d_law_326 ?_
  refine wi_c (v := y3) (hx3) ?_
  refine lv_aload_n hx hb d_law_327 rfl (lv_at hl 4 rfl) ?_
  refine lv_iload hx hb d_law_328 (lv_at hl 0 rfl) ?_
  refine lv_iconst (v := 4) hx hb d_law_330 (by decide) ?_
  refine lv_iadd hx hb d_law_331 ?_
  refine wi_c (v := 4) (by decide) ?_
  refine va_sld hx hb hX hbl hbA hS (by unfold vp_in; decide) d_law_332 ?_
  refine wi_c (v := y4) (hx4) ?_
  refine lv_aload_n hx hb d_law_333 rfl (lv_at hl 4 rfl) ?_
  refine lv_iload hx hb d_law_334 (lv_at hl 0 rfl) ?_
  refine lv_iconst (v := 5) hx hb d_law_336 (by decide) ?_
  refine lv_iadd hx hb d_law_337 ?_
  refine wi_c (v := 5) (by decide) ?_
  refine va_sld hx hb hX hbl hbA hS (by unfold vp_in; decide) d_law_338 ?_
  refine wi_c (v := y5) (hx5) ?_
  refine lv_aload_n hx hb d_law_339 rfl (lv_at hl 1 rfl) ?_
  refine wc_i (wr := [(md, .inr (12, [.int 0, .int 1, .int 1, .ref q562, .ref q571, .ref q574, .ref q577, .ref q580, .ref q583, .ref q586, .int 0, .int (-1), .int 0, .int 0, .long 0, .ref q599, .ref q600, .ref q601, .ref q602])), (q562, .inr (13, [.int 0, .ref z565, .int 1, .int 1, .ref z566, .int 0, .int 0, .int 0, .ref z567, .int 0, .int 0, .int (-1), .int (-1), .int 0, .int (-1), .int 0, .ref z568, .ref z569])), (z566, .inl (cI, 4096, .inl (fun _ => 0)))]) hC hP hD hS [0, 1, 2, 3] [4, 5, 6] rfl rfl (by decide) (by decide) (tq_runSW (n := 7) (hh := [(0, 16, 19, 29)]) (As := [.ref dm, .int y1, .int y2, .int y3, .int y4, .int y5, .ref ou]) (rest := []) ⟨hx, hb, hml, hown, htw⟩ (c_hfeed_g l D cI cL B _ dm q83 q84 q89 q95 z98 z99 z100 q101 q107 q116 q120 q124 y1 y2 y3 y4 y5 ou) htw (tw_goodW (fun _ h => h) k777) rfl rfl rfl ⟨Nat.le_of_ble_eq_true rfl, Nat.le_of_ble_eq_true rfl⟩ (htw _ k237) (by decide +kernel) (htw _ k837) (htw _ k838) (wC_pre hC hP hD hS [0, 1, 2, 3] (by decide) rfl) rfl rfl hl.1 rfl (lv_room (Nat.le_of_ble_eq_true rfl)) d_law_340 ⟨Nat.le_of_ble_eq_true rfl, Nat.le_of_ble_eq_true rfl⟩) (fun r1494 u1492 H locs hw1493 hP hD hS => ?_)
  obtain rfl : r1494 = 0 := hw1493
  have hP : va_P D classes [(md, .inr (12, [.int 0, .int 1, .int 1, .ref q562, .ref q571, .ref q574, .ref q577, .ref q580, .ref q583, .ref q586, .int 0, .int (-1), .int 0, .int 0, .long 0, .ref q599, .ref q600, .ref q601, .ref q602])), (q562, .inr (13, [.int 0, .ref z565, .int 1, .int 1, .ref z566, .int 0, .int 0, .int 0, .ref z567, .int 0, .int 0, .int (-1), .int (-1), .int 0, .int (-1), .int 0, .ref z568, .ref z569])), (z566, .inl (cI, 4096, .inl (fun _ => 0))), (ou, .inl (cL, 1, .inr (.inl (vp_updL (fun _ => 0) (0 : Int32).toNatClampNeg 5))))] H := hP
  have hD : va_D A [(md, .inr (12, [.int 0, .int 1, .int 1, .ref q562, .ref q571, .ref q574, .ref q577, .ref q580, .ref q583, .ref q586, .int 0, .int (-1), .int 0, .int 0, .long 0, .ref q599, .ref q600, .ref q601, .ref q602])), (q562, .inr (13, [.int 0, .ref z565, .int 1, .int 1, .ref z566, .int 0, .int 0, .int 0, .ref z567, .int 0, .int 0, .int (-1), .int (-1), .int 0, .int (-1), .int 0, .ref z568, .ref z569])), (z566, .inl (cI, 4096, .inl (fun _ => 0))), (ou, .inl (cL, 1, .inr (.inl (vp_updL (fun _ => 0) (0 : Int32).toNatClampNeg 5))))] := hD
  refine W.widen (k := 138) (n := 124625) (by omega) (by omega) ?_
  refine lv_istore (lv' := [(5, .int 0), (4, .int 0), (3, .ref ou), (2, .ref md), (1, .ref dm), (0, .ref b)]) hx hb d_law_343 hl (by decide) rfl (fun ls hl => ?_)
  refine lv_aload_n hx hb d_law_345 rfl (lv_at hl 3 rfl) ?_
  refine lv_aload_n hx hb d_law_346 rfl (lv_at hl 5 rfl) ?_
  refine lv_iload hx hb d_law_347 (lv_at hl 1 rfl) ?_
  refine lv_iconst (v := 1) hx hb d_law_349 (by decide) ?_
  refine lv_iadd hx hb d_law_350 ?_
  refine wi_c (v := 1) (by decide) ?_
  refine va_sld hx hb hX hbl hbA hS (by unfold vp_in; decide) d_law_351 ?_
  refine wi_c (v := y1) (hx1) ?_
  refine lv_aload_n hx hb d_law_352 rfl (lv_at hl 5 rfl) ?_
  refine lv_iload hx hb d_law_353 (lv_at hl 1 rfl) ?_
  refine lv_iconst (v := 2) hx hb d_law_355 (by decide) ?_
  refine lv_iadd hx hb d_law_356 ?_
  refine wi_c (v := 2) (by decide) ?_
  refine va_sld hx hb hX hbl hbA hS (by unfold vp_in; decide) d_law_357 ?_
  refine wi_c (v := y2) (hx2) ?_
  refine lv_aload_n hx hb d_law_358 rfl (lv_at hl 5 rfl) ?_
  refine lv_iload hx hb d_law_359 (lv_at hl 1 rfl) ?_
  refine lv_iconst (v := 3) hx hb d_law_361 (by decide) ?_
  refine lv_iadd hx hb d_law_362 ?_
  refine wi_c (v := 3) (by decide) ?_
  refine va_sld hx hb hX hbl hbA hS (by unfold vp_in; decide) d_law_363 ?_
  refine wi_c (v := y3) (hx3) ?_
  refine lv_aload_n hx hb d_law_364 rfl (lv_at hl 5 rfl) ?_
  refine lv_iload hx hb d_law_365 (lv_at hl 1 rfl) ?_
  refine lv_iconst (v := 4) hx hb d_law_367 (by decide) ?_
  refine lv_iadd hx hb d_law_368 ?_
  refine wi_c (v := 4) (by decide) ?_
  refine va_sld hx hb hX hbl hbA hS (by unfold vp_in; decide) d_law_369 ?_
  refine wi_c (v := y4) (hx4) ?_
  refine lv_aload_n hx hb d_law_370 rfl (lv_at hl 5 rfl) ?_
  refine lv_iload hx hb d_law_371 (lv_at hl 1 rfl) ?_
  refine lv_iconst (v := 5) hx hb d_law_373 (by decide) ?_
  refine lv_iadd hx hb d_law_374 ?_
  refine wi_c (v := 5) (by decide) ?_
  refine va_sld hx hb hX hbl hbA hS (by unfold vp_in; decide) d_law_375 ?_
  refine wi_c (v := y5) (hx5) ?_
  refine wc_i (wr := [(ou, .inl (cL, 1, .inr (.inl (vp_updL (fun _ => 0) (0 : Int32).toNatClampNeg 5))))]) hC hP hD hS [0, 1, 2] [3] rfl rfl (by decide) (by decide) (va_runV (As := [.int y1, .int y2, .int y3, .int y4, .int y5]) (rest := []) ⟨hx, hb, hml, hown, htw⟩ (c_Mfeed_g l D cI cL B _ md q562 z565 z566 z567 z568 z569 q571 q574 q577 q580 q583 q586 q599 q600 q601 q602 y1 y2 y3 y4 y5) (cwV 5 htw gV_law_80 rfl rfl rfl (by decide +kernel) ⟨Nat.le_of_ble_eq_true rfl, Nat.le_of_ble_eq_true rfl⟩) (wC_preV (As := [.int y1, .int y2, .int y3, .int y4, .int y5]) hC hP hD hS [0, 1, 2] (by decide) rfl (q0 := 0) rfl rfl) rfl rfl hl.1 rfl (lv_room (Nat.le_of_ble_eq_true rfl)) d_law_376 ⟨Nat.le_of_ble_eq_true rfl, Nat.le_of_ble_eq_true rfl⟩) (fun r1497 u1495 H locs hw1496 hP hD hS => ?_)
  obtain rfl : r1497 = 5 := hw1496
  have hP : va_P D classes [(ou, .inl (cL, 1, .inr (.inl (vp_updL (fun _ => 0) (0 : Int32).toNatClampNeg 5)))), (md, .inr (12, [.int 0, .int 1, .int 1, .ref q562, .ref q571, .ref q574, .ref q577, .ref q580, .ref q583, .ref q586, .int 0, .int (-1), .int 0, .int 0, .long 0, .ref q599, .ref q600, .ref q601, .ref q602]))] H := hP
  have hD : va_D A [(ou, .inl (cL, 1, .inr (.inl (vp_updL (fun _ => 0) (0 : Int32).toNatClampNeg 5)))), (md, .inr (12, [.int 0, .int 1, .int 1, .ref q562, .ref q571, .ref q574, .ref q577, .ref q580, .ref q583, .ref q586, .int 0, .int (-1), .int 0, .int 0, .long 0, .ref q599, .ref q600, .ref q601, .ref q602]))] := hD
  refine W.widen (k := 138) (n := 124625) (by omega) (by omega) ?_
  refine lv_istore (lv' := [(6, .int 5), (5, .int 0), (4, .int 0), (3, .ref ou), (2, .ref md), (1, .ref dm), (0, .ref b)]) hx hb d_law_379 hl (by decide) rfl (fun ls hl => ?_)
  refine lv_aload_n hx hb d_law_381 rfl (lv_at hl 4 rfl) ?_
  refine wc_i (wr := [(ou, .inl (cL, 1, .inr (.inl (vp_updL (fun _ => 0) (0 : Int32).toNatClampNeg 5))))]) hC hP hD hS [1] [0] rfl rfl (by decide) (by decide) (va_runV (As := []) (rest := []) ⟨hx, hb, hml, hown, htw⟩ (c_thrown l D cI cL B _ md 0 1 1 q562 q571 q574 q577 q580 q583 q586 0 (-1) 0 0 0 q599 q600 q601 q602) (cwV 0 htw gV_law_65 rfl rfl rfl (by decide +kernel) ⟨Nat.le_of_ble_eq_true rfl, Nat.le_of_ble_eq_true rfl⟩) (wC_preV (As := []) hC hP hD hS [1] (by decide) rfl (q0 := 1) rfl rfl) rfl rfl hl.1 rfl (lv_room (Nat.le_of_ble_eq_true rfl)) d_law_382 ⟨Nat.le_of_ble_eq_true rfl, Nat.le_of_ble_eq_true rfl⟩) (fun r1500 u1498 H locs hw1499 hP hD hS => ?_)
  obtain rfl : r1500 = 0 := hw1499
  have hP : va_P D classes [(ou, .inl (cL, 1, .inr (.inl (vp_updL (fun _ => 0) (0 : Int32).toNatClampNeg 5)))), (md, .inr (12, [.int 0, .int 1, .int 1, .ref q562, .ref q571, .ref q574, .ref q577, .ref q580, .ref q583, .ref q586, .int 0, .int (-1), .int 0, .int 0, .long 0, .ref q599, .ref q600, .ref q601, .ref q602]))] H := hP
  have hD : va_D A [(ou, .inl (cL, 1, .inr (.inl (vp_updL (fun _ => 0) (0 : Int32).toNatClampNeg 5)))), (md, .inr (12, [.int 0, .int 1, .int 1, .ref q562, .ref q571, .ref q574, .ref q577, .ref q580, .ref q583, .ref q586, .int 0, .int (-1), .int 0, .int 0, .long 0, .ref q599, .ref q600, .ref q601, .ref q602]))] := hD
  refine W.widen (k := 138) (n := 124625) (by omega) (by omega) ?_
  refine lv_iload hx hb d_law_385 (lv_at hl 1 rfl) ?_
  refine lv_icmp_eq (tgt := 392) hx hb d_law_387 (by decide) (fun c_1501 => ?_) (fun c_1501 => absurd c_1501 (by decide))
  refine lv_iload hx hb d_law_392 (lv_at hl 1 rfl) ?_
  refine lv_if_ne (tgt := 409) hx hb d_law_394 (by decide) (fun c_1502 => absurd c_1502 (by decide)) (fun c_1502 => ?_)
  refine lv_aload_n hx hb d_law_397 rfl (lv_at hl 3 rfl) ?_
  refine lv_iconst (v := 0) hx hb d_law_398 (by decide) ?_
  refine va_lald hx hb hC.1 hP 0 1 rfl rfl (by unfold vp_in; decide) d_law_399 ?_
  refine wl_c (v := 5) updL_0 ?_
  refine lv_iload hx hb d_law_400 (lv_at hl 0 rfl) ?_
  refine lv_i2l (v := 5) hx hb d_law_402 (by decide) ?_
  refine W.lcmp hx hb d_law_403 ?_
  refine wi_c (v := 0) (by decide) ?_
  refine lv_if_eq (tgt := 409) hx hb d_law_404 (by decide) (fun c_1503 => ?_) (fun c_1503 => absurd c_1503 (by decide))
  refine lv_goto (tgt := 847) hx hb d_law_409 (by decide) ?_
  refine W.widen (k := 600002) (n := 7302232) (by omega) (by omega) ?_
  exact kk _ _ _ hS (lv_sub hl [2, 6] rfl)

theorem d_law_412 : decode code 412 = .ok (.aload_n 1, 1) := by decide +kernel
theorem d_law_413 : decode code 413 = .ok (.aload_n 0, 1) := by decide +kernel
theorem d_law_414 : decode code 414 = .ok (.iload 4, 2) := by decide +kernel
theorem d_law_416 : decode code 416 = .ok (.iconst 1, 1) := by decide +kernel
theorem d_law_417 : decode code 417 = .ok (.iadd, 1) := by decide +kernel
theorem d_law_418 : decode code 418 = .ok (.iaload, 1) := by decide +kernel
theorem d_law_419 : decode code 419 = .ok (.invokestatic 81, 3) := by decide +kernel
theorem d_law_422 : decode code 422 = .ok (.istore 5, 2) := by decide +kernel
theorem d_law_424 : decode code 424 = .ok (.aload_n 2, 1) := by decide +kernel
theorem d_law_425 : decode code 425 = .ok (.aload_n 0, 1) := by decide +kernel
theorem d_law_426 : decode code 426 = .ok (.iload 4, 2) := by decide +kernel
theorem d_law_428 : decode code 428 = .ok (.iconst 1, 1) := by decide +kernel
theorem d_law_429 : decode code 429 = .ok (.iadd, 1) := by decide +kernel
theorem d_law_430 : decode code 430 = .ok (.iaload, 1) := by decide +kernel
theorem d_law_431 : decode code 431 = .ok (.invokevirtual 84, 3) := by decide +kernel
theorem d_law_434 : decode code 434 = .ok (.aload_n 2, 1) := by decide +kernel
theorem d_law_435 : decode code 435 = .ok (.invokevirtual 65, 3) := by decide +kernel
theorem d_law_438 : decode code 438 = .ok (.iload 5, 2) := by decide +kernel
theorem d_law_440 : decode code 440 = .ok (.if_icmp .eq 5, 3) := by decide +kernel
theorem d_law_445 : decode code 445 = .ok (.goto 402, 3) := by decide +kernel
theorem gV_law_84 : GoodIn tw (wsV "DrawingMachineLaw" 84 "DrawingMachineModel" y_Mod_end ((Cond.code y_Mod_end prog_14_method_9_code 2 none) :: tw)) := tw_pre (fun _ h => h) (tw_good (fun _ h => h) k655) (List.forall_mem_cons.mpr ⟨k844, List.forall_mem_cons.mpr ⟨k845, List.forall_mem_cons.mpr ⟨k846, List.forall_mem_cons.mpr ⟨k116, fun _ h => absurd h List.not_mem_nil⟩⟩⟩⟩)
set_option maxHeartbeats 4000000 in
set_option maxRecDepth 100000 in
theorem lc_end_g {p : Program} {l : Launch} {e : Env} {s : State} {m : MethodId} {args : Array Value} {below : List Frame} {meth : Method} {c : Code} {Q : State → Prop} {A : Nat → Prop} {b : Nat} {xs : Nat → Int32} {H : Heap} {locs : List Loc} {ls : Array Slot} (hfl : l.stackTraces = false) (D : va_G) (cI cL : ClassId) (B : Nat) (hx : p.tables.exec = Jvm.exec) (hb : c.code = code) (hml : c.maxLocals = 7) (hown : s.vm.findClass "DrawingMachineLaw" = some m.cls) (htw : ∀ w ∈ tw, w.before args s = true) (hC : wC D cI cL B A s) (hX : va_X b 6 xs s s.heap) (hbl : b < s.heap.size) (hbA : ¬ A b) (dm : Nat) (md : Nat) (ou : Nat) (q83 : Nat) (q84 : Nat) (z87 : Nat) (q89 : Nat) (q95 : Nat) (z98 : Nat) (z99 : Nat) (z100 : Nat) (q101 : Nat) (q107 : Nat) (z110 : Nat) (z111 : Nat) (z112 : Nat) (z113 : Nat) (z114 : Nat) (z115 : Nat) (q116 : Nat) (q120 : Nat) (q124 : Nat) (q562 : Nat) (z565 : Nat) (z566 : Nat) (z567 : Nat) (z568 : Nat) (z569 : Nat) (q571 : Nat) (q574 : Nat) (q577 : Nat) (q580 : Nat) (q583 : Nat) (q586 : Nat) (q599 : Nat) (q600 : Nat) (q601 : Nat) (q602 : Nat) (hx1 : xs 1 = 0) (kk : ∀ (H : Heap) (locs : List Loc) (ls : Array Slot), va_S A s.heap H locs → lv_has ls 7 [(4, .int 0), (0, .ref b)] → W p l e room_1 s m args below meth c H locs 600002 7302232 Q (F0 m 847 ls [])) (hP : va_P D classes [(dm, .inr (0, [.ref q83, .ref q84, .ref q89, .ref q95, .ref q101, .ref q107, .ref q116, .ref q120, .ref q124])), (q95, .inr (3, [.ref z98, .int 0, .int 0, .int 0, .int 0, .int 0, .int (-1), .int (-1), .int 0, .long 0, .ref q83, .ref z99, .ref z100, .int 0, .int 0])), (q107, .inr (5, [.ref z110, .ref z111, .int (-1), .ref z87, .ref q89, .ref z112, .ref z113, .ref z114, .ref z115])), (ou, .inl (cL, 1, .inr (.inl (fun _ => 0)))), (md, .inr (12, [.int 0, .int 1, .int 1, .ref q562, .ref q571, .ref q574, .ref q577, .ref q580, .ref q583, .ref q586, .int 0, .int (-1), .int 0, .int 0, .long 0, .ref q599, .ref q600, .ref q601, .ref q602])), (q562, .inr (13, [.int 0, .ref z565, .int 1, .int 1, .ref z566, .int 0, .int 0, .int 0, .ref z567, .int 0, .int 0, .int (-1), .int (-1), .int 0, .int (-1), .int 0, .ref z568, .ref z569]))] H) (hD : va_D A [(dm, .inr (0, [.ref q83, .ref q84, .ref q89, .ref q95, .ref q101, .ref q107, .ref q116, .ref q120, .ref q124])), (q95, .inr (3, [.ref z98, .int 0, .int 0, .int 0, .int 0, .int 0, .int (-1), .int (-1), .int 0, .long 0, .ref q83, .ref z99, .ref z100, .int 0, .int 0])), (q107, .inr (5, [.ref z110, .ref z111, .int (-1), .ref z87, .ref q89, .ref z112, .ref z113, .ref z114, .ref z115])), (ou, .inl (cL, 1, .inr (.inl (fun _ => 0)))), (md, .inr (12, [.int 0, .int 1, .int 1, .ref q562, .ref q571, .ref q574, .ref q577, .ref q580, .ref q583, .ref q586, .int 0, .int (-1), .int 0, .int 0, .long 0, .ref q599, .ref q600, .ref q601, .ref q602])), (q562, .inr (13, [.int 0, .ref z565, .int 1, .int 1, .ref z566, .int 0, .int 0, .int 0, .ref z567, .int 0, .int 0, .int (-1), .int (-1), .int 0, .int (-1), .int 0, .ref z568, .ref z569]))]) (hS : va_S A s.heap H locs) (hl : lv_has ls 7 [(4, .int 0), (3, .ref ou), (2, .ref md), (1, .ref dm), (0, .ref b)]) : W p l e room_1 s m args below meth c H locs 138 124625 Q (F0 m 412 ls []) := by
  refine lv_aload_n hx hb d_law_412 rfl (lv_at hl 3 rfl) ?_
  refine lv_aload_n hx hb d_law_413 rfl (lv_at hl 4 rfl) ?_
  refine lv_iload hx hb d_law_414 (lv_at hl 0 rfl) ?_
  refine lv_iconst (v := 1) hx hb d_law_416 (by decide) ?_
  refine lv_iadd hx hb d_law_417 ?_
  refine wi_c (v := 1) (by decide) ?_
  refine va_sld hx hb hX hbl hbA hS (by unfold vp_in; decide) d_law_418 ?_
  refine wi_c (v := 0) (hx1) ?_
  refine wc_i (wr := [(ou, .inl (cL, 1, .inr (.inl (fun _ => 0)))), (md, .inr (12, [.int 0, .int 1, .int 1, .ref q562, .ref q571, .ref q574, .ref q577, .ref q580, .ref q583, .ref q586, .int 0, .int (-1), .int 0, .int 0, .long 0, .ref q599, .ref q600, .ref q601, .ref q602])), (q562, .inr (13, [.int 0, .ref z565, .int 1, .int 1, .ref z566, .int 0, .int 0, .int 0, .ref z567, .int 0, .int 0, .int (-1), .int (-1), .int 0, .int (-1), .int 0, .ref z568, .ref z569]))]) hC hP hD hS [0, 1, 2] [3, 4, 5] rfl rfl (by decide) (by decide) (tq_runSW (n := 2) (hh := [(0, 5, 8, 13)]) (As := [.ref dm, .int 0]) (rest := []) ⟨hx, hb, hml, hown, htw⟩ (c_hend_g l D cI cL B _ dm q83 q84 z87 q89 q95 z98 z99 z100 q101 q107 z110 z111 z112 z113 z114 z115 q116 q120 q124) htw (tw_goodW (fun _ h => h) k781) rfl rfl rfl ⟨Nat.le_of_ble_eq_true rfl, Nat.le_of_ble_eq_true rfl⟩ (htw _ k237) (by decide +kernel) (htw _ k842) (htw _ k843) (wC_pre hC hP hD hS [0, 1, 2] (by decide) rfl) rfl rfl hl.1 rfl (lv_room (Nat.le_of_ble_eq_true rfl)) d_law_419 ⟨Nat.le_of_ble_eq_true rfl, Nat.le_of_ble_eq_true rfl⟩) (fun r1506 u1504 H locs hw1505 hP hD hS => ?_)
  obtain rfl : r1506 = 0 := hw1505
  have hP : va_P D classes [(ou, .inl (cL, 1, .inr (.inl (fun _ => 0)))), (md, .inr (12, [.int 0, .int 1, .int 1, .ref q562, .ref q571, .ref q574, .ref q577, .ref q580, .ref q583, .ref q586, .int 0, .int (-1), .int 0, .int 0, .long 0, .ref q599, .ref q600, .ref q601, .ref q602])), (q562, .inr (13, [.int 0, .ref z565, .int 1, .int 1, .ref z566, .int 0, .int 0, .int 0, .ref z567, .int 0, .int 0, .int (-1), .int (-1), .int 0, .int (-1), .int 0, .ref z568, .ref z569]))] H := hP
  have hD : va_D A [(ou, .inl (cL, 1, .inr (.inl (fun _ => 0)))), (md, .inr (12, [.int 0, .int 1, .int 1, .ref q562, .ref q571, .ref q574, .ref q577, .ref q580, .ref q583, .ref q586, .int 0, .int (-1), .int 0, .int 0, .long 0, .ref q599, .ref q600, .ref q601, .ref q602])), (q562, .inr (13, [.int 0, .ref z565, .int 1, .int 1, .ref z566, .int 0, .int 0, .int 0, .ref z567, .int 0, .int 0, .int (-1), .int (-1), .int 0, .int (-1), .int 0, .ref z568, .ref z569]))] := hD
  refine W.widen (k := 138) (n := 124625) (by omega) (by omega) ?_
  refine lv_istore (lv' := [(5, .int 0), (4, .int 0), (3, .ref ou), (2, .ref md), (1, .ref dm), (0, .ref b)]) hx hb d_law_422 hl (by decide) rfl (fun ls hl => ?_)
  refine lv_aload_n hx hb d_law_424 rfl (lv_at hl 3 rfl) ?_
  refine lv_aload_n hx hb d_law_425 rfl (lv_at hl 5 rfl) ?_
  refine lv_iload hx hb d_law_426 (lv_at hl 1 rfl) ?_
  refine lv_iconst (v := 1) hx hb d_law_428 (by decide) ?_
  refine lv_iadd hx hb d_law_429 ?_
  refine wi_c (v := 1) (by decide) ?_
  refine va_sld hx hb hX hbl hbA hS (by unfold vp_in; decide) d_law_430 ?_
  refine wi_c (v := 0) (hx1) ?_
  refine wc_v (wr := [(ou, .inl (cL, 1, .inr (.inl (fun _ => 0))))]) hC hP hD hS [1, 2] [0] rfl rfl (by decide) (by decide) (va_runV (As := [.int 0]) (rest := []) ⟨hx, hb, hml, hown, htw⟩ (c_Mend_g l D cI cL B _ md q562 z565 z566 z567 z568 z569 q571 q574 q577 q580 q583 q586 q599 q600 q601 q602) (cwV 1 htw gV_law_84 rfl rfl rfl (by decide +kernel) ⟨Nat.le_of_ble_eq_true rfl, Nat.le_of_ble_eq_true rfl⟩) (wC_preV (As := [.int 0]) hC hP hD hS [1, 2] (by decide) rfl (q0 := 1) rfl rfl) rfl rfl hl.1 rfl (lv_room (Nat.le_of_ble_eq_true rfl)) d_law_431 ⟨Nat.le_of_ble_eq_true rfl, Nat.le_of_ble_eq_true rfl⟩) (fun u1507 H locs hw1508 hP hD hS => ?_)
  have hP : va_P D classes [(ou, .inl (cL, 1, .inr (.inl (fun _ => 0)))), (md, .inr (12, [.int 0, .int 1, .int 1, .ref q562, .ref q571, .ref q574, .ref q577, .ref q580, .ref q583, .ref q586, .int 0, .int (-1), .int 0, .int 0, .long 0, .ref q599, .ref q600, .ref q601, .ref q602]))] H := hP
  have hD : va_D A [(ou, .inl (cL, 1, .inr (.inl (fun _ => 0)))), (md, .inr (12, [.int 0, .int 1, .int 1, .ref q562, .ref q571, .ref q574, .ref q577, .ref q580, .ref q583, .ref q586, .int 0, .int (-1), .int 0, .int 0, .long 0, .ref q599, .ref q600, .ref q601, .ref q602]))] := hD
  refine W.widen (k := 138) (n := 124625) (by omega) (by omega) ?_
  refine lv_aload_n hx hb d_law_434 rfl (lv_at hl 3 rfl) ?_
  refine wc_i (wr := [(ou, .inl (cL, 1, .inr (.inl (fun _ => 0))))]) hC hP hD hS [1] [0] rfl rfl (by decide) (by decide) (va_runV (As := []) (rest := []) ⟨hx, hb, hml, hown, htw⟩ (c_thrown l D cI cL B _ md 0 1 1 q562 q571 q574 q577 q580 q583 q586 0 (-1) 0 0 0 q599 q600 q601 q602) (cwV 0 htw gV_law_65 rfl rfl rfl (by decide +kernel) ⟨Nat.le_of_ble_eq_true rfl, Nat.le_of_ble_eq_true rfl⟩) (wC_preV (As := []) hC hP hD hS [1] (by decide) rfl (q0 := 1) rfl rfl) rfl rfl hl.1 rfl (lv_room (Nat.le_of_ble_eq_true rfl)) d_law_435 ⟨Nat.le_of_ble_eq_true rfl, Nat.le_of_ble_eq_true rfl⟩) (fun r1511 u1509 H locs hw1510 hP hD hS => ?_)
  obtain rfl : r1511 = 0 := hw1510
  have hP : va_P D classes [(ou, .inl (cL, 1, .inr (.inl (fun _ => 0)))), (md, .inr (12, [.int 0, .int 1, .int 1, .ref q562, .ref q571, .ref q574, .ref q577, .ref q580, .ref q583, .ref q586, .int 0, .int (-1), .int 0, .int 0, .long 0, .ref q599, .ref q600, .ref q601, .ref q602]))] H := hP
  have hD : va_D A [(ou, .inl (cL, 1, .inr (.inl (fun _ => 0)))), (md, .inr (12, [.int 0, .int 1, .int 1, .ref q562, .ref q571, .ref q574, .ref q577, .ref q580, .ref q583, .ref q586, .int 0, .int (-1), .int 0, .int 0, .long 0, .ref q599, .ref q600, .ref q601, .ref q602]))] := hD
  refine W.widen (k := 138) (n := 124625) (by omega) (by omega) ?_
  refine lv_iload hx hb d_law_438 (lv_at hl 0 rfl) ?_
  refine lv_icmp_eq (tgt := 445) hx hb d_law_440 (by decide) (fun c_1512 => ?_) (fun c_1512 => absurd c_1512 (by decide))
  refine lv_goto (tgt := 847) hx hb d_law_445 (by decide) ?_
  refine W.widen (k := 600002) (n := 7302232) (by omega) (by omega) ?_
  exact kk _ _ _ hS (lv_sub hl [1, 5] rfl)

set_option maxHeartbeats 4000000 in
set_option maxRecDepth 100000 in
theorem lc_end_b {p : Program} {l : Launch} {e : Env} {s : State} {m : MethodId} {args : Array Value} {below : List Frame} {meth : Method} {c : Code} {Q : State → Prop} {A : Nat → Prop} {b : Nat} {xs : Nat → Int32} {H : Heap} {locs : List Loc} {ls : Array Slot} (hfl : l.stackTraces = false) (D : va_G) (cI cL : ClassId) (B : Nat) (hx : p.tables.exec = Jvm.exec) (hb : c.code = code) (hml : c.maxLocals = 7) (hown : s.vm.findClass "DrawingMachineLaw" = some m.cls) (htw : ∀ w ∈ tw, w.before args s = true) (hC : wC D cI cL B A s) (hX : va_X b 6 xs s s.heap) (hbl : b < s.heap.size) (hbA : ¬ A b) (dm : Nat) (md : Nat) (ou : Nat) (q83 : Nat) (q84 : Nat) (q89 : Nat) (q95 : Nat) (z98 : Nat) (z99 : Nat) (z100 : Nat) (q101 : Nat) (q107 : Nat) (q116 : Nat) (q120 : Nat) (q124 : Nat) (q562 : Nat) (z565 : Nat) (z566 : Nat) (z567 : Nat) (z568 : Nat) (z569 : Nat) (q571 : Nat) (q574 : Nat) (q577 : Nat) (q580 : Nat) (q583 : Nat) (q586 : Nat) (q599 : Nat) (q600 : Nat) (q601 : Nat) (q602 : Nat) (x : Int32) (hbd : x < 0 ∨ 0 < x) (hx1 : xs 1 = x) (kk : ∀ (H : Heap) (locs : List Loc) (ls : Array Slot), va_S A s.heap H locs → lv_has ls 7 [(4, .int 0), (0, .ref b)] → W p l e room_1 s m args below meth c H locs 600002 7302232 Q (F0 m 847 ls [])) (hP : va_P D classes [(dm, .inr (0, [.ref q83, .ref q84, .ref q89, .ref q95, .ref q101, .ref q107, .ref q116, .ref q120, .ref q124])), (q95, .inr (3, [.ref z98, .int 0, .int 0, .int 0, .int 0, .int 0, .int (-1), .int (-1), .int 0, .long 0, .ref q83, .ref z99, .ref z100, .int 0, .int 0])), (ou, .inl (cL, 1, .inr (.inl (fun _ => 0)))), (md, .inr (12, [.int 0, .int 1, .int 1, .ref q562, .ref q571, .ref q574, .ref q577, .ref q580, .ref q583, .ref q586, .int 0, .int (-1), .int 0, .int 0, .long 0, .ref q599, .ref q600, .ref q601, .ref q602])), (q562, .inr (13, [.int 0, .ref z565, .int 1, .int 1, .ref z566, .int 0, .int 0, .int 0, .ref z567, .int 0, .int 0, .int (-1), .int (-1), .int 0, .int (-1), .int 0, .ref z568, .ref z569]))] H) (hD : va_D A [(dm, .inr (0, [.ref q83, .ref q84, .ref q89, .ref q95, .ref q101, .ref q107, .ref q116, .ref q120, .ref q124])), (q95, .inr (3, [.ref z98, .int 0, .int 0, .int 0, .int 0, .int 0, .int (-1), .int (-1), .int 0, .long 0, .ref q83, .ref z99, .ref z100, .int 0, .int 0])), (ou, .inl (cL, 1, .inr (.inl (fun _ => 0)))), (md, .inr (12, [.int 0, .int 1, .int 1, .ref q562, .ref q571, .ref q574, .ref q577, .ref q580, .ref q583, .ref q586, .int 0, .int (-1), .int 0, .int 0, .long 0, .ref q599, .ref q600, .ref q601, .ref q602])), (q562, .inr (13, [.int 0, .ref z565, .int 1, .int 1, .ref z566, .int 0, .int 0, .int 0, .ref z567, .int 0, .int 0, .int (-1), .int (-1), .int 0, .int (-1), .int 0, .ref z568, .ref z569]))]) (hS : va_S A s.heap H locs) (hl : lv_has ls 7 [(4, .int 0), (3, .ref ou), (2, .ref md), (1, .ref dm), (0, .ref b)]) : W p l e room_1 s m args below meth c H locs 138 124625 Q (F0 m 412 ls []) := by
  refine lv_aload_n hx hb d_law_412 rfl (lv_at hl 3 rfl) ?_
  refine lv_aload_n hx hb d_law_413 rfl (lv_at hl 4 rfl) ?_
  refine lv_iload hx hb d_law_414 (lv_at hl 0 rfl) ?_
  refine lv_iconst (v := 1) hx hb d_law_416 (by decide) ?_
  refine lv_iadd hx hb d_law_417 ?_
  refine wi_c (v := 1) (by decide) ?_
  refine va_sld hx hb hX hbl hbA hS (by unfold vp_in; decide) d_law_418 ?_
  refine wi_c (v := x) (hx1) ?_
  refine wc_i (wr := [(ou, .inl (cL, 1, .inr (.inl (fun _ => 0)))), (md, .inr (12, [.int 0, .int 1, .int 1, .ref q562, .ref q571, .ref q574, .ref q577, .ref q580, .ref q583, .ref q586, .int 0, .int (-1), .int 0, .int 0, .long 0, .ref q599, .ref q600, .ref q601, .ref q602])), (q562, .inr (13, [.int 0, .ref z565, .int 1, .int 1, .ref z566, .int 0, .int 0, .int 0, .ref z567, .int 0, .int 0, .int (-1), .int (-1), .int 0, .int (-1), .int 0, .ref z568, .ref z569]))]) hC hP hD hS [0, 1] [2, 3, 4] rfl rfl (by decide) (by decide) (tq_runSW (n := 2) (hh := [(0, 5, 8, 13)]) (As := [.ref dm, .int x]) (rest := []) ⟨hx, hb, hml, hown, htw⟩ (c_hend_b l hfl D cI cL B _ dm q83 q84 q89 q95 z98 z99 z100 q101 q107 q116 q120 q124 x (hbd)) htw (tw_goodW (fun _ h => h) k781) rfl rfl rfl ⟨Nat.le_of_ble_eq_true rfl, Nat.le_of_ble_eq_true rfl⟩ (htw _ k237) (by decide +kernel) (htw _ k842) (htw _ k843) (wC_pre hC hP hD hS [0, 1] (by decide) rfl) rfl rfl hl.1 rfl (lv_room (Nat.le_of_ble_eq_true rfl)) d_law_419 ⟨Nat.le_of_ble_eq_true rfl, Nat.le_of_ble_eq_true rfl⟩) (fun r1515 u1513 H locs hw1514 hP hD hS => ?_)
  obtain rfl : r1515 = 1 := hw1514
  have hP : va_P D classes [(ou, .inl (cL, 1, .inr (.inl (fun _ => 0)))), (md, .inr (12, [.int 0, .int 1, .int 1, .ref q562, .ref q571, .ref q574, .ref q577, .ref q580, .ref q583, .ref q586, .int 0, .int (-1), .int 0, .int 0, .long 0, .ref q599, .ref q600, .ref q601, .ref q602])), (q562, .inr (13, [.int 0, .ref z565, .int 1, .int 1, .ref z566, .int 0, .int 0, .int 0, .ref z567, .int 0, .int 0, .int (-1), .int (-1), .int 0, .int (-1), .int 0, .ref z568, .ref z569]))] H := hP
  have hD : va_D A [(ou, .inl (cL, 1, .inr (.inl (fun _ => 0)))), (md, .inr (12, [.int 0, .int 1, .int 1, .ref q562, .ref q571, .ref q574, .ref q577, .ref q580, .ref q583, .ref q586, .int 0, .int (-1), .int 0, .int 0, .long 0, .ref q599, .ref q600, .ref q601, .ref q602])), (q562, .inr (13, [.int 0, .ref z565, .int 1, .int 1, .ref z566, .int 0, .int 0, .int 0, .ref z567, .int 0, .int 0, .int (-1), .int (-1), .int 0, .int (-1), .int 0, .ref z568, .ref z569]))] := hD
  refine W.widen (k := 139) (n := 124631) (by omega) (by omega) ?_
  refine lv_istore (lv' := [(5, .int 1), (4, .int 0), (3, .ref ou), (2, .ref md), (1, .ref dm), (0, .ref b)]) hx hb d_law_422 hl (by decide) rfl (fun ls hl => ?_)
  refine lv_aload_n hx hb d_law_424 rfl (lv_at hl 3 rfl) ?_
  refine lv_aload_n hx hb d_law_425 rfl (lv_at hl 5 rfl) ?_
  refine lv_iload hx hb d_law_426 (lv_at hl 1 rfl) ?_
  refine lv_iconst (v := 1) hx hb d_law_428 (by decide) ?_
  refine lv_iadd hx hb d_law_429 ?_
  refine wi_c (v := 1) (by decide) ?_
  refine va_sld hx hb hX hbl hbA hS (by unfold vp_in; decide) d_law_430 ?_
  refine wi_c (v := x) (hx1) ?_
  refine wc_v (wr := [(ou, .inl (cL, 1, .inr (.inl (fun _ => 0))))]) hC hP hD hS [1, 2] [0] rfl rfl (by decide) (by decide) (va_runV (As := [.int x]) (rest := []) ⟨hx, hb, hml, hown, htw⟩ (c_Mend_b l D cI cL B _ md q562 z565 z566 z567 z568 z569 q571 q574 q577 q580 q583 q586 q599 q600 q601 q602 x (hbd)) (cwV 1 htw gV_law_84 rfl rfl rfl (by decide +kernel) ⟨Nat.le_of_ble_eq_true rfl, Nat.le_of_ble_eq_true rfl⟩) (wC_preV (As := [.int x]) hC hP hD hS [1, 2] (by decide) rfl (q0 := 1) rfl rfl) rfl rfl hl.1 rfl (lv_room (Nat.le_of_ble_eq_true rfl)) d_law_431 ⟨Nat.le_of_ble_eq_true rfl, Nat.le_of_ble_eq_true rfl⟩) (fun u1516 H locs hw1517 hP hD hS => ?_)
  have hP : va_P D classes [(ou, .inl (cL, 1, .inr (.inl (fun _ => 0)))), (md, .inr (12, [.int 1, .int 1, .int 1, .ref q562, .ref q571, .ref q574, .ref q577, .ref q580, .ref q583, .ref q586, .int 0, .int (-1), .int 0, .int 0, .long 0, .ref q599, .ref q600, .ref q601, .ref q602]))] H := hP
  have hD : va_D A [(ou, .inl (cL, 1, .inr (.inl (fun _ => 0)))), (md, .inr (12, [.int 1, .int 1, .int 1, .ref q562, .ref q571, .ref q574, .ref q577, .ref q580, .ref q583, .ref q586, .int 0, .int (-1), .int 0, .int 0, .long 0, .ref q599, .ref q600, .ref q601, .ref q602]))] := hD
  refine W.widen (k := 139) (n := 124631) (by omega) (by omega) ?_
  refine lv_aload_n hx hb d_law_434 rfl (lv_at hl 3 rfl) ?_
  refine wc_i (wr := [(ou, .inl (cL, 1, .inr (.inl (fun _ => 0))))]) hC hP hD hS [1] [0] rfl rfl (by decide) (by decide) (va_runV (As := []) (rest := []) ⟨hx, hb, hml, hown, htw⟩ (c_thrown l D cI cL B _ md 1 1 1 q562 q571 q574 q577 q580 q583 q586 0 (-1) 0 0 0 q599 q600 q601 q602) (cwV 0 htw gV_law_65 rfl rfl rfl (by decide +kernel) ⟨Nat.le_of_ble_eq_true rfl, Nat.le_of_ble_eq_true rfl⟩) (wC_preV (As := []) hC hP hD hS [1] (by decide) rfl (q0 := 1) rfl rfl) rfl rfl hl.1 rfl (lv_room (Nat.le_of_ble_eq_true rfl)) d_law_435 ⟨Nat.le_of_ble_eq_true rfl, Nat.le_of_ble_eq_true rfl⟩) (fun r1520 u1518 H locs hw1519 hP hD hS => ?_)
  obtain rfl : r1520 = 1 := hw1519
  have hP : va_P D classes [(ou, .inl (cL, 1, .inr (.inl (fun _ => 0)))), (md, .inr (12, [.int 1, .int 1, .int 1, .ref q562, .ref q571, .ref q574, .ref q577, .ref q580, .ref q583, .ref q586, .int 0, .int (-1), .int 0, .int 0, .long 0, .ref q599, .ref q600, .ref q601, .ref q602]))] H := hP
  have hD : va_D A [(ou, .inl (cL, 1, .inr (.inl (fun _ => 0)))), (md, .inr (12, [.int 1, .int 1, .int 1, .ref q562, .ref q571, .ref q574, .ref q577, .ref q580, .ref q583, .ref q586, .int 0, .int (-1), .int 0, .int 0, .long 0, .ref q599, .ref q600, .ref q601, .ref q602]))] := hD
  refine W.widen (k := 139) (n := 124631) (by omega) (by omega) ?_
  refine lv_iload hx hb d_law_438 (lv_at hl 0 rfl) ?_
  refine lv_icmp_eq (tgt := 445) hx hb d_law_440 (by decide) (fun c_1521 => ?_) (fun c_1521 => absurd c_1521 (by decide))
  refine lv_goto (tgt := 847) hx hb d_law_445 (by decide) ?_
  refine W.widen (k := 600002) (n := 7302232) (by omega) (by omega) ?_
  exact kk _ _ _ hS (lv_sub hl [1, 5] rfl)

theorem d_law_448 : decode code 448 = .ok (.aload_n 1, 1) := by decide +kernel
theorem d_law_449 : decode code 449 = .ok (.aload_n 0, 1) := by decide +kernel
theorem d_law_450 : decode code 450 = .ok (.iload 4, 2) := by decide +kernel
theorem d_law_452 : decode code 452 = .ok (.iconst 1, 1) := by decide +kernel
theorem d_law_453 : decode code 453 = .ok (.iadd, 1) := by decide +kernel
theorem d_law_454 : decode code 454 = .ok (.iaload, 1) := by decide +kernel
theorem d_law_455 : decode code 455 = .ok (.ifCond .eq 7, 3) := by decide +kernel
theorem d_law_462 : decode code 462 = .ok (.iconst 0, 1) := by decide +kernel
theorem d_law_463 : decode code 463 = .ok (.invokevirtual 85, 3) := by decide +kernel
theorem d_law_466 : decode code 466 = .ok (.aload_n 2, 1) := by decide +kernel
theorem d_law_467 : decode code 467 = .ok (.aload_n 0, 1) := by decide +kernel
theorem d_law_468 : decode code 468 = .ok (.iload 4, 2) := by decide +kernel
theorem d_law_470 : decode code 470 = .ok (.iconst 1, 1) := by decide +kernel
theorem d_law_471 : decode code 471 = .ok (.iadd, 1) := by decide +kernel
theorem d_law_472 : decode code 472 = .ok (.iaload, 1) := by decide +kernel
theorem d_law_473 : decode code 473 = .ok (.ifCond .eq 7, 3) := by decide +kernel
theorem d_law_480 : decode code 480 = .ok (.iconst 0, 1) := by decide +kernel
theorem d_law_481 : decode code 481 = .ok (.invokevirtual 89, 3) := by decide +kernel
theorem d_law_484 : decode code 484 = .ok (.goto 363, 3) := by decide +kernel
theorem gV_law_85 : GoodIn tw (wsV "DrawingMachineLaw" 85 "DrawingMachine" y_DM_begin ((Cond.code y_DM_begin prog_1_method_7_code 2 none) :: tw)) := tw_pre (fun _ h => h) (tw_good (fun _ h => h) k308) (List.forall_mem_cons.mpr ⟨k847, List.forall_mem_cons.mpr ⟨k848, List.forall_mem_cons.mpr ⟨k849, List.forall_mem_cons.mpr ⟨k0, fun _ h => absurd h List.not_mem_nil⟩⟩⟩⟩)
theorem gV_law_89 : GoodIn tw (wsV "DrawingMachineLaw" 89 "DrawingMachineModel" y_Mod_begin ((Cond.code y_Mod_begin prog_14_method_10_code 2 none) :: tw)) := tw_pre (fun _ h => h) (tw_good (fun _ h => h) k661) (List.forall_mem_cons.mpr ⟨k850, List.forall_mem_cons.mpr ⟨k851, List.forall_mem_cons.mpr ⟨k852, List.forall_mem_cons.mpr ⟨k116, fun _ h => absurd h List.not_mem_nil⟩⟩⟩⟩)
set_option maxHeartbeats 4000000 in
set_option maxRecDepth 100000 in
theorem lc_begin_0 {p : Program} {l : Launch} {e : Env} {s : State} {m : MethodId} {args : Array Value} {below : List Frame} {meth : Method} {c : Code} {Q : State → Prop} {A : Nat → Prop} {b : Nat} {xs : Nat → Int32} {H : Heap} {locs : List Loc} {ls : Array Slot} (hfl : l.stackTraces = false) (D : va_G) (cI cL : ClassId) (B : Nat) (hx : p.tables.exec = Jvm.exec) (hb : c.code = code) (hml : c.maxLocals = 7) (hown : s.vm.findClass "DrawingMachineLaw" = some m.cls) (htw : ∀ w ∈ tw, w.before args s = true) (hC : wC D cI cL B A s) (hX : va_X b 6 xs s s.heap) (hbl : b < s.heap.size) (hbA : ¬ A b) (dm : Nat) (md : Nat) (ou : Nat) (q83 : Nat) (q84 : Nat) (z87 : Nat) (z88 : Nat → Int32) (q89 : Nat) (q95 : Nat) (z98 : Nat) (z99 : Nat) (z100 : Nat) (q101 : Nat) (q107 : Nat) (z110 : Nat) (z111 : Nat) (z112 : Nat) (z113 : Nat) (z114 : Nat) (z115 : Nat) (q116 : Nat) (z119 : Nat) (q120 : Nat) (z123 : Nat) (q124 : Nat) (q562 : Nat) (z565 : Nat) (z566 : Nat) (z567 : Nat) (z568 : Nat) (z569 : Nat) (z570 : Nat → Int32) (q571 : Nat) (q574 : Nat) (q577 : Nat) (q580 : Nat) (q583 : Nat) (q586 : Nat) (q599 : Nat) (q600 : Nat) (q601 : Nat) (q602 : Nat) (hx1 : xs 1 = 0) (kk : ∀ (H : Heap) (locs : List Loc) (ls : Array Slot), va_S A s.heap H locs → lv_has ls 7 [(4, .int 0), (0, .ref b)] → W p l e room_1 s m args below meth c H locs 600002 7302232 Q (F0 m 847 ls [])) (hP : va_P D classes [(dm, .inr (0, [.ref q83, .ref q84, .ref q89, .ref q95, .ref q101, .ref q107, .ref q116, .ref q120, .ref q124])), (q95, .inr (3, [.ref z98, .int 0, .int 0, .int 0, .int 0, .int 0, .int (-1), .int (-1), .int 0, .long 0, .ref q83, .ref z99, .ref z100, .int 0, .int 0])), (q107, .inr (5, [.ref z110, .ref z111, .int (-1), .ref z87, .ref q89, .ref z112, .ref z113, .ref z114, .ref z115])), (q84, .inr (1, [.ref z87])), (z87, .inl (cI, 245, .inl z88)), (q116, .inr (11, [.ref z119, .int 0, .int 0, .int 0])), (q120, .inr (11, [.ref z123, .int 0, .int 0, .int 0])), (ou, .inl (cL, 1, .inr (.inl (fun _ => 0)))), (md, .inr (12, [.int 0, .int 1, .int 1, .ref q562, .ref q571, .ref q574, .ref q577, .ref q580, .ref q583, .ref q586, .int 0, .int (-1), .int 0, .int 0, .long 0, .ref q599, .ref q600, .ref q601, .ref q602])), (q562, .inr (13, [.int 0, .ref z565, .int 1, .int 1, .ref z566, .int 0, .int 0, .int 0, .ref z567, .int 0, .int 0, .int (-1), .int (-1), .int 0, .int (-1), .int 0, .ref z568, .ref z569])), (z569, .inl (cI, 4160, .inl z570))] H) (hD : va_D A [(dm, .inr (0, [.ref q83, .ref q84, .ref q89, .ref q95, .ref q101, .ref q107, .ref q116, .ref q120, .ref q124])), (q95, .inr (3, [.ref z98, .int 0, .int 0, .int 0, .int 0, .int 0, .int (-1), .int (-1), .int 0, .long 0, .ref q83, .ref z99, .ref z100, .int 0, .int 0])), (q107, .inr (5, [.ref z110, .ref z111, .int (-1), .ref z87, .ref q89, .ref z112, .ref z113, .ref z114, .ref z115])), (q84, .inr (1, [.ref z87])), (z87, .inl (cI, 245, .inl z88)), (q116, .inr (11, [.ref z119, .int 0, .int 0, .int 0])), (q120, .inr (11, [.ref z123, .int 0, .int 0, .int 0])), (ou, .inl (cL, 1, .inr (.inl (fun _ => 0)))), (md, .inr (12, [.int 0, .int 1, .int 1, .ref q562, .ref q571, .ref q574, .ref q577, .ref q580, .ref q583, .ref q586, .int 0, .int (-1), .int 0, .int 0, .long 0, .ref q599, .ref q600, .ref q601, .ref q602])), (q562, .inr (13, [.int 0, .ref z565, .int 1, .int 1, .ref z566, .int 0, .int 0, .int 0, .ref z567, .int 0, .int 0, .int (-1), .int (-1), .int 0, .int (-1), .int 0, .ref z568, .ref z569])), (z569, .inl (cI, 4160, .inl z570))]) (hS : va_S A s.heap H locs) (hl : lv_has ls 7 [(4, .int 0), (3, .ref ou), (2, .ref md), (1, .ref dm), (0, .ref b)]) : W p l e room_1 s m args below meth c H locs 138 124625 Q (F0 m 448 ls []) := by
  refine lv_aload_n hx hb d_law_448 rfl (lv_at hl 3 rfl) ?_
  refine lv_aload_n hx hb d_law_449 rfl (lv_at hl 4 rfl) ?_
  refine lv_iload hx hb d_law_450 (lv_at hl 0 rfl) ?_
  refine lv_iconst (v := 1) hx hb d_law_452 (by decide) ?_
  refine lv_iadd hx hb d_law_453 ?_
  refine wi_c (v := 1) (by decide) ?_
  refine va_sld hx hb hX hbl hbA hS (by unfold vp_in; decide) d_law_454 ?_
  refine wi_c (v := 0) (hx1) ?_
  refine lv_if_eq (tgt := 462) hx hb d_law_455 (by decide) (fun c_1522 => ?_) (fun c_1522 => absurd c_1522 (by decide))
  refine lv_iconst (v := 0) hx hb d_law_462 (by decide) ?_
  refine wc_v (wr := [(ou, .inl (cL, 1, .inr (.inl (fun _ => 0)))), (md, .inr (12, [.int 0, .int 1, .int 1, .ref q562, .ref q571, .ref q574, .ref q577, .ref q580, .ref q583, .ref q586, .int 0, .int (-1), .int 0, .int 0, .long 0, .ref q599, .ref q600, .ref q601, .ref q602])), (q562, .inr (13, [.int 0, .ref z565, .int 1, .int 1, .ref z566, .int 0, .int 0, .int 0, .ref z567, .int 0, .int 0, .int (-1), .int (-1), .int 0, .int (-1), .int 0, .ref z568, .ref z569])), (z569, .inl (cI, 4160, .inl z570))]) hC hP hD hS [0, 1, 2, 3, 4, 5, 6] [7, 8, 9, 10] rfl rfl (by decide) (by decide) (va_runV (As := [.int 0]) (rest := []) ⟨hx, hb, hml, hown, htw⟩ (c_begin_0 l D cI cL B _ dm q83 q84 z87 z88 q89 q95 z98 z99 z100 q101 q107 z110 z111 z112 z113 z114 z115 q116 z119 q120 z123 q124) (cwV 1 htw gV_law_85 rfl rfl rfl (by decide +kernel) ⟨Nat.le_of_ble_eq_true rfl, Nat.le_of_ble_eq_true rfl⟩) (wC_preV (As := [.int 0]) hC hP hD hS [0, 1, 2, 3, 4, 5, 6] (by decide) rfl (q0 := 0) rfl rfl) rfl rfl hl.1 rfl (lv_room (Nat.le_of_ble_eq_true rfl)) d_law_463 ⟨Nat.le_of_ble_eq_true rfl, Nat.le_of_ble_eq_true rfl⟩) (fun u1523 H locs hw1524 hP hD hS => ?_)
  have hP : va_P D classes [(ou, .inl (cL, 1, .inr (.inl (fun _ => 0)))), (md, .inr (12, [.int 0, .int 1, .int 1, .ref q562, .ref q571, .ref q574, .ref q577, .ref q580, .ref q583, .ref q586, .int 0, .int (-1), .int 0, .int 0, .long 0, .ref q599, .ref q600, .ref q601, .ref q602])), (q562, .inr (13, [.int 0, .ref z565, .int 1, .int 1, .ref z566, .int 0, .int 0, .int 0, .ref z567, .int 0, .int 0, .int (-1), .int (-1), .int 0, .int (-1), .int 0, .ref z568, .ref z569])), (z569, .inl (cI, 4160, .inl z570))] H := hP
  have hD : va_D A [(ou, .inl (cL, 1, .inr (.inl (fun _ => 0)))), (md, .inr (12, [.int 0, .int 1, .int 1, .ref q562, .ref q571, .ref q574, .ref q577, .ref q580, .ref q583, .ref q586, .int 0, .int (-1), .int 0, .int 0, .long 0, .ref q599, .ref q600, .ref q601, .ref q602])), (q562, .inr (13, [.int 0, .ref z565, .int 1, .int 1, .ref z566, .int 0, .int 0, .int 0, .ref z567, .int 0, .int 0, .int (-1), .int (-1), .int 0, .int (-1), .int 0, .ref z568, .ref z569])), (z569, .inl (cI, 4160, .inl z570))] := hD
  refine W.widen (k := 138) (n := 124625) (by omega) (by omega) ?_
  refine lv_aload_n hx hb d_law_466 rfl (lv_at hl 2 rfl) ?_
  refine lv_aload_n hx hb d_law_467 rfl (lv_at hl 4 rfl) ?_
  refine lv_iload hx hb d_law_468 (lv_at hl 0 rfl) ?_
  refine lv_iconst (v := 1) hx hb d_law_470 (by decide) ?_
  refine lv_iadd hx hb d_law_471 ?_
  refine wi_c (v := 1) (by decide) ?_
  refine va_sld hx hb hX hbl hbA hS (by unfold vp_in; decide) d_law_472 ?_
  refine wi_c (v := 0) (hx1) ?_
  refine lv_if_eq (tgt := 480) hx hb d_law_473 (by decide) (fun c_1525 => ?_) (fun c_1525 => absurd c_1525 (by decide))
  refine lv_iconst (v := 0) hx hb d_law_480 (by decide) ?_
  refine wc_v (wr := [(ou, .inl (cL, 1, .inr (.inl (fun _ => 0))))]) hC hP hD hS [1, 2, 3] [0] rfl rfl (by decide) (by decide) (va_runV (As := [.int 0]) (rest := []) ⟨hx, hb, hml, hown, htw⟩ (c_Mbegin_0 l D cI cL B _ md q562 z565 z566 z567 z568 z569 z570 q571 q574 q577 q580 q583 q586 q599 q600 q601 q602) (cwV 1 htw gV_law_89 rfl rfl rfl (by decide +kernel) ⟨Nat.le_of_ble_eq_true rfl, Nat.le_of_ble_eq_true rfl⟩) (wC_preV (As := [.int 0]) hC hP hD hS [1, 2, 3] (by decide) rfl (q0 := 1) rfl rfl) rfl rfl hl.1 rfl (lv_room (Nat.le_of_ble_eq_true rfl)) d_law_481 ⟨Nat.le_of_ble_eq_true rfl, Nat.le_of_ble_eq_true rfl⟩) (fun u1526 H locs hw1527 hP hD hS => ?_)
  have hP : va_P D classes [(ou, .inl (cL, 1, .inr (.inl (fun _ => 0)))), (md, .inr (12, [.int 0, .int 1, .int 1, .ref q562, .ref q571, .ref q574, .ref q577, .ref q580, .ref q583, .ref q586, .int 0, .int (-1), .int 0, .int 0, .long 0, .ref q599, .ref q600, .ref q601, .ref q602]))] H := hP
  have hD : va_D A [(ou, .inl (cL, 1, .inr (.inl (fun _ => 0)))), (md, .inr (12, [.int 0, .int 1, .int 1, .ref q562, .ref q571, .ref q574, .ref q577, .ref q580, .ref q583, .ref q586, .int 0, .int (-1), .int 0, .int 0, .long 0, .ref q599, .ref q600, .ref q601, .ref q602]))] := hD
  refine W.widen (k := 138) (n := 124625) (by omega) (by omega) ?_
  refine lv_goto (tgt := 847) hx hb d_law_484 (by decide) ?_
  refine W.widen (k := 600002) (n := 7302232) (by omega) (by omega) ?_
  exact kk _ _ _ hS (lv_sub hl [0, 4] rfl)

theorem d_law_458 : decode code 458 = .ok (.iconst 1, 1) := by decide +kernel
theorem d_law_459 : decode code 459 = .ok (.goto 4, 3) := by decide +kernel
theorem d_law_476 : decode code 476 = .ok (.iconst 1, 1) := by decide +kernel
theorem d_law_477 : decode code 477 = .ok (.goto 4, 3) := by decide +kernel
set_option maxHeartbeats 4000000 in
set_option maxRecDepth 100000 in
theorem lc_begin_1 {p : Program} {l : Launch} {e : Env} {s : State} {m : MethodId} {args : Array Value} {below : List Frame} {meth : Method} {c : Code} {Q : State → Prop} {A : Nat → Prop} {b : Nat} {xs : Nat → Int32} {H : Heap} {locs : List Loc} {ls : Array Slot} (hfl : l.stackTraces = false) (D : va_G) (cI cL : ClassId) (B : Nat) (hx : p.tables.exec = Jvm.exec) (hb : c.code = code) (hml : c.maxLocals = 7) (hown : s.vm.findClass "DrawingMachineLaw" = some m.cls) (htw : ∀ w ∈ tw, w.before args s = true) (hC : wC D cI cL B A s) (hX : va_X b 6 xs s s.heap) (hbl : b < s.heap.size) (hbA : ¬ A b) (dm : Nat) (md : Nat) (ou : Nat) (q83 : Nat) (q84 : Nat) (z87 : Nat) (q89 : Nat) (q95 : Nat) (z98 : Nat) (z99 : Nat) (z100 : Nat) (q101 : Nat) (q107 : Nat) (z110 : Nat) (z111 : Nat) (z112 : Nat) (z113 : Nat) (z114 : Nat) (z115 : Nat) (q116 : Nat) (q120 : Nat) (q124 : Nat) (q562 : Nat) (z565 : Nat) (z566 : Nat) (z567 : Nat) (z568 : Nat) (z569 : Nat) (q571 : Nat) (q574 : Nat) (q577 : Nat) (q580 : Nat) (q583 : Nat) (q586 : Nat) (q599 : Nat) (q600 : Nat) (q601 : Nat) (q602 : Nat) (x : Int32) (hne : ¬ x = 0) (hx1 : xs 1 = x) (kk : ∀ (H : Heap) (locs : List Loc) (ls : Array Slot), va_S A s.heap H locs → lv_has ls 7 [(4, .int 0), (0, .ref b)] → W p l e room_1 s m args below meth c H locs 600002 7302232 Q (F0 m 847 ls [])) (hP : va_P D classes [(dm, .inr (0, [.ref q83, .ref q84, .ref q89, .ref q95, .ref q101, .ref q107, .ref q116, .ref q120, .ref q124])), (q95, .inr (3, [.ref z98, .int 0, .int 0, .int 0, .int 0, .int 0, .int (-1), .int (-1), .int 0, .long 0, .ref q83, .ref z99, .ref z100, .int 0, .int 0])), (q107, .inr (5, [.ref z110, .ref z111, .int (-1), .ref z87, .ref q89, .ref z112, .ref z113, .ref z114, .ref z115])), (ou, .inl (cL, 1, .inr (.inl (fun _ => 0)))), (md, .inr (12, [.int 0, .int 1, .int 1, .ref q562, .ref q571, .ref q574, .ref q577, .ref q580, .ref q583, .ref q586, .int 0, .int (-1), .int 0, .int 0, .long 0, .ref q599, .ref q600, .ref q601, .ref q602])), (q562, .inr (13, [.int 0, .ref z565, .int 1, .int 1, .ref z566, .int 0, .int 0, .int 0, .ref z567, .int 0, .int 0, .int (-1), .int (-1), .int 0, .int (-1), .int 0, .ref z568, .ref z569]))] H) (hD : va_D A [(dm, .inr (0, [.ref q83, .ref q84, .ref q89, .ref q95, .ref q101, .ref q107, .ref q116, .ref q120, .ref q124])), (q95, .inr (3, [.ref z98, .int 0, .int 0, .int 0, .int 0, .int 0, .int (-1), .int (-1), .int 0, .long 0, .ref q83, .ref z99, .ref z100, .int 0, .int 0])), (q107, .inr (5, [.ref z110, .ref z111, .int (-1), .ref z87, .ref q89, .ref z112, .ref z113, .ref z114, .ref z115])), (ou, .inl (cL, 1, .inr (.inl (fun _ => 0)))), (md, .inr (12, [.int 0, .int 1, .int 1, .ref q562, .ref q571, .ref q574, .ref q577, .ref q580, .ref q583, .ref q586, .int 0, .int (-1), .int 0, .int 0, .long 0, .ref q599, .ref q600, .ref q601, .ref q602])), (q562, .inr (13, [.int 0, .ref z565, .int 1, .int 1, .ref z566, .int 0, .int 0, .int 0, .ref z567, .int 0, .int 0, .int (-1), .int (-1), .int 0, .int (-1), .int 0, .ref z568, .ref z569]))]) (hS : va_S A s.heap H locs) (hl : lv_has ls 7 [(4, .int 0), (3, .ref ou), (2, .ref md), (1, .ref dm), (0, .ref b)]) : W p l e room_1 s m args below meth c H locs 138 124625 Q (F0 m 448 ls []) := by
  refine lv_aload_n hx hb d_law_448 rfl (lv_at hl 3 rfl) ?_
  refine lv_aload_n hx hb d_law_449 rfl (lv_at hl 4 rfl) ?_
  refine lv_iload hx hb d_law_450 (lv_at hl 0 rfl) ?_
  refine lv_iconst (v := 1) hx hb d_law_452 (by decide) ?_
  refine lv_iadd hx hb d_law_453 ?_
  refine wi_c (v := 1) (by decide) ?_
  refine va_sld hx hb hX hbl hbA hS (by unfold vp_in; decide) d_law_454 ?_
  refine wi_c (v := x) (hx1) ?_
  refine lv_if_eq (tgt := 462) hx hb d_law_455 (by decide) (fun c_1528 => absurd c_1528 hne) (fun c_1528 => ?_)
  refine lv_iconst (v := 1) hx hb d_law_458 (by decide) ?_
  refine lv_goto (tgt := 463) hx hb d_law_459 (by decide) ?_
  refine wc_v (wr := [(ou, .inl (cL, 1, .inr (.inl (fun _ => 0)))), (md, .inr (12, [.int 0, .int 1, .int 1, .ref q562, .ref q571, .ref q574, .ref q577, .ref q580, .ref q583, .ref q586, .int 0, .int (-1), .int 0, .int 0, .long 0, .ref q599, .ref q600, .ref q601, .ref q602])), (q562, .inr (13, [.int 0, .ref z565, .int 1, .int 1, .ref z566, .int 0, .int 0, .int 0, .ref z567, .int 0, .int 0, .int (-1), .int (-1), .int 0, .int (-1), .int 0, .ref z568, .ref z569]))]) hC hP hD hS [0, 1, 2] [3, 4, 5] rfl rfl (by decide) (by decide) (va_runV (As := [.int 1]) (rest := []) ⟨hx, hb, hml, hown, htw⟩ (c_begin_1 l D cI cL B _ dm q83 q84 z87 q89 q95 z98 z99 z100 q101 q107 z110 z111 z112 z113 z114 z115 q116 q120 q124) (cwV 1 htw gV_law_85 rfl rfl rfl (by decide +kernel) ⟨Nat.le_of_ble_eq_true rfl, Nat.le_of_ble_eq_true rfl⟩) (wC_preV (As := [.int 1]) hC hP hD hS [0, 1, 2] (by decide) rfl (q0 := 0) rfl rfl) rfl rfl hl.1 rfl (lv_room (Nat.le_of_ble_eq_true rfl)) d_law_463 ⟨Nat.le_of_ble_eq_true rfl, Nat.le_of_ble_eq_true rfl⟩) (fun u1529 H locs hw1530 hP hD hS => ?_)
  have hP : va_P D classes [(ou, .inl (cL, 1, .inr (.inl (fun _ => 0)))), (md, .inr (12, [.int 0, .int 1, .int 1, .ref q562, .ref q571, .ref q574, .ref q577, .ref q580, .ref q583, .ref q586, .int 0, .int (-1), .int 0, .int 0, .long 0, .ref q599, .ref q600, .ref q601, .ref q602])), (q562, .inr (13, [.int 0, .ref z565, .int 1, .int 1, .ref z566, .int 0, .int 0, .int 0, .ref z567, .int 0, .int 0, .int (-1), .int (-1), .int 0, .int (-1), .int 0, .ref z568, .ref z569]))] H := hP
  have hD : va_D A [(ou, .inl (cL, 1, .inr (.inl (fun _ => 0)))), (md, .inr (12, [.int 0, .int 1, .int 1, .ref q562, .ref q571, .ref q574, .ref q577, .ref q580, .ref q583, .ref q586, .int 0, .int (-1), .int 0, .int 0, .long 0, .ref q599, .ref q600, .ref q601, .ref q602])), (q562, .inr (13, [.int 0, .ref z565, .int 1, .int 1, .ref z566, .int 0, .int 0, .int 0, .ref z567, .int 0, .int 0, .int (-1), .int (-1), .int 0, .int (-1), .int 0, .ref z568, .ref z569]))] := hD
  refine W.widen (k := 138) (n := 124625) (by omega) (by omega) ?_
  refine lv_aload_n hx hb d_law_466 rfl (lv_at hl 2 rfl) ?_
  refine lv_aload_n hx hb d_law_467 rfl (lv_at hl 4 rfl) ?_
  refine lv_iload hx hb d_law_468 (lv_at hl 0 rfl) ?_
  refine lv_iconst (v := 1) hx hb d_law_470 (by decide) ?_
  refine lv_iadd hx hb d_law_471 ?_
  refine wi_c (v := 1) (by decide) ?_
  refine va_sld hx hb hX hbl hbA hS (by unfold vp_in; decide) d_law_472 ?_
  refine wi_c (v := x) (hx1) ?_
  refine lv_if_eq (tgt := 480) hx hb d_law_473 (by decide) (fun c_1531 => absurd c_1531 hne) (fun c_1531 => ?_)
  refine lv_iconst (v := 1) hx hb d_law_476 (by decide) ?_
  refine lv_goto (tgt := 481) hx hb d_law_477 (by decide) ?_
  refine wc_v (wr := [(ou, .inl (cL, 1, .inr (.inl (fun _ => 0))))]) hC hP hD hS [1, 2] [0] rfl rfl (by decide) (by decide) (va_runV (As := [.int 1]) (rest := []) ⟨hx, hb, hml, hown, htw⟩ (c_Mbegin_1 l D cI cL B _ md q562 z565 z566 z567 z568 z569 q571 q574 q577 q580 q583 q586 q599 q600 q601 q602) (cwV 1 htw gV_law_89 rfl rfl rfl (by decide +kernel) ⟨Nat.le_of_ble_eq_true rfl, Nat.le_of_ble_eq_true rfl⟩) (wC_preV (As := [.int 1]) hC hP hD hS [1, 2] (by decide) rfl (q0 := 1) rfl rfl) rfl rfl hl.1 rfl (lv_room (Nat.le_of_ble_eq_true rfl)) d_law_481 ⟨Nat.le_of_ble_eq_true rfl, Nat.le_of_ble_eq_true rfl⟩) (fun u1532 H locs hw1533 hP hD hS => ?_)
  have hP : va_P D classes [(ou, .inl (cL, 1, .inr (.inl (fun _ => 0)))), (md, .inr (12, [.int 0, .int 1, .int 1, .ref q562, .ref q571, .ref q574, .ref q577, .ref q580, .ref q583, .ref q586, .int 0, .int (-1), .int 0, .int 0, .long 0, .ref q599, .ref q600, .ref q601, .ref q602]))] H := hP
  have hD : va_D A [(ou, .inl (cL, 1, .inr (.inl (fun _ => 0)))), (md, .inr (12, [.int 0, .int 1, .int 1, .ref q562, .ref q571, .ref q574, .ref q577, .ref q580, .ref q583, .ref q586, .int 0, .int (-1), .int 0, .int 0, .long 0, .ref q599, .ref q600, .ref q601, .ref q602]))] := hD
  refine W.widen (k := 138) (n := 124625) (by omega) (by omega) ?_
  refine lv_goto (tgt := 847) hx hb d_law_484 (by decide) ?_
  refine W.widen (k := 600002) (n := 7302232) (by omega) (by omega) ?_
  exact kk _ _ _ hS (lv_sub hl [0, 4] rfl)

theorem d_law_487 : decode code 487 = .ok (.aload_n 1, 1) := by decide +kernel
theorem d_law_488 : decode code 488 = .ok (.aload_n 0, 1) := by decide +kernel
theorem d_law_489 : decode code 489 = .ok (.iload 4, 2) := by decide +kernel
theorem d_law_491 : decode code 491 = .ok (.iconst 1, 1) := by decide +kernel
theorem d_law_492 : decode code 492 = .ok (.iadd, 1) := by decide +kernel
theorem d_law_493 : decode code 493 = .ok (.iaload, 1) := by decide +kernel
theorem d_law_494 : decode code 494 = .ok (.aload_n 3, 1) := by decide +kernel
theorem d_law_495 : decode code 495 = .ok (.invokestatic 90, 3) := by decide +kernel
theorem d_law_498 : decode code 498 = .ok (.istore 5, 2) := by decide +kernel
theorem d_law_500 : decode code 500 = .ok (.aload_n 2, 1) := by decide +kernel
theorem d_law_501 : decode code 501 = .ok (.aload_n 0, 1) := by decide +kernel
theorem d_law_502 : decode code 502 = .ok (.iload 4, 2) := by decide +kernel
theorem d_law_504 : decode code 504 = .ok (.iconst 1, 1) := by decide +kernel
theorem d_law_505 : decode code 505 = .ok (.iadd, 1) := by decide +kernel
theorem d_law_506 : decode code 506 = .ok (.iaload, 1) := by decide +kernel
theorem d_law_507 : decode code 507 = .ok (.invokevirtual 92, 3) := by decide +kernel
theorem d_law_510 : decode code 510 = .ok (.istore 6, 2) := by decide +kernel
theorem d_law_512 : decode code 512 = .ok (.aload_n 2, 1) := by decide +kernel
theorem d_law_513 : decode code 513 = .ok (.invokevirtual 65, 3) := by decide +kernel
theorem d_law_516 : decode code 516 = .ok (.iload 5, 2) := by decide +kernel
theorem d_law_518 : decode code 518 = .ok (.if_icmp .eq 5, 3) := by decide +kernel
theorem d_law_523 : decode code 523 = .ok (.iload 5, 2) := by decide +kernel
theorem d_law_525 : decode code 525 = .ok (.ifCond .ne 15, 3) := by decide +kernel
theorem d_law_528 : decode code 528 = .ok (.aload_n 3, 1) := by decide +kernel
theorem d_law_529 : decode code 529 = .ok (.iconst 0, 1) := by decide +kernel
theorem d_law_530 : decode code 530 = .ok (.laload, 1) := by decide +kernel
theorem d_law_531 : decode code 531 = .ok (.iload 6, 2) := by decide +kernel
theorem d_law_533 : decode code 533 = .ok (.i2l, 1) := by decide +kernel
theorem d_law_534 : decode code 534 = .ok (.lcmp, 1) := by decide +kernel
theorem d_law_535 : decode code 535 = .ok (.ifCond .eq 5, 3) := by decide +kernel
theorem d_law_540 : decode code 540 = .ok (.goto 307, 3) := by decide +kernel
theorem gV_law_92 : GoodIn tw (wsV "DrawingMachineLaw" 92 "DrawingMachineModel" y_Mod_run ((Cond.code y_Mod_run prog_14_method_12_code 3 (some .int)) :: tw)) := tw_pre (fun _ h => h) (tw_good (fun _ h => h) k665) (List.forall_mem_cons.mpr ⟨k855, List.forall_mem_cons.mpr ⟨k856, List.forall_mem_cons.mpr ⟨k857, List.forall_mem_cons.mpr ⟨k116, fun _ h => absurd h List.not_mem_nil⟩⟩⟩⟩)
set_option maxHeartbeats 4000000 in
set_option maxRecDepth 100000 in
theorem lc_run_0 {p : Program} {l : Launch} {e : Env} {s : State} {m : MethodId} {args : Array Value} {below : List Frame} {meth : Method} {c : Code} {Q : State → Prop} {A : Nat → Prop} {b : Nat} {xs : Nat → Int32} {H : Heap} {locs : List Loc} {ls : Array Slot} (hfl : l.stackTraces = false) (D : va_G) (cI cL : ClassId) (B : Nat) (hx : p.tables.exec = Jvm.exec) (hb : c.code = code) (hml : c.maxLocals = 7) (hown : s.vm.findClass "DrawingMachineLaw" = some m.cls) (htw : ∀ w ∈ tw, w.before args s = true) (hC : wC D cI cL B A s) (hX : va_X b 6 xs s s.heap) (hbl : b < s.heap.size) (hbA : ¬ A b) (dm : Nat) (md : Nat) (ou : Nat) (q83 : Nat) (q84 : Nat) (q89 : Nat) (q95 : Nat) (z98 : Nat) (z99 : Nat) (z100 : Nat) (q101 : Nat) (q107 : Nat) (q116 : Nat) (q120 : Nat) (q124 : Nat) (q562 : Nat) (z565 : Nat) (z566 : Nat) (z567 : Nat) (z568 : Nat) (z569 : Nat) (q571 : Nat) (q574 : Nat) (q577 : Nat) (q580 : Nat) (q583 : Nat) (q586 : Nat) (q599 : Nat) (q600 : Nat) (q601 : Nat) (q602 : Nat) (hx1 : xs 1 = 0) (kk : ∀ (H : Heap) (locs : List Loc) (ls : Array Slot), va_S A s.heap H locs → lv_has ls 7 [(4, .int 0), (0, .ref b)] → W p l e room_1 s m args below meth c H locs 600002 7302232 Q (F0 m 847 ls [])) (hP : va_P D classes [(dm, .inr (0, [.ref q83, .ref q84, .ref q89, .ref q95, .ref q101, .ref q107, .ref q116, .ref q120, .ref q124])), (q95, .inr (3, [.ref z98, .int 0, .int 0, .int 0, .int 0, .int 0, .int (-1), .int (-1), .int 0, .long 0, .ref q83, .ref z99, .ref z100, .int 0, .int 0])), (ou, .inl (cL, 1, .inr (.inl (fun _ => 0)))), (md, .inr (12, [.int 0, .int 1, .int 1, .ref q562, .ref q571, .ref q574, .ref q577, .ref q580, .ref q583, .ref q586, .int 0, .int (-1), .int 0, .int 0, .long 0, .ref q599, .ref q600, .ref q601, .ref q602])), (q562, .inr (13, [.int 0, .ref z565, .int 1, .int 1, .ref z566, .int 0, .int 0, .int 0, .ref z567, .int 0, .int 0, .int (-1), .int (-1), .int 0, .int (-1), .int 0, .ref z568, .ref z569]))] H) (hD : va_D A [(dm, .inr (0, [.ref q83, .ref q84, .ref q89, .ref q95, .ref q101, .ref q107, .ref q116, .ref q120, .ref q124])), (q95, .inr (3, [.ref z98, .int 0, .int 0, .int 0, .int 0, .int 0, .int (-1), .int (-1), .int 0, .long 0, .ref q83, .ref z99, .ref z100, .int 0, .int 0])), (ou, .inl (cL, 1, .inr (.inl (fun _ => 0)))), (md, .inr (12, [.int 0, .int 1, .int 1, .ref q562, .ref q571, .ref q574, .ref q577, .ref q580, .ref q583, .ref q586, .int 0, .int (-1), .int 0, .int 0, .long 0, .ref q599, .ref q600, .ref q601, .ref q602])), (q562, .inr (13, [.int 0, .ref z565, .int 1, .int 1, .ref z566, .int 0, .int 0, .int 0, .ref z567, .int 0, .int 0, .int (-1), .int (-1), .int 0, .int (-1), .int 0, .ref z568, .ref z569]))]) (hS : va_S A s.heap H locs) (hl : lv_has ls 7 [(4, .int 0), (3, .ref ou), (2, .ref md), (1, .ref dm), (0, .ref b)]) : W p l e room_1 s m args below meth c H locs 138 124625 Q (F0 m 487 ls []) := by
  refine lv_aload_n hx hb d_law_487 rfl (lv_at hl 3 rfl) ?_
  refine lv_aload_n hx hb d_law_488 rfl (lv_at hl 4 rfl) ?_
  refine lv_iload hx hb d_law_489 (lv_at hl 0 rfl) ?_
  refine lv_iconst (v := 1) hx hb d_law_491 (by decide) ?_
  refine lv_iadd hx hb d_law_492 ?_
  refine wi_c (v := 1) (by decide) ?_
  refine va_sld hx hb hX hbl hbA hS (by unfold vp_in; decide) d_law_493 ?_
  refine wi_c (v := 0) (hx1) ?_
  refine lv_aload_n hx hb d_law_494 rfl (lv_at hl 1 rfl) ?_
  refine wc_i (wr := [(md, .inr (12, [.int 0, .int 1, .int 1, .ref q562, .ref q571, .ref q574, .ref q577, .ref q580, .ref q583, .ref q586, .int 0, .int (-1), .int 0, .int 0, .long 0, .ref q599, .ref q600, .ref q601, .ref q602])), (q562, .inr (13, [.int 0, .ref z565, .int 1, .int 1, .ref z566, .int 0, .int 0, .int 0, .ref z567, .int 0, .int 0, .int (-1), .int (-1), .int 0, .int (-1), .int 0, .ref z568, .ref z569]))]) hC hP hD hS [0, 1, 2] [3, 4] rfl rfl (by decide) (by decide) (tq_runSW (n := 3) (hh := [(0, 9, 12, 13), (0, 9, 15, 38)]) (As := [.ref dm, .int 0, .ref ou]) (rest := []) ⟨hx, hb, hml, hown, htw⟩ (c_hrun_0 l D cI cL B _ dm q83 q84 q89 q95 z98 z99 z100 q101 q107 q116 q120 q124 ou) htw (tw_goodW (fun _ h => h) k785) rfl rfl rfl ⟨Nat.le_of_ble_eq_true rfl, Nat.le_of_ble_eq_true rfl⟩ (htw _ k237) (by decide +kernel) (htw _ k853) (htw _ k854) (wC_pre hC hP hD hS [0, 1, 2] (by decide) rfl) rfl rfl hl.1 rfl (lv_room (Nat.le_of_ble_eq_true rfl)) d_law_495 ⟨Nat.le_of_ble_eq_true rfl, Nat.le_of_ble_eq_true rfl⟩) (fun r1536 u1534 H locs hw1535 hP hD hS => ?_)
  obtain rfl : r1536 = 0 := hw1535
  have hP : va_P D classes [(md, .inr (12, [.int 0, .int 1, .int 1, .ref q562, .ref q571, .ref q574, .ref q577, .ref q580, .ref q583, .ref q586, .int 0, .int (-1), .int 0, .int 0, .long 0, .ref q599, .ref q600, .ref q601, .ref q602])), (q562, .inr (13, [.int 0, .ref z565, .int 1, .int 1, .ref z566, .int 0, .int 0, .int 0, .ref z567, .int 0, .int 0, .int (-1), .int (-1), .int 0, .int (-1), .int 0, .ref z568, .ref z569])), (ou, .inl (cL, 1, .inr (.inl (vp_updL (fun _ => 0) (0 : Int32).toNatClampNeg 0))))] H := hP
  have hD : va_D A [(md, .inr (12, [.int 0, .int 1, .int 1, .ref q562, .ref q571, .ref q574, .ref q577, .ref q580, .ref q583, .ref q586, .int 0, .int (-1), .int 0, .int 0, .long 0, .ref q599, .ref q600, .ref q601, .ref q602])), (q562, .inr (13, [.int 0, .ref z565, .int 1, .int 1, .ref z566, .int 0, .int 0, .int 0, .ref z567, .int 0, .int 0, .int (-1), .int (-1), .int 0, .int (-1), .int 0, .ref z568, .ref z569])), (ou, .inl (cL, 1, .inr (.inl (vp_updL (fun _ => 0) (0 : Int32).toNatClampNeg 0))))] := hD
  refine W.widen (k := 138) (n := 124625) (by omega) (by omega) ?_
  refine lv_istore (lv' := [(5, .int 0), (4, .int 0), (3, .ref ou), (2, .ref md), (1, .ref dm), (0, .ref b)]) hx hb d_law_498 hl (by decide) rfl (fun ls hl => ?_)
  refine lv_aload_n hx hb d_law_500 rfl (lv_at hl 3 rfl) ?_
  refine lv_aload_n hx hb d_law_501 rfl (lv_at hl 5 rfl) ?_
  refine lv_iload hx hb d_law_502 (lv_at hl 1 rfl) ?_
  refine lv_iconst (v := 1) hx hb d_law_504 (by decide) ?_
  refine lv_iadd hx hb d_law_505 ?_
  refine wi_c (v := 1) (by decide) ?_
  refine va_sld hx hb hX hbl hbA hS (by unfold vp_in; decide) d_law_506 ?_
  refine wi_c (v := 0) (hx1) ?_
  refine wc_i (wr := [(ou, .inl (cL, 1, .inr (.inl (vp_updL (fun _ => 0) (0 : Int32).toNatClampNeg 0))))]) hC hP hD hS [0, 1] [2] rfl rfl (by decide) (by decide) (va_runV (As := [.int 0]) (rest := []) ⟨hx, hb, hml, hown, htw⟩ (c_Mrun_0 l D cI cL B _ md q562 z565 z566 z567 z568 z569 q571 q574 q577 q580 q583 q586 q599 q600 q601 q602) (cwV 1 htw gV_law_92 rfl rfl rfl (by decide +kernel) ⟨Nat.le_of_ble_eq_true rfl, Nat.le_of_ble_eq_true rfl⟩) (wC_preV (As := [.int 0]) hC hP hD hS [0, 1] (by decide) rfl (q0 := 0) rfl rfl) rfl rfl hl.1 rfl (lv_room (Nat.le_of_ble_eq_true rfl)) d_law_507 ⟨Nat.le_of_ble_eq_true rfl, Nat.le_of_ble_eq_true rfl⟩) (fun r1539 u1537 H locs hw1538 hP hD hS => ?_)
  obtain rfl : r1539 = 0 := hw1538
  have hP : va_P D classes [(ou, .inl (cL, 1, .inr (.inl (vp_updL (fun _ => 0) (0 : Int32).toNatClampNeg 0)))), (md, .inr (12, [.int 0, .int 1, .int 1, .ref q562, .ref q571, .ref q574, .ref q577, .ref q580, .ref q583, .ref q586, .int 0, .int (-1), .int 0, .int 0, .long 0, .ref q599, .ref q600, .ref q601, .ref q602]))] H := hP
  have hD : va_D A [(ou, .inl (cL, 1, .inr (.inl (vp_updL (fun _ => 0) (0 : Int32).toNatClampNeg 0)))), (md, .inr (12, [.int 0, .int 1, .int 1, .ref q562, .ref q571, .ref q574, .ref q577, .ref q580, .ref q583, .ref q586, .int 0, .int (-1), .int 0, .int 0, .long 0, .ref q599, .ref q600, .ref q601, .ref q602]))] := hD
  refine W.widen (k := 138) (n := 124625) (by omega) (by omega) ?_
  refine lv_istore (lv' := [(6, .int 0), (5, .int 0), (4, .int 0), (3, .ref ou), (2, .ref md), (1, .ref dm), (0, .ref b)]) hx hb d_law_510 hl (by decide) rfl (fun ls hl => ?_)
  refine lv_aload_n hx hb d_law_512 rfl (lv_at hl 4 rfl) ?_
  refine wc_i (wr := [(ou, .inl (cL, 1, .inr (.inl (vp_updL (fun _ => 0) (0 : Int32).toNatClampNeg 0))))]) hC hP hD hS [1] [0] rfl rfl (by decide) (by decide) (va_runV (As := []) (rest := []) ⟨hx, hb, hml, hown, htw⟩ (c_thrown l D cI cL B _ md 0 1 1 q562 q571 q574 q577 q580 q583 q586 0 (-1) 0 0 0 q599 q600 q601 q602) (cwV 0 htw gV_law_65 rfl rfl rfl (by decide +kernel) ⟨Nat.le_of_ble_eq_true rfl, Nat.le_of_ble_eq_true rfl⟩) (wC_preV (As := []) hC hP hD hS [1] (by decide) rfl (q0 := 1) rfl rfl) rfl rfl hl.1 rfl (lv_room (Nat.le_of_ble_eq_true rfl)) d_law_513 ⟨Nat.le_of_ble_eq_true rfl, Nat.le_of_ble_eq_true rfl⟩) (fun r1542 u1540 H locs hw1541 hP hD hS => ?_)
  obtain rfl : r1542 = 0 := hw1541
  have hP : va_P D classes [(ou, .inl (cL, 1, .inr (.inl (vp_updL (fun _ => 0) (0 : Int32).toNatClampNeg 0)))), (md, .inr (12, [.int 0, .int 1, .int 1, .ref q562, .ref q571, .ref q574, .ref q577, .ref q580, .ref q583, .ref q586, .int 0, .int (-1), .int 0, .int 0, .long 0, .ref q599, .ref q600, .ref q601, .ref q602]))] H := hP
  have hD : va_D A [(ou, .inl (cL, 1, .inr (.inl (vp_updL (fun _ => 0) (0 : Int32).toNatClampNeg 0)))), (md, .inr (12, [.int 0, .int 1, .int 1, .ref q562, .ref q571, .ref q574, .ref q577, .ref q580, .ref q583, .ref q586, .int 0, .int (-1), .int 0, .int 0, .long 0, .ref q599, .ref q600, .ref q601, .ref q602]))] := hD
  refine W.widen (k := 138) (n := 124625) (by omega) (by omega) ?_
  refine lv_iload hx hb d_law_516 (lv_at hl 1 rfl) ?_
  refine lv_icmp_eq (tgt := 523) hx hb d_law_518 (by decide) (fun c_1543 => ?_) (fun c_1543 => absurd c_1543 (by decide))
  refine lv_iload hx hb d_law_523 (lv_at hl 1 rfl) ?_
  refine lv_if_ne (tgt := 540) hx hb d_law_525 (by decide) (fun c_1544 => absurd c_1544 (by decide)) (fun c_1544 => ?_)
  refine lv_aload_n hx hb d_law_528 rfl (lv_at hl 3 rfl) ?_
  refine lv_iconst (v := 0) hx hb d_law_529 (by decide) ?_
  refine va_lald hx hb hC.1 hP 0 1 rfl rfl (by unfold vp_in; decide) d_law_530 ?_
  refine wl_c (v := 0) updL_0 ?_
  refine lv_iload hx hb d_law_531 (lv_at hl 0 rfl) ?_
  refine lv_i2l (v := 0) hx hb d_law_533 (by decide) ?_
  refine W.lcmp hx hb d_law_534 ?_
  refine wi_c (v := 0) (by decide) ?_
  refine lv_if_eq (tgt := 540) hx hb d_law_535 (by decide) (fun c_1545 => ?_) (fun c_1545 => absurd c_1545 (by decide))
  refine lv_goto (tgt := 847) hx hb d_law_540 (by decide) ?_
  refine W.widen (k := 600002) (n := 7302232) (by omega) (by omega) ?_
  exact kk _ _ _ hS (lv_sub hl [2, 6] rfl)

set_option maxHeartbeats 4000000 in
set_option maxRecDepth 100000 in
theorem lc_run_p {p : Program} {l : Launch} {e : Env} {s : State} {m : MethodId} {args : Array Value} {below : List Frame} {meth : Method} {c : Code} {Q : State → Prop} {A : Nat → Prop} {b : Nat} {xs : Nat → Int32} {H : Heap} {locs : List Loc} {ls : Array Slot} (hfl : l.stackTraces = false) (D : va_G) (cI cL : ClassId) (B : Nat) (hx : p.tables.exec = Jvm.exec) (hb : c.code = code) (hml : c.maxLocals = 7) (hown : s.vm.findClass "DrawingMachineLaw" = some m.cls) (htw : ∀ w ∈ tw, w.before args s = true) (hC : wC D cI cL B A s) (hX : va_X b 6 xs s s.heap) (hbl : b < s.heap.size) (hbA : ¬ A b) (dm : Nat) (md : Nat) (ou : Nat) (q83 : Nat) (q84 : Nat) (z87 : Nat) (q89 : Nat) (q95 : Nat) (z98 : Nat) (z99 : Nat) (z100 : Nat) (q101 : Nat) (q107 : Nat) (q116 : Nat) (q120 : Nat) (q124 : Nat) (q562 : Nat) (z565 : Nat) (z566 : Nat) (z567 : Nat) (z568 : Nat) (z569 : Nat) (z570 : Nat → Int32) (q571 : Nat) (q574 : Nat) (q577 : Nat) (q580 : Nat) (q583 : Nat) (q586 : Nat) (q599 : Nat) (q600 : Nat) (q601 : Nat) (q602 : Nat) (x : Int32) (hn : 0 < x) (hx1 : xs 1 = x) (kk : ∀ (H : Heap) (locs : List Loc) (ls : Array Slot), va_S A s.heap H locs → lv_has ls 7 [(4, .int 0), (0, .ref b)] → W p l e room_1 s m args below meth c H locs 600002 7302232 Q (F0 m 847 ls [])) (hP : va_P D classes [(dm, .inr (0, [.ref q83, .ref q84, .ref q89, .ref q95, .ref q101, .ref q107, .ref q116, .ref q120, .ref q124])), (q95, .inr (3, [.ref z98, .int 0, .int 0, .int 0, .int 0, .int 0, .int (-1), .int (-1), .int 0, .long 0, .ref q83, .ref z99, .ref z100, .int 0, .int 0])), (q84, .inr (1, [.ref z87])), (ou, .inl (cL, 1, .inr (.inl (fun _ => 0)))), (md, .inr (12, [.int 0, .int 1, .int 1, .ref q562, .ref q571, .ref q574, .ref q577, .ref q580, .ref q583, .ref q586, .int 0, .int (-1), .int 0, .int 0, .long 0, .ref q599, .ref q600, .ref q601, .ref q602])), (q562, .inr (13, [.int 0, .ref z565, .int 1, .int 1, .ref z566, .int 0, .int 0, .int 0, .ref z567, .int 0, .int 0, .int (-1), .int (-1), .int 0, .int (-1), .int 0, .ref z568, .ref z569])), (z569, .inl (cI, 4160, .inl z570)), (q601, .inl (cI, 4, .inl (fun _ => 0)))] H) (hD : va_D A [(dm, .inr (0, [.ref q83, .ref q84, .ref q89, .ref q95, .ref q101, .ref q107, .ref q116, .ref q120, .ref q124])), (q95, .inr (3, [.ref z98, .int 0, .int 0, .int 0, .int 0, .int 0, .int (-1), .int (-1), .int 0, .long 0, .ref q83, .ref z99, .ref z100, .int 0, .int 0])), (q84, .inr (1, [.ref z87])), (ou, .inl (cL, 1, .inr (.inl (fun _ => 0)))), (md, .inr (12, [.int 0, .int 1, .int 1, .ref q562, .ref q571, .ref q574, .ref q577, .ref q580, .ref q583, .ref q586, .int 0, .int (-1), .int 0, .int 0, .long 0, .ref q599, .ref q600, .ref q601, .ref q602])), (q562, .inr (13, [.int 0, .ref z565, .int 1, .int 1, .ref z566, .int 0, .int 0, .int 0, .ref z567, .int 0, .int 0, .int (-1), .int (-1), .int 0, .int (-1), .int 0, .ref z568, .ref z569])), (z569, .inl (cI, 4160, .inl z570)), (q601, .inl (cI, 4, .inl (fun _ => 0)))]) (hS : va_S A s.heap H locs) (hl : lv_has ls 7 [(4, .int 0), (3, .ref ou), (2, .ref md), (1, .ref dm), (0, .ref b)]) : W p l e room_1 s m args below meth c H locs 138 124625 Q (F0 m 487 ls []) := by
  refine lv_aload_n hx hb d_law_487 rfl (lv_at hl 3 rfl) ?_
  refine lv_aload_n hx hb d_law_488 rfl (lv_at hl 4 rfl) ?_
  refine lv_iload hx hb d_law_489 (lv_at hl 0 rfl) ?_
  refine lv_iconst (v := 1) hx hb d_law_491 (by decide) ?_
  refine lv_iadd hx hb d_law_492 ?_
  refine wi_c (v := 1) (by decide) ?_
  refine va_sld hx hb hX hbl hbA hS (by unfold vp_in; decide) d_law_493 ?_
  refine wi_c (v := x) (hx1) ?_
  refine lv_aload_n hx hb d_law_494 rfl (lv_at hl 1 rfl) ?_
  refine wc_i (wr := [(md, .inr (12, [.int 0, .int 1, .int 1, .ref q562, .ref q571, .ref q574, .ref q577, .ref q580, .ref q583, .ref q586, .int 0, .int (-1), .int 0, .int 0, .long 0, .ref q599, .ref q600, .ref q601, .ref q602])), (q562, .inr (13, [.int 0, .ref z565, .int 1, .int 1, .ref z566, .int 0, .int 0, .int 0, .ref z567, .int 0, .int 0, .int (-1), .int (-1), .int 0, .int (-1), .int 0, .ref z568, .ref z569])), (z569, .inl (cI, 4160, .inl z570)), (q601, .inl (cI, 4, .inl (fun _ => 0)))]) hC hP hD hS [0, 1, 2, 3] [4, 5, 6, 7] rfl rfl (by decide) (by decide) (tq_runSW (n := 3) (hh := [(0, 9, 12, 13), (0, 9, 15, 38)]) (As := [.ref dm, .int x, .ref ou]) (rest := []) ⟨hx, hb, hml, hown, htw⟩ (c_hrun_p l D cI cL B _ dm q83 q84 z87 q89 q95 z98 z99 z100 q101 q107 q116 q120 q124 x ou (hn)) htw (tw_goodW (fun _ h => h) k785) rfl rfl rfl ⟨Nat.le_of_ble_eq_true rfl, Nat.le_of_ble_eq_true rfl⟩ (htw _ k237) (by decide +kernel) (htw _ k853) (htw _ k854) (wC_pre hC hP hD hS [0, 1, 2, 3] (by decide) rfl) rfl rfl hl.1 rfl (lv_room (Nat.le_of_ble_eq_true rfl)) d_law_495 ⟨Nat.le_of_ble_eq_true rfl, Nat.le_of_ble_eq_true rfl⟩) (fun r1548 u1546 H locs hw1547 hP hD hS => ?_)
  obtain rfl : r1548 = 0 := hw1547
  have hP : va_P D classes [(md, .inr (12, [.int 0, .int 1, .int 1, .ref q562, .ref q571, .ref q574, .ref q577, .ref q580, .ref q583, .ref q586, .int 0, .int (-1), .int 0, .int 0, .long 0, .ref q599, .ref q600, .ref q601, .ref q602])), (q562, .inr (13, [.int 0, .ref z565, .int 1, .int 1, .ref z566, .int 0, .int 0, .int 0, .ref z567, .int 0, .int 0, .int (-1), .int (-1), .int 0, .int (-1), .int 0, .ref z568, .ref z569])), (z569, .inl (cI, 4160, .inl z570)), (q601, .inl (cI, 4, .inl (fun _ => 0))), (ou, .inl (cL, 1, .inr (.inl (vp_updL (fun _ => 0) (0 : Int32).toNatClampNeg 1))))] H := hP
  have hD : va_D A [(md, .inr (12, [.int 0, .int 1, .int 1, .ref q562, .ref q571, .ref q574, .ref q577, .ref q580, .ref q583, .ref q586, .int 0, .int (-1), .int 0, .int 0, .long 0, .ref q599, .ref q600, .ref q601, .ref q602])), (q562, .inr (13, [.int 0, .ref z565, .int 1, .int 1, .ref z566, .int 0, .int 0, .int 0, .ref z567, .int 0, .int 0, .int (-1), .int (-1), .int 0, .int (-1), .int 0, .ref z568, .ref z569])), (z569, .inl (cI, 4160, .inl z570)), (q601, .inl (cI, 4, .inl (fun _ => 0))), (ou, .inl (cL, 1, .inr (.inl (vp_updL (fun _ => 0) (0 : Int32).toNatClampNeg 1))))] := hD
  refine W.widen (k := 138) (n := 124625) (by omega) (by omega) ?_
  refine lv_istore (lv' := [(5, .int 0), (4, .int 0), (3, .ref ou), (2, .ref md), (1, .ref dm), (0, .ref b)]) hx hb d_law_498 hl (by decide) rfl (fun ls hl => ?_)
  refine lv_aload_n hx hb d_law_500 rfl (lv_at hl 3 rfl) ?_
  refine lv_aload_n hx hb d_law_501 rfl (lv_at hl 5 rfl) ?_
  refine lv_iload hx hb d_law_502 (lv_at hl 1 rfl) ?_
  refine lv_iconst (v := 1) hx hb d_law_504 (by decide) ?_
  refine lv_iadd hx hb d_law_505 ?_
  refine wi_c (v := 1) (by decide) ?_
  refine va_sld hx hb hX hbl hbA hS (by unfold vp_in; decide) d_law_506 ?_
  refine wi_c (v := x) (hx1) ?_
  refine wc_i (wr := [(ou, .inl (cL, 1, .inr (.inl (vp_updL (fun _ => 0) (0 : Int32).toNatClampNeg 1))))]) hC hP hD hS [0, 1, 2, 3] [4] rfl rfl (by decide) (by decide) (va_runV (As := [.int x]) (rest := []) ⟨hx, hb, hml, hown, htw⟩ (c_Mrun_p l D cI cL B _ md q562 z565 z566 z567 z568 z569 z570 q571 q574 q577 q580 q583 q586 q599 q600 q601 q602 x (hn)) (cwV 1 htw gV_law_92 rfl rfl rfl (by decide +kernel) ⟨Nat.le_of_ble_eq_true rfl, Nat.le_of_ble_eq_true rfl⟩) (wC_preV (As := [.int x]) hC hP hD hS [0, 1, 2, 3] (by decide) rfl (q0 := 0) rfl rfl) rfl rfl hl.1 rfl (lv_room (Nat.le_of_ble_eq_true rfl)) d_law_507 ⟨Nat.le_of_ble_eq_true rfl, Nat.le_of_ble_eq_true rfl⟩) (fun r1551 u1549 H locs hw1550 hP hD hS => ?_)
  obtain rfl : r1551 = 1 := hw1550
  have hP : va_P D classes [(ou, .inl (cL, 1, .inr (.inl (vp_updL (fun _ => 0) (0 : Int32).toNatClampNeg 1)))), (md, .inr (12, [.int 0, .int 1, .int 1, .ref q562, .ref q571, .ref q574, .ref q577, .ref q580, .ref q583, .ref q586, .int 0, .int (-1), .int 0, .int 0, .long 0, .ref q599, .ref q600, .ref q601, .ref q602]))] H := hP
  have hD : va_D A [(ou, .inl (cL, 1, .inr (.inl (vp_updL (fun _ => 0) (0 : Int32).toNatClampNeg 1)))), (md, .inr (12, [.int 0, .int 1, .int 1, .ref q562, .ref q571, .ref q574, .ref q577, .ref q580, .ref q583, .ref q586, .int 0, .int (-1), .int 0, .int 0, .long 0, .ref q599, .ref q600, .ref q601, .ref q602]))] := hD
  refine W.widen (k := 138) (n := 124625) (by omega) (by omega) ?_
  refine lv_istore (lv' := [(6, .int 1), (5, .int 0), (4, .int 0), (3, .ref ou), (2, .ref md), (1, .ref dm), (0, .ref b)]) hx hb d_law_510 hl (by decide) rfl (fun ls hl => ?_)
  refine lv_aload_n hx hb d_law_512 rfl (lv_at hl 4 rfl) ?_
  refine wc_i (wr := [(ou, .inl (cL, 1, .inr (.inl (vp_updL (fun _ => 0) (0 : Int32).toNatClampNeg 1))))]) hC hP hD hS [1] [0] rfl rfl (by decide) (by decide) (va_runV (As := []) (rest := []) ⟨hx, hb, hml, hown, htw⟩ (c_thrown l D cI cL B _ md 0 1 1 q562 q571 q574 q577 q580 q583 q586 0 (-1) 0 0 0 q599 q600 q601 q602) (cwV 0 htw gV_law_65 rfl rfl rfl (by decide +kernel) ⟨Nat.le_of_ble_eq_true rfl, Nat.le_of_ble_eq_true rfl⟩) (wC_preV (As := []) hC hP hD hS [1] (by decide) rfl (q0 := 1) rfl rfl) rfl rfl hl.1 rfl (lv_room (Nat.le_of_ble_eq_true rfl)) d_law_513 ⟨Nat.le_of_ble_eq_true rfl, Nat.le_of_ble_eq_true rfl⟩) (fun r1554 u1552 H locs hw1553 hP hD hS => ?_)
  obtain rfl : r1554 = 0 := hw1553
  have hP : va_P D classes [(ou, .inl (cL, 1, .inr (.inl (vp_updL (fun _ => 0) (0 : Int32).toNatClampNeg 1)))), (md, .inr (12, [.int 0, .int 1, .int 1, .ref q562, .ref q571, .ref q574, .ref q577, .ref q580, .ref q583, .ref q586, .int 0, .int (-1), .int 0, .int 0, .long 0, .ref q599, .ref q600, .ref q601, .ref q602]))] H := hP
  have hD : va_D A [(ou, .inl (cL, 1, .inr (.inl (vp_updL (fun _ => 0) (0 : Int32).toNatClampNeg 1)))), (md, .inr (12, [.int 0, .int 1, .int 1, .ref q562, .ref q571, .ref q574, .ref q577, .ref q580, .ref q583, .ref q586, .int 0, .int (-1), .int 0, .int 0, .long 0, .ref q599, .ref q600, .ref q601, .ref q602]))] := hD
  refine W.widen (k := 138) (n := 124625) (by omega) (by omega) ?_
  refine lv_iload hx hb d_law_516 (lv_at hl 1 rfl) ?_
  refine lv_icmp_eq (tgt := 523) hx hb d_law_518 (by decide) (fun c_1555 => ?_) (fun c_1555 => absurd c_1555 (by decide))
  refine lv_iload hx hb d_law_523 (lv_at hl 1 rfl) ?_
  refine lv_if_ne (tgt := 540) hx hb d_law_525 (by decide) (fun c_1556 => absurd c_1556 (by decide)) (fun c_1556 => ?_)
  refine lv_aload_n hx hb d_law_528 rfl (lv_at hl 3 rfl) ?_
  refine lv_iconst (v := 0) hx hb d_law_529 (by decide) ?_
  refine va_lald hx hb hC.1 hP 0 1 rfl rfl (by unfold vp_in; decide) d_law_530 ?_
  refine wl_c (v := 1) updL_0 ?_
  refine lv_iload hx hb d_law_531 (lv_at hl 0 rfl) ?_
  refine lv_i2l (v := 1) hx hb d_law_533 (by decide) ?_
  refine W.lcmp hx hb d_law_534 ?_
  refine wi_c (v := 0) (by decide) ?_
  refine lv_if_eq (tgt := 540) hx hb d_law_535 (by decide) (fun c_1557 => ?_) (fun c_1557 => absurd c_1557 (by decide))
  refine lv_goto (tgt := 847) hx hb d_law_540 (by decide) ?_
  refine W.widen (k := 600002) (n := 7302232) (by omega) (by omega) ?_
  exact kk _ _ _ hS (lv_sub hl [2, 6] rfl)

set_option maxHeartbeats 4000000 in
set_option maxRecDepth 100000 in
theorem lc_run_b {p : Program} {l : Launch} {e : Env} {s : State} {m : MethodId} {args : Array Value} {below : List Frame} {meth : Method} {c : Code} {Q : State → Prop} {A : Nat → Prop} {b : Nat} {xs : Nat → Int32} {H : Heap} {locs : List Loc} {ls : Array Slot} (hfl : l.stackTraces = false) (D : va_G) (cI cL : ClassId) (B : Nat) (hx : p.tables.exec = Jvm.exec) (hb : c.code = code) (hml : c.maxLocals = 7) (hown : s.vm.findClass "DrawingMachineLaw" = some m.cls) (htw : ∀ w ∈ tw, w.before args s = true) (hC : wC D cI cL B A s) (hX : va_X b 6 xs s s.heap) (hbl : b < s.heap.size) (hbA : ¬ A b) (dm : Nat) (md : Nat) (ou : Nat) (q83 : Nat) (q84 : Nat) (q89 : Nat) (q95 : Nat) (q101 : Nat) (q107 : Nat) (q116 : Nat) (q120 : Nat) (q124 : Nat) (q562 : Nat) (q571 : Nat) (q574 : Nat) (q577 : Nat) (q580 : Nat) (q583 : Nat) (q586 : Nat) (q599 : Nat) (q600 : Nat) (q601 : Nat) (q602 : Nat) (x : Int32) (hn : x < 0) (hx1 : xs 1 = x) (kk : ∀ (H : Heap) (locs : List Loc) (ls : Array Slot), va_S A s.heap H locs → lv_has ls 7 [(4, .int 0), (0, .ref b)] → W p l e room_1 s m args below meth c H locs 600002 7302232 Q (F0 m 847 ls [])) (hP : va_P D classes [(dm, .inr (0, [.ref q83, .ref q84, .ref q89, .ref q95, .ref q101, .ref q107, .ref q116, .ref q120, .ref q124])), (ou, .inl (cL, 1, .inr (.inl (fun _ => 0)))), (md, .inr (12, [.int 0, .int 1, .int 1, .ref q562, .ref q571, .ref q574, .ref q577, .ref q580, .ref q583, .ref q586, .int 0, .int (-1), .int 0, .int 0, .long 0, .ref q599, .ref q600, .ref q601, .ref q602]))] H) (hD : va_D A [(dm, .inr (0, [.ref q83, .ref q84, .ref q89, .ref q95, .ref q101, .ref q107, .ref q116, .ref q120, .ref q124])), (ou, .inl (cL, 1, .inr (.inl (fun _ => 0)))), (md, .inr (12, [.int 0, .int 1, .int 1, .ref q562, .ref q571, .ref q574, .ref q577, .ref q580, .ref q583, .ref q586, .int 0, .int (-1), .int 0, .int 0, .long 0, .ref q599, .ref q600, .ref q601, .ref q602]))]) (hS : va_S A s.heap H locs) (hl : lv_has ls 7 [(4, .int 0), (3, .ref ou), (2, .ref md), (1, .ref dm), (0, .ref b)]) : W p l e room_1 s m args below meth c H locs 138 124625 Q (F0 m 487 ls []) := by
  refine lv_aload_n hx hb d_law_487 rfl (lv_at hl 3 rfl) ?_
  refine lv_aload_n hx hb d_law_488 rfl (lv_at hl 4 rfl) ?_
  refine lv_iload hx hb d_law_489 (lv_at hl 0 rfl) ?_
  refine lv_iconst (v := 1) hx hb d_law_491 (by decide) ?_
  refine lv_iadd hx hb d_law_492 ?_
  refine wi_c (v := 1) (by decide) ?_
  refine va_sld hx hb hX hbl hbA hS (by unfold vp_in; decide) d_law_493 ?_
  refine wi_c (v := x) (hx1) ?_
  refine lv_aload_n hx hb d_law_494 rfl (lv_at hl 1 rfl) ?_
  refine wc_i (wr := [(md, .inr (12, [.int 0, .int 1, .int 1, .ref q562, .ref q571, .ref q574, .ref q577, .ref q580, .ref q583, .ref q586, .int 0, .int (-1), .int 0, .int 0, .long 0, .ref q599, .ref q600, .ref q601, .ref q602]))]) hC hP hD hS [0, 1] [2] rfl rfl (by decide) (by decide) (tq_runSW (n := 3) (hh := [(0, 9, 12, 13), (0, 9, 15, 38)]) (As := [.ref dm, .int x, .ref ou]) (rest := []) ⟨hx, hb, hml, hown, htw⟩ (c_hrun_b l hfl D cI cL B _ dm q83 q84 q89 q95 q101 q107 q116 q120 q124 x ou (hn)) htw (tw_goodW (fun _ h => h) k785) rfl rfl rfl ⟨Nat.le_of_ble_eq_true rfl, Nat.le_of_ble_eq_true rfl⟩ (htw _ k237) (by decide +kernel) (htw _ k853) (htw _ k854) (wC_pre hC hP hD hS [0, 1] (by decide) rfl) rfl rfl hl.1 rfl (lv_room (Nat.le_of_ble_eq_true rfl)) d_law_495 ⟨Nat.le_of_ble_eq_true rfl, Nat.le_of_ble_eq_true rfl⟩) (fun r1560 u1558 H locs hw1559 hP hD hS => ?_)
  obtain rfl : r1560 = 1 := hw1559
  have hP : va_P D classes [(md, .inr (12, [.int 0, .int 1, .int 1, .ref q562, .ref q571, .ref q574, .ref q577, .ref q580, .ref q583, .ref q586, .int 0, .int (-1), .int 0, .int 0, .long 0, .ref q599, .ref q600, .ref q601, .ref q602]))] H := hP
  have hD : va_D A [(md, .inr (12, [.int 0, .int 1, .int 1, .ref q562, .ref q571, .ref q574, .ref q577, .ref q580, .ref q583, .ref q586, .int 0, .int (-1), .int 0, .int 0, .long 0, .ref q599, .ref q600, .ref q601, .ref q602]))] := hD
  refine W.widen (k := 139) (n := 124631) (by omega) (by omega) ?_
  refine lv_istore (lv' := [(5, .int 1), (4, .int 0), (3, .ref ou), (2, .ref md), (1, .ref dm), (0, .ref b)]) hx hb d_law_498 hl (by decide) rfl (fun ls hl => ?_)
  refine lv_aload_n hx hb d_law_500 rfl (lv_at hl 3 rfl) ?_
  refine lv_aload_n hx hb d_law_501 rfl (lv_at hl 5 rfl) ?_
  refine lv_iload hx hb d_law_502 (lv_at hl 1 rfl) ?_
  refine lv_iconst (v := 1) hx hb d_law_504 (by decide) ?_
  refine lv_iadd hx hb d_law_505 ?_
  refine wi_c (v := 1) (by decide) ?_
  refine va_sld hx hb hX hbl hbA hS (by unfold vp_in; decide) d_law_506 ?_
  refine wi_c (v := x) (hx1) ?_
  refine wc_i (wr := []) hC hP hD hS [0] [] rfl rfl (by decide) (by decide) (va_runV (As := [.int x]) (rest := []) ⟨hx, hb, hml, hown, htw⟩ (c_Mrun_b l D cI cL B _ md q562 q571 q574 q577 q580 q583 q586 q599 q600 q601 q602 x (hn)) (cwV 1 htw gV_law_92 rfl rfl rfl (by decide +kernel) ⟨Nat.le_of_ble_eq_true rfl, Nat.le_of_ble_eq_true rfl⟩) (wC_preV (As := [.int x]) hC hP hD hS [0] (by decide) rfl (q0 := 0) rfl rfl) rfl rfl hl.1 rfl (lv_room (Nat.le_of_ble_eq_true rfl)) d_law_507 ⟨Nat.le_of_ble_eq_true rfl, Nat.le_of_ble_eq_true rfl⟩) (fun r1563 u1561 H locs hw1562 hP hD hS => ?_)
  obtain rfl : r1563 = 0 := hw1562
  have hP : va_P D classes [(md, .inr (12, [.int 1, .int 1, .int 1, .ref q562, .ref q571, .ref q574, .ref q577, .ref q580, .ref q583, .ref q586, .int 0, .int (-1), .int 0, .int 0, .long 0, .ref q599, .ref q600, .ref q601, .ref q602]))] H := hP
  have hD : va_D A [(md, .inr (12, [.int 1, .int 1, .int 1, .ref q562, .ref q571, .ref q574, .ref q577, .ref q580, .ref q583, .ref q586, .int 0, .int (-1), .int 0, .int 0, .long 0, .ref q599, .ref q600, .ref q601, .ref q602]))] := hD
  refine W.widen (k := 139) (n := 124631) (by omega) (by omega) ?_
  refine lv_istore (lv' := [(6, .int 0), (5, .int 1), (4, .int 0), (3, .ref ou), (2, .ref md), (1, .ref dm), (0, .ref b)]) hx hb d_law_510 hl (by decide) rfl (fun ls hl => ?_)
  refine lv_aload_n hx hb d_law_512 rfl (lv_at hl 4 rfl) ?_
  refine wc_i (wr := []) hC hP hD hS [0] [] rfl rfl (by decide) (by decide) (va_runV (As := []) (rest := []) ⟨hx, hb, hml, hown, htw⟩ (c_thrown l D cI cL B _ md 1 1 1 q562 q571 q574 q577 q580 q583 q586 0 (-1) 0 0 0 q599 q600 q601 q602) (cwV 0 htw gV_law_65 rfl rfl rfl (by decide +kernel) ⟨Nat.le_of_ble_eq_true rfl, Nat.le_of_ble_eq_true rfl⟩) (wC_preV (As := []) hC hP hD hS [0] (by decide) rfl (q0 := 0) rfl rfl) rfl rfl hl.1 rfl (lv_room (Nat.le_of_ble_eq_true rfl)) d_law_513 ⟨Nat.le_of_ble_eq_true rfl, Nat.le_of_ble_eq_true rfl⟩) (fun r1566 u1564 H locs hw1565 hP hD hS => ?_)
  obtain rfl : r1566 = 1 := hw1565
  have hP : va_P D classes [(md, .inr (12, [.int 1, .int 1, .int 1, .ref q562, .ref q571, .ref q574, .ref q577, .ref q580, .ref q583, .ref q586, .int 0, .int (-1), .int 0, .int 0, .long 0, .ref q599, .ref q600, .ref q601, .ref q602]))] H := hP
  have hD : va_D A [(md, .inr (12, [.int 1, .int 1, .int 1, .ref q562, .ref q571, .ref q574, .ref q577, .ref q580, .ref q583, .ref q586, .int 0, .int (-1), .int 0, .int 0, .long 0, .ref q599, .ref q600, .ref q601, .ref q602]))] := hD
  refine W.widen (k := 139) (n := 124631) (by omega) (by omega) ?_
  refine lv_iload hx hb d_law_516 (lv_at hl 1 rfl) ?_
  refine lv_icmp_eq (tgt := 523) hx hb d_law_518 (by decide) (fun c_1567 => ?_) (fun c_1567 => absurd c_1567 (by decide))
  refine lv_iload hx hb d_law_523 (lv_at hl 1 rfl) ?_
  refine lv_if_ne (tgt := 540) hx hb d_law_525 (by decide) (fun c_1568 => ?_) (fun c_1568 => absurd c_1568 (by decide))
  refine lv_goto (tgt := 847) hx hb d_law_540 (by decide) ?_
  refine W.widen (k := 600002) (n := 7302232) (by omega) (by omega) ?_
  exact kk _ _ _ hS (lv_sub hl [2, 6] rfl)

theorem d_law_543 : decode code 543 = .ok (.aload_n 1, 1) := by decide +kernel
theorem d_law_544 : decode code 544 = .ok (.aload_n 0, 1) := by decide +kernel
theorem d_law_545 : decode code 545 = .ok (.iload 4, 2) := by decide +kernel
theorem d_law_547 : decode code 547 = .ok (.iconst 1, 1) := by decide +kernel
theorem d_law_548 : decode code 548 = .ok (.iadd, 1) := by decide +kernel
theorem d_law_549 : decode code 549 = .ok (.iaload, 1) := by decide +kernel
theorem d_law_550 : decode code 550 = .ok (.aload_n 3, 1) := by decide +kernel
theorem d_law_551 : decode code 551 = .ok (.invokestatic 93, 3) := by decide +kernel
theorem d_law_554 : decode code 554 = .ok (.istore 5, 2) := by decide +kernel
theorem d_law_556 : decode code 556 = .ok (.aload_n 2, 1) := by decide +kernel
theorem d_law_557 : decode code 557 = .ok (.aload_n 0, 1) := by decide +kernel
theorem d_law_558 : decode code 558 = .ok (.iload 4, 2) := by decide +kernel
theorem d_law_560 : decode code 560 = .ok (.iconst 1, 1) := by decide +kernel
theorem d_law_561 : decode code 561 = .ok (.iadd, 1) := by decide +kernel
theorem d_law_562 : decode code 562 = .ok (.iaload, 1) := by decide +kernel
theorem d_law_563 : decode code 563 = .ok (.invokevirtual 95, 3) := by decide +kernel
theorem d_law_566 : decode code 566 = .ok (.istore 6, 2) := by decide +kernel
theorem d_law_568 : decode code 568 = .ok (.aload_n 2, 1) := by decide +kernel
theorem d_law_569 : decode code 569 = .ok (.invokevirtual 65, 3) := by decide +kernel
theorem d_law_572 : decode code 572 = .ok (.iload 5, 2) := by decide +kernel
theorem d_law_574 : decode code 574 = .ok (.if_icmp .eq 5, 3) := by decide +kernel
theorem d_law_579 : decode code 579 = .ok (.iload 5, 2) := by decide +kernel
theorem d_law_581 : decode code 581 = .ok (.ifCond .ne 15, 3) := by decide +kernel
theorem d_law_584 : decode code 584 = .ok (.aload_n 3, 1) := by decide +kernel
theorem d_law_585 : decode code 585 = .ok (.iconst 0, 1) := by decide +kernel
theorem d_law_586 : decode code 586 = .ok (.laload, 1) := by decide +kernel
theorem d_law_587 : decode code 587 = .ok (.iload 6, 2) := by decide +kernel
theorem d_law_589 : decode code 589 = .ok (.i2l, 1) := by decide +kernel
theorem d_law_590 : decode code 590 = .ok (.lcmp, 1) := by decide +kernel
theorem d_law_591 : decode code 591 = .ok (.ifCond .eq 5, 3) := by decide +kernel
theorem d_law_596 : decode code 596 = .ok (.goto 251, 3) := by decide +kernel
theorem gV_law_95 : GoodIn tw (wsV "DrawingMachineLaw" 95 "DrawingMachineModel" y_Mod_about ((Cond.code y_Mod_about prog_14_method_28_code 2 (some .int)) :: tw)) := tw_pre (fun _ h => h) (tw_good (fun _ h => h) k682) (List.forall_mem_cons.mpr ⟨k860, List.forall_mem_cons.mpr ⟨k861, List.forall_mem_cons.mpr ⟨k862, List.forall_mem_cons.mpr ⟨k116, fun _ h => absurd h List.not_mem_nil⟩⟩⟩⟩)
set_option maxHeartbeats 4000000 in
set_option maxRecDepth 100000 in
theorem lc_about_0 {p : Program} {l : Launch} {e : Env} {s : State} {m : MethodId} {args : Array Value} {below : List Frame} {meth : Method} {c : Code} {Q : State → Prop} {A : Nat → Prop} {b : Nat} {xs : Nat → Int32} {H : Heap} {locs : List Loc} {ls : Array Slot} (hfl : l.stackTraces = false) (D : va_G) (cI cL : ClassId) (B : Nat) (hx : p.tables.exec = Jvm.exec) (hb : c.code = code) (hml : c.maxLocals = 7) (hown : s.vm.findClass "DrawingMachineLaw" = some m.cls) (htw : ∀ w ∈ tw, w.before args s = true) (hC : wC D cI cL B A s) (hX : va_X b 6 xs s s.heap) (hbl : b < s.heap.size) (hbA : ¬ A b) (dm : Nat) (md : Nat) (ou : Nat) (q83 : Nat) (q84 : Nat) (z87 : Nat) (q89 : Nat) (q95 : Nat) (z98 : Nat) (z99 : Nat) (z100 : Nat) (q101 : Nat) (z104 : Nat) (z105 : Nat) (z106 : Nat) (q107 : Nat) (z110 : Nat) (z111 : Nat) (z112 : Nat) (z113 : Nat) (z114 : Nat) (z115 : Nat) (q116 : Nat) (q120 : Nat) (q124 : Nat) (q562 : Nat) (z565 : Nat) (z566 : Nat) (z567 : Nat) (z568 : Nat) (z569 : Nat) (q571 : Nat) (q574 : Nat) (q577 : Nat) (q580 : Nat) (q583 : Nat) (q586 : Nat) (q599 : Nat) (q600 : Nat) (q601 : Nat) (q602 : Nat) (hx1 : xs 1 = 0) (kk : ∀ (H : Heap) (locs : List Loc) (ls : Array Slot), va_S A s.heap H locs → lv_has ls 7 [(4, .int 0), (0, .ref b)] → W p l e room_1 s m args below meth c H locs 600002 7302232 Q (F0 m 847 ls [])) (hP : va_P D classes [(dm, .inr (0, [.ref q83, .ref q84, .ref q89, .ref q95, .ref q101, .ref q107, .ref q116, .ref q120, .ref q124])), (q95, .inr (3, [.ref z98, .int 0, .int 0, .int 0, .int 0, .int 0, .int (-1), .int (-1), .int 0, .long 0, .ref q83, .ref z99, .ref z100, .int 0, .int 0])), (q107, .inr (5, [.ref z110, .ref z111, .int (-1), .ref z87, .ref q89, .ref z112, .ref z113, .ref z114, .ref z115])), (q101, .inr (4, [.int 0, .int (-1), .ref z104, .ref z105, .ref z106, .int 0, .long 0])), (ou, .inl (cL, 1, .inr (.inl (fun _ => 0)))), (md, .inr (12, [.int 0, .int 1, .int 1, .ref q562, .ref q571, .ref q574, .ref q577, .ref q580, .ref q583, .ref q586, .int 0, .int (-1), .int 0, .int 0, .long 0, .ref q599, .ref q600, .ref q601, .ref q602])), (q562, .inr (13, [.int 0, .ref z565, .int 1, .int 1, .ref z566, .int 0, .int 0, .int 0, .ref z567, .int 0, .int 0, .int (-1), .int (-1), .int 0, .int (-1), .int 0, .ref z568, .ref z569]))] H) (hD : va_D A [(dm, .inr (0, [.ref q83, .ref q84, .ref q89, .ref q95, .ref q101, .ref q107, .ref q116, .ref q120, .ref q124])), (q95, .inr (3, [.ref z98, .int 0, .int 0, .int 0, .int 0, .int 0, .int (-1), .int (-1), .int 0, .long 0, .ref q83, .ref z99, .ref z100, .int 0, .int 0])), (q107, .inr (5, [.ref z110, .ref z111, .int (-1), .ref z87, .ref q89, .ref z112, .ref z113, .ref z114, .ref z115])), (q101, .inr (4, [.int 0, .int (-1), .ref z104, .ref z105, .ref z106, .int 0, .long 0])), (ou, .inl (cL, 1, .inr (.inl (fun _ => 0)))), (md, .inr (12, [.int 0, .int 1, .int 1, .ref q562, .ref q571, .ref q574, .ref q577, .ref q580, .ref q583, .ref q586, .int 0, .int (-1), .int 0, .int 0, .long 0, .ref q599, .ref q600, .ref q601, .ref q602])), (q562, .inr (13, [.int 0, .ref z565, .int 1, .int 1, .ref z566, .int 0, .int 0, .int 0, .ref z567, .int 0, .int 0, .int (-1), .int (-1), .int 0, .int (-1), .int 0, .ref z568, .ref z569]))]) (hS : va_S A s.heap H locs) (hl : lv_has ls 7 [(4, .int 0), (3, .ref ou), (2, .ref md), (1, .ref dm), (0, .ref b)]) : W p l e room_1 s m args below meth c H locs 138 124625 Q (F0 m 543 ls []) := by
  refine lv_aload_n hx hb d_law_543 rfl (lv_at hl 3 rfl) ?_
  refine lv_aload_n hx hb d_law_544 rfl (lv_at hl 4 rfl) ?_
  refine lv_iload hx hb d_law_545 (lv_at hl 0 rfl) ?_
  refine lv_iconst (v := 1) hx hb d_law_547 (by decide) ?_
  refine lv_iadd hx hb d_law_548 ?_
  refine wi_c (v := 1) (by decide) ?_
  refine va_sld hx hb hX hbl hbA hS (by unfold vp_in; decide) d_law_549 ?_
  refine wi_c (v := 0) (hx1) ?_
  refine lv_aload_n hx hb d_law_550 rfl (lv_at hl 1 rfl) ?_
  refine wc_i (wr := [(md, .inr (12, [.int 0, .int 1, .int 1, .ref q562, .ref q571, .ref q574, .ref q577, .ref q580, .ref q583, .ref q586, .int 0, .int (-1), .int 0, .int 0, .long 0, .ref q599, .ref q600, .ref q601, .ref q602])), (q562, .inr (13, [.int 0, .ref z565, .int 1, .int 1, .ref z566, .int 0, .int 0, .int 0, .ref z567, .int 0, .int 0, .int (-1), .int (-1), .int 0, .int (-1), .int 0, .ref z568, .ref z569]))]) hC hP hD hS [0, 1, 2, 3, 4] [5, 6] rfl rfl (by decide) (by decide) (tq_runSW (n := 3) (hh := [(0, 9, 12, 13)]) (As := [.ref dm, .int 0, .ref ou]) (rest := []) ⟨hx, hb, hml, hown, htw⟩ (c_habout_0 l D cI cL B _ dm q83 q84 z87 q89 q95 z98 z99 z100 q101 z104 z105 z106 q107 z110 z111 z112 z113 z114 z115 q116 q120 q124 ou) htw (tw_goodW (fun _ h => h) k789) rfl rfl rfl ⟨Nat.le_of_ble_eq_true rfl, Nat.le_of_ble_eq_true rfl⟩ (htw _ k237) (by decide +kernel) (htw _ k858) (htw _ k859) (wC_pre hC hP hD hS [0, 1, 2, 3, 4] (by decide) rfl) rfl rfl hl.1 rfl (lv_room (Nat.le_of_ble_eq_true rfl)) d_law_551 ⟨Nat.le_of_ble_eq_true rfl, Nat.le_of_ble_eq_true rfl⟩) (fun r1571 u1569 H locs hw1570 hP hD hS => ?_)
  obtain rfl : r1571 = 0 := hw1570
  have hP : va_P D classes [(md, .inr (12, [.int 0, .int 1, .int 1, .ref q562, .ref q571, .ref q574, .ref q577, .ref q580, .ref q583, .ref q586, .int 0, .int (-1), .int 0, .int 0, .long 0, .ref q599, .ref q600, .ref q601, .ref q602])), (q562, .inr (13, [.int 0, .ref z565, .int 1, .int 1, .ref z566, .int 0, .int 0, .int 0, .ref z567, .int 0, .int 0, .int (-1), .int (-1), .int 0, .int (-1), .int 0, .ref z568, .ref z569])), (ou, .inl (cL, 1, .inr (.inl (vp_updL (fun _ => 0) (0 : Int32).toNatClampNeg 0))))] H := hP
  have hD : va_D A [(md, .inr (12, [.int 0, .int 1, .int 1, .ref q562, .ref q571, .ref q574, .ref q577, .ref q580, .ref q583, .ref q586, .int 0, .int (-1), .int 0, .int 0, .long 0, .ref q599, .ref q600, .ref q601, .ref q602])), (q562, .inr (13, [.int 0, .ref z565, .int 1, .int 1, .ref z566, .int 0, .int 0, .int 0, .ref z567, .int 0, .int 0, .int (-1), .int (-1), .int 0, .int (-1), .int 0, .ref z568, .ref z569])), (ou, .inl (cL, 1, .inr (.inl (vp_updL (fun _ => 0) (0 : Int32).toNatClampNeg 0))))] := hD
  refine W.widen (k := 138) (n := 124625) (by omega) (by omega) ?_
  refine lv_istore (lv' := [(5, .int 0), (4, .int 0), (3, .ref ou), (2, .ref md), (1, .ref dm), (0, .ref b)]) hx hb d_law_554 hl (by decide) rfl (fun ls hl => ?_)
  refine lv_aload_n hx hb d_law_556 rfl (lv_at hl 3 rfl) ?_
  refine lv_aload_n hx hb d_law_557 rfl (lv_at hl 5 rfl) ?_
  refine lv_iload hx hb d_law_558 (lv_at hl 1 rfl) ?_
  refine lv_iconst (v := 1) hx hb d_law_560 (by decide) ?_
  refine lv_iadd hx hb d_law_561 ?_
  refine wi_c (v := 1) (by decide) ?_
  refine va_sld hx hb hX hbl hbA hS (by unfold vp_in; decide) d_law_562 ?_
  refine wi_c (v := 0) (hx1) ?_
  refine wc_i (wr := [(ou, .inl (cL, 1, .inr (.inl (vp_updL (fun _ => 0) (0 : Int32).toNatClampNeg 0))))]) hC hP hD hS [0, 1] [2] rfl rfl (by decide) (by decide) (va_runV (As := [.int 0]) (rest := []) ⟨hx, hb, hml, hown, htw⟩ (c_Mabout_0 l D cI cL B _ md q562 z565 z566 z567 z568 z569 q571 q574 q577 q580 q583 q586 q599 q600 q601 q602) (cwV 1 htw gV_law_95 rfl rfl rfl (by decide +kernel) ⟨Nat.le_of_ble_eq_true rfl, Nat.le_of_ble_eq_true rfl⟩) (wC_preV (As := [.int 0]) hC hP hD hS [0, 1] (by decide) rfl (q0 := 0) rfl rfl) rfl rfl hl.1 rfl (lv_room (Nat.le_of_ble_eq_true rfl)) d_law_563 ⟨Nat.le_of_ble_eq_true rfl, Nat.le_of_ble_eq_true rfl⟩) (fun r1574 u1572 H locs hw1573 hP hD hS => ?_)
  obtain rfl : r1574 = 0 := hw1573
  have hP : va_P D classes [(ou, .inl (cL, 1, .inr (.inl (vp_updL (fun _ => 0) (0 : Int32).toNatClampNeg 0)))), (md, .inr (12, [.int 0, .int 1, .int 1, .ref q562, .ref q571, .ref q574, .ref q577, .ref q580, .ref q583, .ref q586, .int 0, .int (-1), .int 0, .int 0, .long 0, .ref q599, .ref q600, .ref q601, .ref q602]))] H := hP
  have hD : va_D A [(ou, .inl (cL, 1, .inr (.inl (vp_updL (fun _ => 0) (0 : Int32).toNatClampNeg 0)))), (md, .inr (12, [.int 0, .int 1, .int 1, .ref q562, .ref q571, .ref q574, .ref q577, .ref q580, .ref q583, .ref q586, .int 0, .int (-1), .int 0, .int 0, .long 0, .ref q599, .ref q600, .ref q601, .ref q602]))] := hD
  refine W.widen (k := 138) (n := 124625) (by omega) (by omega) ?_
  refine lv_istore (lv' := [(6, .int 0), (5, .int 0), (4, .int 0), (3, .ref ou), (2, .ref md), (1, .ref dm), (0, .ref b)]) hx hb d_law_566 hl (by decide) rfl (fun ls hl => ?_)
  refine lv_aload_n hx hb d_law_568 rfl (lv_at hl 4 rfl) ?_
  refine wc_i (wr := [(ou, .inl (cL, 1, .inr (.inl (vp_updL (fun _ => 0) (0 : Int32).toNatClampNeg 0))))]) hC hP hD hS [1] [0] rfl rfl (by decide) (by decide) (va_runV (As := []) (rest := []) ⟨hx, hb, hml, hown, htw⟩ (c_thrown l D cI cL B _ md 0 1 1 q562 q571 q574 q577 q580 q583 q586 0 (-1) 0 0 0 q599 q600 q601 q602) (cwV 0 htw gV_law_65 rfl rfl rfl (by decide +kernel) ⟨Nat.le_of_ble_eq_true rfl, Nat.le_of_ble_eq_true rfl⟩) (wC_preV (As := []) hC hP hD hS [1] (by decide) rfl (q0 := 1) rfl rfl) rfl rfl hl.1 rfl (lv_room (Nat.le_of_ble_eq_true rfl)) d_law_569 ⟨Nat.le_of_ble_eq_true rfl, Nat.le_of_ble_eq_true rfl⟩) (fun r1577 u1575 H locs hw1576 hP hD hS => ?_)
  obtain rfl : r1577 = 0 := hw1576
  have hP : va_P D classes [(ou, .inl (cL, 1, .inr (.inl (vp_updL (fun _ => 0) (0 : Int32).toNatClampNeg 0)))), (md, .inr (12, [.int 0, .int 1, .int 1, .ref q562, .ref q571, .ref q574, .ref q577, .ref q580, .ref q583, .ref q586, .int 0, .int (-1), .int 0, .int 0, .long 0, .ref q599, .ref q600, .ref q601, .ref q602]))] H := hP
  have hD : va_D A [(ou, .inl (cL, 1, .inr (.inl (vp_updL (fun _ => 0) (0 : Int32).toNatClampNeg 0)))), (md, .inr (12, [.int 0, .int 1, .int 1, .ref q562, .ref q571, .ref q574, .ref q577, .ref q580, .ref q583, .ref q586, .int 0, .int (-1), .int 0, .int 0, .long 0, .ref q599, .ref q600, .ref q601, .ref q602]))] := hD
  refine W.widen (k := 138) (n := 124625) (by omega) (by omega) ?_
  refine lv_iload hx hb d_law_572 (lv_at hl 1 rfl) ?_
  refine lv_icmp_eq (tgt := 579) hx hb d_law_574 (by decide) (fun c_1578 => ?_) (fun c_1578 => absurd c_1578 (by decide))
  refine lv_iload hx hb d_law_579 (lv_at hl 1 rfl) ?_
  refine lv_if_ne (tgt := 596) hx hb d_law_581 (by decide) (fun c_1579 => absurd c_1579 (by decide)) (fun c_1579 => ?_)
  refine lv_aload_n hx hb d_law_584 rfl (lv_at hl 3 rfl) ?_
  refine lv_iconst (v := 0) hx hb d_law_585 (by decide) ?_
  refine va_lald hx hb hC.1 hP 0 1 rfl rfl (by unfold vp_in; decide) d_law_586 ?_
  refine wl_c (v := 0) updL_0 ?_
  refine lv_iload hx hb d_law_587 (lv_at hl 0 rfl) ?_
  refine lv_i2l (v := 0) hx hb d_law_589 (by decide) ?_
  refine W.lcmp hx hb d_law_590 ?_
  refine wi_c (v := 0) (by decide) ?_
  refine lv_if_eq (tgt := 596) hx hb d_law_591 (by decide) (fun c_1580 => ?_) (fun c_1580 => absurd c_1580 (by decide))
  refine lv_goto (tgt := 847) hx hb d_law_596 (by decide) ?_
  refine W.widen (k := 600002) (n := 7302232) (by omega) (by omega) ?_
  exact kk _ _ _ hS (lv_sub hl [2, 6] rfl)

set_option maxHeartbeats 4000000 in
set_option maxRecDepth 100000 in
theorem lc_about_1 {p : Program} {l : Launch} {e : Env} {s : State} {m : MethodId} {args : Array Value} {below : List Frame} {meth : Method} {c : Code} {Q : State → Prop} {A : Nat → Prop} {b : Nat} {xs : Nat → Int32} {H : Heap} {locs : List Loc} {ls : Array Slot} (hfl : l.stackTraces = false) (D : va_G) (cI cL : ClassId) (B : Nat) (hx : p.tables.exec = Jvm.exec) (hb : c.code = code) (hml : c.maxLocals = 7) (hown : s.vm.findClass "DrawingMachineLaw" = some m.cls) (htw : ∀ w ∈ tw, w.before args s = true) (hC : wC D cI cL B A s) (hX : va_X b 6 xs s s.heap) (hbl : b < s.heap.size) (hbA : ¬ A b) (dm : Nat) (md : Nat) (ou : Nat) (q83 : Nat) (q84 : Nat) (z87 : Nat) (q89 : Nat) (q95 : Nat) (z98 : Nat) (z99 : Nat) (z100 : Nat) (q101 : Nat) (z104 : Nat) (z105 : Nat) (z106 : Nat) (q107 : Nat) (z110 : Nat) (z111 : Nat) (z112 : Nat) (z113 : Nat) (z114 : Nat) (z115 : Nat) (q116 : Nat) (q120 : Nat) (q124 : Nat) (q562 : Nat) (z565 : Nat) (z566 : Nat) (z567 : Nat) (z568 : Nat) (z569 : Nat) (q571 : Nat) (q574 : Nat) (q577 : Nat) (q580 : Nat) (q583 : Nat) (q586 : Nat) (q599 : Nat) (q600 : Nat) (q601 : Nat) (q602 : Nat) (hx1 : xs 1 = 1) (kk : ∀ (H : Heap) (locs : List Loc) (ls : Array Slot), va_S A s.heap H locs → lv_has ls 7 [(4, .int 0), (0, .ref b)] → W p l e room_1 s m args below meth c H locs 600002 7302232 Q (F0 m 847 ls [])) (hP : va_P D classes [(dm, .inr (0, [.ref q83, .ref q84, .ref q89, .ref q95, .ref q101, .ref q107, .ref q116, .ref q120, .ref q124])), (q95, .inr (3, [.ref z98, .int 0, .int 0, .int 0, .int 0, .int 0, .int (-1), .int (-1), .int 0, .long 0, .ref q83, .ref z99, .ref z100, .int 0, .int 0])), (q107, .inr (5, [.ref z110, .ref z111, .int (-1), .ref z87, .ref q89, .ref z112, .ref z113, .ref z114, .ref z115])), (q101, .inr (4, [.int 0, .int (-1), .ref z104, .ref z105, .ref z106, .int 0, .long 0])), (ou, .inl (cL, 1, .inr (.inl (fun _ => 0)))), (md, .inr (12, [.int 0, .int 1, .int 1, .ref q562, .ref q571, .ref q574, .ref q577, .ref q580, .ref q583, .ref q586, .int 0, .int (-1), .int 0, .int 0, .long 0, .ref q599, .ref q600, .ref q601, .ref q602])), (q562, .inr (13, [.int 0, .ref z565, .int 1, .int 1, .ref z566, .int 0, .int 0, .int 0, .ref z567, .int 0, .int 0, .int (-1), .int (-1), .int 0, .int (-1), .int 0, .ref z568, .ref z569]))] H) (hD : va_D A [(dm, .inr (0, [.ref q83, .ref q84, .ref q89, .ref q95, .ref q101, .ref q107, .ref q116, .ref q120, .ref q124])), (q95, .inr (3, [.ref z98, .int 0, .int 0, .int 0, .int 0, .int 0, .int (-1), .int (-1), .int 0, .long 0, .ref q83, .ref z99, .ref z100, .int 0, .int 0])), (q107, .inr (5, [.ref z110, .ref z111, .int (-1), .ref z87, .ref q89, .ref z112, .ref z113, .ref z114, .ref z115])), (q101, .inr (4, [.int 0, .int (-1), .ref z104, .ref z105, .ref z106, .int 0, .long 0])), (ou, .inl (cL, 1, .inr (.inl (fun _ => 0)))), (md, .inr (12, [.int 0, .int 1, .int 1, .ref q562, .ref q571, .ref q574, .ref q577, .ref q580, .ref q583, .ref q586, .int 0, .int (-1), .int 0, .int 0, .long 0, .ref q599, .ref q600, .ref q601, .ref q602])), (q562, .inr (13, [.int 0, .ref z565, .int 1, .int 1, .ref z566, .int 0, .int 0, .int 0, .ref z567, .int 0, .int 0, .int (-1), .int (-1), .int 0, .int (-1), .int 0, .ref z568, .ref z569]))]) (hS : va_S A s.heap H locs) (hl : lv_has ls 7 [(4, .int 0), (3, .ref ou), (2, .ref md), (1, .ref dm), (0, .ref b)]) : W p l e room_1 s m args below meth c H locs 138 124625 Q (F0 m 543 ls []) := by
  refine lv_aload_n hx hb d_law_543 rfl (lv_at hl 3 rfl) ?_
  refine lv_aload_n hx hb d_law_544 rfl (lv_at hl 4 rfl) ?_
  refine lv_iload hx hb d_law_545 (lv_at hl 0 rfl) ?_
  refine lv_iconst (v := 1) hx hb d_law_547 (by decide) ?_
  refine lv_iadd hx hb d_law_548 ?_
  refine wi_c (v := 1) (by decide) ?_
  refine va_sld hx hb hX hbl hbA hS (by unfold vp_in; decide) d_law_549 ?_
  refine wi_c (v := 1) (hx1) ?_
  refine lv_aload_n hx hb d_law_550 rfl (lv_at hl 1 rfl) ?_
  refine wc_i (wr := [(md, .inr (12, [.int 0, .int 1, .int 1, .ref q562, .ref q571, .ref q574, .ref q577, .ref q580, .ref q583, .ref q586, .int 0, .int (-1), .int 0, .int 0, .long 0, .ref q599, .ref q600, .ref q601, .ref q602])), (q562, .inr (13, [.int 0, .ref z565, .int 1, .int 1, .ref z566, .int 0, .int 0, .int 0, .ref z567, .int 0, .int 0, .int (-1), .int (-1), .int 0, .int (-1), .int 0, .ref z568, .ref z569]))]) hC hP hD hS [0, 1, 2, 3, 4] [5, 6] rfl rfl (by decide) (by decide) (tq_runSW (n := 3) (hh := [(0, 9, 12, 13)]) (As := [.ref dm, .int 1, .ref ou]) (rest := []) ⟨hx, hb, hml, hown, htw⟩ (c_habout_1 l D cI cL B _ dm q83 q84 z87 q89 q95 z98 z99 z100 q101 z104 z105 z106 q107 z110 z111 z112 z113 z114 z115 q116 q120 q124 ou) htw (tw_goodW (fun _ h => h) k789) rfl rfl rfl ⟨Nat.le_of_ble_eq_true rfl, Nat.le_of_ble_eq_true rfl⟩ (htw _ k237) (by decide +kernel) (htw _ k858) (htw _ k859) (wC_pre hC hP hD hS [0, 1, 2, 3, 4] (by decide) rfl) rfl rfl hl.1 rfl (lv_room (Nat.le_of_ble_eq_true rfl)) d_law_551 ⟨Nat.le_of_ble_eq_true rfl, Nat.le_of_ble_eq_true rfl⟩) (fun r1583 u1581 H locs hw1582 hP hD hS => ?_)
  obtain rfl : r1583 = 0 := hw1582
  have hP : va_P D classes [(md, .inr (12, [.int 0, .int 1, .int 1, .ref q562, .ref q571, .ref q574, .ref q577, .ref q580, .ref q583, .ref q586, .int 0, .int (-1), .int 0, .int 0, .long 0, .ref q599, .ref q600, .ref q601, .ref q602])), (q562, .inr (13, [.int 0, .ref z565, .int 1, .int 1, .ref z566, .int 0, .int 0, .int 0, .ref z567, .int 0, .int 0, .int (-1), .int (-1), .int 0, .int (-1), .int 0, .ref z568, .ref z569])), (ou, .inl (cL, 1, .inr (.inl (vp_updL (fun _ => 0) (0 : Int32).toNatClampNeg 0))))] H := hP
  have hD : va_D A [(md, .inr (12, [.int 0, .int 1, .int 1, .ref q562, .ref q571, .ref q574, .ref q577, .ref q580, .ref q583, .ref q586, .int 0, .int (-1), .int 0, .int 0, .long 0, .ref q599, .ref q600, .ref q601, .ref q602])), (q562, .inr (13, [.int 0, .ref z565, .int 1, .int 1, .ref z566, .int 0, .int 0, .int 0, .ref z567, .int 0, .int 0, .int (-1), .int (-1), .int 0, .int (-1), .int 0, .ref z568, .ref z569])), (ou, .inl (cL, 1, .inr (.inl (vp_updL (fun _ => 0) (0 : Int32).toNatClampNeg 0))))] := hD
  refine W.widen (k := 138) (n := 124625) (by omega) (by omega) ?_
  refine lv_istore (lv' := [(5, .int 0), (4, .int 0), (3, .ref ou), (2, .ref md), (1, .ref dm), (0, .ref b)]) hx hb d_law_554 hl (by decide) rfl (fun ls hl => ?_)
  refine lv_aload_n hx hb d_law_556 rfl (lv_at hl 3 rfl) ?_
  refine lv_aload_n hx hb d_law_557 rfl (lv_at hl 5 rfl) ?_
  refine lv_iload hx hb d_law_558 (lv_at hl 1 rfl) ?_
  refine lv_iconst (v := 1) hx hb d_law_560 (by decide) ?_
  refine lv_iadd hx hb d_law_561 ?_
  refine wi_c (v := 1) (by decide) ?_
  refine va_sld hx hb hX hbl hbA hS (by unfold vp_in; decide) d_law_562 ?_
  refine wi_c (v := 1) (hx1) ?_
  refine wc_i (wr := [(ou, .inl (cL, 1, .inr (.inl (vp_updL (fun _ => 0) (0 : Int32).toNatClampNeg 0))))]) hC hP hD hS [0, 1] [2] rfl rfl (by decide) (by decide) (va_runV (As := [.int 1]) (rest := []) ⟨hx, hb, hml, hown, htw⟩ (c_Mabout_1 l D cI cL B _ md q562 z565 z566 z567 z568 z569 q571 q574 q577 q580 q583 q586 q599 q600 q601 q602) (cwV 1 htw gV_law_95 rfl rfl rfl (by decide +kernel) ⟨Nat.le_of_ble_eq_true rfl, Nat.le_of_ble_eq_true rfl⟩) (wC_preV (As := [.int 1]) hC hP hD hS [0, 1] (by decide) rfl (q0 := 0) rfl rfl) rfl rfl hl.1 rfl (lv_room (Nat.le_of_ble_eq_true rfl)) d_law_563 ⟨Nat.le_of_ble_eq_true rfl, Nat.le_of_ble_eq_true rfl⟩) (fun r1586 u1584 H locs hw1585 hP hD hS => ?_)
  obtain rfl : r1586 = 0 := hw1585
  have hP : va_P D classes [(ou, .inl (cL, 1, .inr (.inl (vp_updL (fun _ => 0) (0 : Int32).toNatClampNeg 0)))), (md, .inr (12, [.int 0, .int 1, .int 1, .ref q562, .ref q571, .ref q574, .ref q577, .ref q580, .ref q583, .ref q586, .int 0, .int (-1), .int 0, .int 0, .long 0, .ref q599, .ref q600, .ref q601, .ref q602]))] H := hP
  have hD : va_D A [(ou, .inl (cL, 1, .inr (.inl (vp_updL (fun _ => 0) (0 : Int32).toNatClampNeg 0)))), (md, .inr (12, [.int 0, .int 1, .int 1, .ref q562, .ref q571, .ref q574, .ref q577, .ref q580, .ref q583, .ref q586, .int 0, .int (-1), .int 0, .int 0, .long 0, .ref q599, .ref q600, .ref q601, .ref q602]))] := hD
  refine W.widen (k := 138) (n := 124625) (by omega) (by omega) ?_
  refine lv_istore (lv' := [(6, .int 0), (5, .int 0), (4, .int 0), (3, .ref ou), (2, .ref md), (1, .ref dm), (0, .ref b)]) hx hb d_law_566 hl (by decide) rfl (fun ls hl => ?_)
  refine lv_aload_n hx hb d_law_568 rfl (lv_at hl 4 rfl) ?_
  refine wc_i (wr := [(ou, .inl (cL, 1, .inr (.inl (vp_updL (fun _ => 0) (0 : Int32).toNatClampNeg 0))))]) hC hP hD hS [1] [0] rfl rfl (by decide) (by decide) (va_runV (As := []) (rest := []) ⟨hx, hb, hml, hown, htw⟩ (c_thrown l D cI cL B _ md 0 1 1 q562 q571 q574 q577 q580 q583 q586 0 (-1) 0 0 0 q599 q600 q601 q602) (cwV 0 htw gV_law_65 rfl rfl rfl (by decide +kernel) ⟨Nat.le_of_ble_eq_true rfl, Nat.le_of_ble_eq_true rfl⟩) (wC_preV (As := []) hC hP hD hS [1] (by decide) rfl (q0 := 1) rfl rfl) rfl rfl hl.1 rfl (lv_room (Nat.le_of_ble_eq_true rfl)) d_law_569 ⟨Nat.le_of_ble_eq_true rfl, Nat.le_of_ble_eq_true rfl⟩) (fun r1589 u1587 H locs hw1588 hP hD hS => ?_)
  obtain rfl : r1589 = 0 := hw1588
  have hP : va_P D classes [(ou, .inl (cL, 1, .inr (.inl (vp_updL (fun _ => 0) (0 : Int32).toNatClampNeg 0)))), (md, .inr (12, [.int 0, .int 1, .int 1, .ref q562, .ref q571, .ref q574, .ref q577, .ref q580, .ref q583, .ref q586, .int 0, .int (-1), .int 0, .int 0, .long 0, .ref q599, .ref q600, .ref q601, .ref q602]))] H := hP
  have hD : va_D A [(ou, .inl (cL, 1, .inr (.inl (vp_updL (fun _ => 0) (0 : Int32).toNatClampNeg 0)))), (md, .inr (12, [.int 0, .int 1, .int 1, .ref q562, .ref q571, .ref q574, .ref q577, .ref q580, .ref q583, .ref q586, .int 0, .int (-1), .int 0, .int 0, .long 0, .ref q599, .ref q600, .ref q601, .ref q602]))] := hD
  refine W.widen (k := 138) (n := 124625) (by omega) (by omega) ?_
  refine lv_iload hx hb d_law_572 (lv_at hl 1 rfl) ?_
  refine lv_icmp_eq (tgt := 579) hx hb d_law_574 (by decide) (fun c_1590 => ?_) (fun c_1590 => absurd c_1590 (by decide))
  refine lv_iload hx hb d_law_579 (lv_at hl 1 rfl) ?_
  refine lv_if_ne (tgt := 596) hx hb d_law_581 (by decide) (fun c_1591 => absurd c_1591 (by decide)) (fun c_1591 => ?_)
  refine lv_aload_n hx hb d_law_584 rfl (lv_at hl 3 rfl) ?_
  refine lv_iconst (v := 0) hx hb d_law_585 (by decide) ?_
  refine va_lald hx hb hC.1 hP 0 1 rfl rfl (by unfold vp_in; decide) d_law_586 ?_
  refine wl_c (v := 0) updL_0 ?_
  refine lv_iload hx hb d_law_587 (lv_at hl 0 rfl) ?_
  refine lv_i2l (v := 0) hx hb d_law_589 (by decide) ?_
  refine W.lcmp hx hb d_law_590 ?_
  refine wi_c (v := 0) (by decide) ?_
  refine lv_if_eq (tgt := 596) hx hb d_law_591 (by decide) (fun c_1592 => ?_) (fun c_1592 => absurd c_1592 (by decide))
  refine lv_goto (tgt := 847) hx hb d_law_596 (by decide) ?_
  refine W.widen (k := 600002) (n := 7302232) (by omega) (by omega) ?_
  exact kk _ _ _ hS (lv_sub hl [2, 6] rfl)

set_option maxHeartbeats 4000000 in
set_option maxRecDepth 100000 in
theorem lc_about_2 {p : Program} {l : Launch} {e : Env} {s : State} {m : MethodId} {args : Array Value} {below : List Frame} {meth : Method} {c : Code} {Q : State → Prop} {A : Nat → Prop} {b : Nat} {xs : Nat → Int32} {H : Heap} {locs : List Loc} {ls : Array Slot} (hfl : l.stackTraces = false) (D : va_G) (cI cL : ClassId) (B : Nat) (hx : p.tables.exec = Jvm.exec) (hb : c.code = code) (hml : c.maxLocals = 7) (hown : s.vm.findClass "DrawingMachineLaw" = some m.cls) (htw : ∀ w ∈ tw, w.before args s = true) (hC : wC D cI cL B A s) (hX : va_X b 6 xs s s.heap) (hbl : b < s.heap.size) (hbA : ¬ A b) (dm : Nat) (md : Nat) (ou : Nat) (q83 : Nat) (q84 : Nat) (z87 : Nat) (q89 : Nat) (q95 : Nat) (z98 : Nat) (z99 : Nat) (z100 : Nat) (q101 : Nat) (z104 : Nat) (z105 : Nat) (z106 : Nat) (q107 : Nat) (z110 : Nat) (z111 : Nat) (z112 : Nat) (z113 : Nat) (z114 : Nat) (z115 : Nat) (q116 : Nat) (q120 : Nat) (q124 : Nat) (q562 : Nat) (z565 : Nat) (z566 : Nat) (z567 : Nat) (z568 : Nat) (z569 : Nat) (q571 : Nat) (q574 : Nat) (q577 : Nat) (q580 : Nat) (q583 : Nat) (q586 : Nat) (q599 : Nat) (q600 : Nat) (q601 : Nat) (q602 : Nat) (hx1 : xs 1 = 2) (kk : ∀ (H : Heap) (locs : List Loc) (ls : Array Slot), va_S A s.heap H locs → lv_has ls 7 [(4, .int 0), (0, .ref b)] → W p l e room_1 s m args below meth c H locs 600002 7302232 Q (F0 m 847 ls [])) (hP : va_P D classes [(dm, .inr (0, [.ref q83, .ref q84, .ref q89, .ref q95, .ref q101, .ref q107, .ref q116, .ref q120, .ref q124])), (q95, .inr (3, [.ref z98, .int 0, .int 0, .int 0, .int 0, .int 0, .int (-1), .int (-1), .int 0, .long 0, .ref q83, .ref z99, .ref z100, .int 0, .int 0])), (q107, .inr (5, [.ref z110, .ref z111, .int (-1), .ref z87, .ref q89, .ref z112, .ref z113, .ref z114, .ref z115])), (q101, .inr (4, [.int 0, .int (-1), .ref z104, .ref z105, .ref z106, .int 0, .long 0])), (ou, .inl (cL, 1, .inr (.inl (fun _ => 0)))), (md, .inr (12, [.int 0, .int 1, .int 1, .ref q562, .ref q571, .ref q574, .ref q577, .ref q580, .ref q583, .ref q586, .int 0, .int (-1), .int 0, .int 0, .long 0, .ref q599, .ref q600, .ref q601, .ref q602])), (q562, .inr (13, [.int 0, .ref z565, .int 1, .int 1, .ref z566, .int 0, .int 0, .int 0, .ref z567, .int 0, .int 0, .int (-1), .int (-1), .int 0, .int (-1), .int 0, .ref z568, .ref z569]))] H) (hD : va_D A [(dm, .inr (0, [.ref q83, .ref q84, .ref q89, .ref q95, .ref q101, .ref q107, .ref q116, .ref q120, .ref q124])), (q95, .inr (3, [.ref z98, .int 0, .int 0, .int 0, .int 0, .int 0, .int (-1), .int (-1), .int 0, .long 0, .ref q83, .ref z99, .ref z100, .int 0, .int 0])), (q107, .inr (5, [.ref z110, .ref z111, .int (-1), .ref z87, .ref q89, .ref z112, .ref z113, .ref z114, .ref z115])), (q101, .inr (4, [.int 0, .int (-1), .ref z104, .ref z105, .ref z106, .int 0, .long 0])), (ou, .inl (cL, 1, .inr (.inl (fun _ => 0)))), (md, .inr (12, [.int 0, .int 1, .int 1, .ref q562, .ref q571, .ref q574, .ref q577, .ref q580, .ref q583, .ref q586, .int 0, .int (-1), .int 0, .int 0, .long 0, .ref q599, .ref q600, .ref q601, .ref q602])), (q562, .inr (13, [.int 0, .ref z565, .int 1, .int 1, .ref z566, .int 0, .int 0, .int 0, .ref z567, .int 0, .int 0, .int (-1), .int (-1), .int 0, .int (-1), .int 0, .ref z568, .ref z569]))]) (hS : va_S A s.heap H locs) (hl : lv_has ls 7 [(4, .int 0), (3, .ref ou), (2, .ref md), (1, .ref dm), (0, .ref b)]) : W p l e room_1 s m args below meth c H locs 138 124625 Q (F0 m 543 ls []) := by
  refine lv_aload_n hx hb d_law_543 rfl (lv_at hl 3 rfl) ?_
  refine lv_aload_n hx hb d_law_544 rfl (lv_at hl 4 rfl) ?_
  refine lv_iload hx hb d_law_545 (lv_at hl 0 rfl) ?_
  refine lv_iconst (v := 1) hx hb d_law_547 (by decide) ?_
  refine lv_iadd hx hb d_law_548 ?_
  refine wi_c (v := 1) (by decide) ?_
  refine va_sld hx hb hX hbl hbA hS (by unfold vp_in; decide) d_law_549 ?_
  refine wi_c (v := 2) (hx1) ?_
  refine lv_aload_n hx hb d_law_550 rfl (lv_at hl 1 rfl) ?_
  refine wc_i (wr := [(md, .inr (12, [.int 0, .int 1, .int 1, .ref q562, .ref q571, .ref q574, .ref q577, .ref q580, .ref q583, .ref q586, .int 0, .int (-1), .int 0, .int 0, .long 0, .ref q599, .ref q600, .ref q601, .ref q602])), (q562, .inr (13, [.int 0, .ref z565, .int 1, .int 1, .ref z566, .int 0, .int 0, .int 0, .ref z567, .int 0, .int 0, .int (-1), .int (-1), .int 0, .int (-1), .int 0, .ref z568, .ref z569]))]) hC hP hD hS [0, 1, 2, 3, 4] [5, 6] rfl rfl (by decide) (by decide) (tq_runSW (n := 3) (hh := [(0, 9, 12, 13)]) (As := [.ref dm, .int 2, .ref ou]) (rest := []) ⟨hx, hb, hml, hown, htw⟩ (c_habout_2 l D cI cL B _ dm q83 q84 z87 q89 q95 z98 z99 z100 q101 z104 z105 z106 q107 z110 z111 z112 z113 z114 z115 q116 q120 q124 ou) htw (tw_goodW (fun _ h => h) k789) rfl rfl rfl ⟨Nat.le_of_ble_eq_true rfl, Nat.le_of_ble_eq_true rfl⟩ (htw _ k237) (by decide +kernel) (htw _ k858) (htw _ k859) (wC_pre hC hP hD hS [0, 1, 2, 3, 4] (by decide) rfl) rfl rfl hl.1 rfl (lv_room (Nat.le_of_ble_eq_true rfl)) d_law_551 ⟨Nat.le_of_ble_eq_true rfl, Nat.le_of_ble_eq_true rfl⟩) (fun r1595 u1593 H locs hw1594 hP hD hS => ?_)
  obtain rfl : r1595 = 0 := hw1594
  have hP : va_P D classes [(md, .inr (12, [.int 0, .int 1, .int 1, .ref q562, .ref q571, .ref q574, .ref q577, .ref q580, .ref q583, .ref q586, .int 0, .int (-1), .int 0, .int 0, .long 0, .ref q599, .ref q600, .ref q601, .ref q602])), (q562, .inr (13, [.int 0, .ref z565, .int 1, .int 1, .ref z566, .int 0, .int 0, .int 0, .ref z567, .int 0, .int 0, .int (-1), .int (-1), .int 0, .int (-1), .int 0, .ref z568, .ref z569])), (ou, .inl (cL, 1, .inr (.inl (vp_updL (fun _ => 0) (0 : Int32).toNatClampNeg (-1)))))] H := hP
  have hD : va_D A [(md, .inr (12, [.int 0, .int 1, .int 1, .ref q562, .ref q571, .ref q574, .ref q577, .ref q580, .ref q583, .ref q586, .int 0, .int (-1), .int 0, .int 0, .long 0, .ref q599, .ref q600, .ref q601, .ref q602])), (q562, .inr (13, [.int 0, .ref z565, .int 1, .int 1, .ref z566, .int 0, .int 0, .int 0, .ref z567, .int 0, .int 0, .int (-1), .int (-1), .int 0, .int (-1), .int 0, .ref z568, .ref z569])), (ou, .inl (cL, 1, .inr (.inl (vp_updL (fun _ => 0) (0 : Int32).toNatClampNeg (-1)))))] := hD
  refine W.widen (k := 138) (n := 124625) (by omega) (by omega) ?_
  refine lv_istore (lv' := [(5, .int 0), (4, .int 0), (3, .ref ou), (2, .ref md), (1, .ref dm), (0, .ref b)]) hx hb d_law_554 hl (by decide) rfl (fun ls hl => ?_)
  refine lv_aload_n hx hb d_law_556 rfl (lv_at hl 3 rfl) ?_
  refine lv_aload_n hx hb d_law_557 rfl (lv_at hl 5 rfl) ?_
  refine lv_iload hx hb d_law_558 (lv_at hl 1 rfl) ?_
  refine lv_iconst (v := 1) hx hb d_law_560 (by decide) ?_
  refine lv_iadd hx hb d_law_561 ?_
  refine wi_c (v := 1) (by decide) ?_
  refine va_sld hx hb hX hbl hbA hS (by unfold vp_in; decide) d_law_562 ?_
  refine wi_c (v := 2) (hx1) ?_
  refine wc_i (wr := [(ou, .inl (cL, 1, .inr (.inl (vp_updL (fun _ => 0) (0 : Int32).toNatClampNeg (-1)))))]) hC hP hD hS [0, 1] [2] rfl rfl (by decide) (by decide) (va_runV (As := [.int 2]) (rest := []) ⟨hx, hb, hml, hown, htw⟩ (c_Mabout_2 l D cI cL B _ md q562 z565 z566 z567 z568 z569 q571 q574 q577 q580 q583 q586 q599 q600 q601 q602) (cwV 1 htw gV_law_95 rfl rfl rfl (by decide +kernel) ⟨Nat.le_of_ble_eq_true rfl, Nat.le_of_ble_eq_true rfl⟩) (wC_preV (As := [.int 2]) hC hP hD hS [0, 1] (by decide) rfl (q0 := 0) rfl rfl) rfl rfl hl.1 rfl (lv_room (Nat.le_of_ble_eq_true rfl)) d_law_563 ⟨Nat.le_of_ble_eq_true rfl, Nat.le_of_ble_eq_true rfl⟩) (fun r1598 u1596 H locs hw1597 hP hD hS => ?_)
  obtain rfl : r1598 = (-1) := hw1597
  have hP : va_P D classes [(ou, .inl (cL, 1, .inr (.inl (vp_updL (fun _ => 0) (0 : Int32).toNatClampNeg (-1))))), (md, .inr (12, [.int 0, .int 1, .int 1, .ref q562, .ref q571, .ref q574, .ref q577, .ref q580, .ref q583, .ref q586, .int 0, .int (-1), .int 0, .int 0, .long 0, .ref q599, .ref q600, .ref q601, .ref q602]))] H := hP
  have hD : va_D A [(ou, .inl (cL, 1, .inr (.inl (vp_updL (fun _ => 0) (0 : Int32).toNatClampNeg (-1))))), (md, .inr (12, [.int 0, .int 1, .int 1, .ref q562, .ref q571, .ref q574, .ref q577, .ref q580, .ref q583, .ref q586, .int 0, .int (-1), .int 0, .int 0, .long 0, .ref q599, .ref q600, .ref q601, .ref q602]))] := hD
  refine W.widen (k := 138) (n := 124625) (by omega) (by omega) ?_
  refine lv_istore (lv' := [(6, .int (-1)), (5, .int 0), (4, .int 0), (3, .ref ou), (2, .ref md), (1, .ref dm), (0, .ref b)]) hx hb d_law_566 hl (by decide) rfl (fun ls hl => ?_)
  refine lv_aload_n hx hb d_law_568 rfl (lv_at hl 4 rfl) ?_
  refine wc_i (wr := [(ou, .inl (cL, 1, .inr (.inl (vp_updL (fun _ => 0) (0 : Int32).toNatClampNeg (-1)))))]) hC hP hD hS [1] [0] rfl rfl (by decide) (by decide) (va_runV (As := []) (rest := []) ⟨hx, hb, hml, hown, htw⟩ (c_thrown l D cI cL B _ md 0 1 1 q562 q571 q574 q577 q580 q583 q586 0 (-1) 0 0 0 q599 q600 q601 q602) (cwV 0 htw gV_law_65 rfl rfl rfl (by decide +kernel) ⟨Nat.le_of_ble_eq_true rfl, Nat.le_of_ble_eq_true rfl⟩) (wC_preV (As := []) hC hP hD hS [1] (by decide) rfl (q0 := 1) rfl rfl) rfl rfl hl.1 rfl (lv_room (Nat.le_of_ble_eq_true rfl)) d_law_569 ⟨Nat.le_of_ble_eq_true rfl, Nat.le_of_ble_eq_true rfl⟩) (fun r1601 u1599 H locs hw1600 hP hD hS => ?_)
  obtain rfl : r1601 = 0 := hw1600
  have hP : va_P D classes [(ou, .inl (cL, 1, .inr (.inl (vp_updL (fun _ => 0) (0 : Int32).toNatClampNeg (-1))))), (md, .inr (12, [.int 0, .int 1, .int 1, .ref q562, .ref q571, .ref q574, .ref q577, .ref q580, .ref q583, .ref q586, .int 0, .int (-1), .int 0, .int 0, .long 0, .ref q599, .ref q600, .ref q601, .ref q602]))] H := hP
  have hD : va_D A [(ou, .inl (cL, 1, .inr (.inl (vp_updL (fun _ => 0) (0 : Int32).toNatClampNeg (-1))))), (md, .inr (12, [.int 0, .int 1, .int 1, .ref q562, .ref q571, .ref q574, .ref q577, .ref q580, .ref q583, .ref q586, .int 0, .int (-1), .int 0, .int 0, .long 0, .ref q599, .ref q600, .ref q601, .ref q602]))] := hD
  refine W.widen (k := 138) (n := 124625) (by omega) (by omega) ?_
  refine lv_iload hx hb d_law_572 (lv_at hl 1 rfl) ?_
  refine lv_icmp_eq (tgt := 579) hx hb d_law_574 (by decide) (fun c_1602 => ?_) (fun c_1602 => absurd c_1602 (by decide))
  refine lv_iload hx hb d_law_579 (lv_at hl 1 rfl) ?_
  refine lv_if_ne (tgt := 596) hx hb d_law_581 (by decide) (fun c_1603 => absurd c_1603 (by decide)) (fun c_1603 => ?_)
  refine lv_aload_n hx hb d_law_584 rfl (lv_at hl 3 rfl) ?_
  refine lv_iconst (v := 0) hx hb d_law_585 (by decide) ?_
  refine va_lald hx hb hC.1 hP 0 1 rfl rfl (by unfold vp_in; decide) d_law_586 ?_
  refine wl_c (v := (-1)) updL_0 ?_
  refine lv_iload hx hb d_law_587 (lv_at hl 0 rfl) ?_
  refine lv_i2l (v := (-1)) hx hb d_law_589 (by decide) ?_
  refine W.lcmp hx hb d_law_590 ?_
  refine wi_c (v := 0) (by decide) ?_
  refine lv_if_eq (tgt := 596) hx hb d_law_591 (by decide) (fun c_1604 => ?_) (fun c_1604 => absurd c_1604 (by decide))
  refine lv_goto (tgt := 847) hx hb d_law_596 (by decide) ?_
  refine W.widen (k := 600002) (n := 7302232) (by omega) (by omega) ?_
  exact kk _ _ _ hS (lv_sub hl [2, 6] rfl)

set_option maxHeartbeats 4000000 in
set_option maxRecDepth 100000 in
theorem lc_about_3 {p : Program} {l : Launch} {e : Env} {s : State} {m : MethodId} {args : Array Value} {below : List Frame} {meth : Method} {c : Code} {Q : State → Prop} {A : Nat → Prop} {b : Nat} {xs : Nat → Int32} {H : Heap} {locs : List Loc} {ls : Array Slot} (hfl : l.stackTraces = false) (D : va_G) (cI cL : ClassId) (B : Nat) (hx : p.tables.exec = Jvm.exec) (hb : c.code = code) (hml : c.maxLocals = 7) (hown : s.vm.findClass "DrawingMachineLaw" = some m.cls) (htw : ∀ w ∈ tw, w.before args s = true) (hC : wC D cI cL B A s) (hX : va_X b 6 xs s s.heap) (hbl : b < s.heap.size) (hbA : ¬ A b) (dm : Nat) (md : Nat) (ou : Nat) (q83 : Nat) (q84 : Nat) (z87 : Nat) (q89 : Nat) (q95 : Nat) (z98 : Nat) (z99 : Nat) (z100 : Nat) (q101 : Nat) (z104 : Nat) (z105 : Nat) (z106 : Nat) (q107 : Nat) (z110 : Nat) (z111 : Nat) (z112 : Nat) (z113 : Nat) (z114 : Nat) (z115 : Nat) (q116 : Nat) (q120 : Nat) (q124 : Nat) (q562 : Nat) (z565 : Nat) (z566 : Nat) (z567 : Nat) (z568 : Nat) (z569 : Nat) (q571 : Nat) (q574 : Nat) (q577 : Nat) (q580 : Nat) (q583 : Nat) (q586 : Nat) (q599 : Nat) (q600 : Nat) (q601 : Nat) (q602 : Nat) (hx1 : xs 1 = 3) (kk : ∀ (H : Heap) (locs : List Loc) (ls : Array Slot), va_S A s.heap H locs → lv_has ls 7 [(4, .int 0), (0, .ref b)] → W p l e room_1 s m args below meth c H locs 600002 7302232 Q (F0 m 847 ls [])) (hP : va_P D classes [(dm, .inr (0, [.ref q83, .ref q84, .ref q89, .ref q95, .ref q101, .ref q107, .ref q116, .ref q120, .ref q124])), (q95, .inr (3, [.ref z98, .int 0, .int 0, .int 0, .int 0, .int 0, .int (-1), .int (-1), .int 0, .long 0, .ref q83, .ref z99, .ref z100, .int 0, .int 0])), (q107, .inr (5, [.ref z110, .ref z111, .int (-1), .ref z87, .ref q89, .ref z112, .ref z113, .ref z114, .ref z115])), (q101, .inr (4, [.int 0, .int (-1), .ref z104, .ref z105, .ref z106, .int 0, .long 0])), (ou, .inl (cL, 1, .inr (.inl (fun _ => 0)))), (md, .inr (12, [.int 0, .int 1, .int 1, .ref q562, .ref q571, .ref q574, .ref q577, .ref q580, .ref q583, .ref q586, .int 0, .int (-1), .int 0, .int 0, .long 0, .ref q599, .ref q600, .ref q601, .ref q602])), (q562, .inr (13, [.int 0, .ref z565, .int 1, .int 1, .ref z566, .int 0, .int 0, .int 0, .ref z567, .int 0, .int 0, .int (-1), .int (-1), .int 0, .int (-1), .int 0, .ref z568, .ref z569]))] H) (hD : va_D A [(dm, .inr (0, [.ref q83, .ref q84, .ref q89, .ref q95, .ref q101, .ref q107, .ref q116, .ref q120, .ref q124])), (q95, .inr (3, [.ref z98, .int 0, .int 0, .int 0, .int 0, .int 0, .int (-1), .int (-1), .int 0, .long 0, .ref q83, .ref z99, .ref z100, .int 0, .int 0])), (q107, .inr (5, [.ref z110, .ref z111, .int (-1), .ref z87, .ref q89, .ref z112, .ref z113, .ref z114, .ref z115])), (q101, .inr (4, [.int 0, .int (-1), .ref z104, .ref z105, .ref z106, .int 0, .long 0])), (ou, .inl (cL, 1, .inr (.inl (fun _ => 0)))), (md, .inr (12, [.int 0, .int 1, .int 1, .ref q562, .ref q571, .ref q574, .ref q577, .ref q580, .ref q583, .ref q586, .int 0, .int (-1), .int 0, .int 0, .long 0, .ref q599, .ref q600, .ref q601, .ref q602])), (q562, .inr (13, [.int 0, .ref z565, .int 1, .int 1, .ref z566, .int 0, .int 0, .int 0, .ref z567, .int 0, .int 0, .int (-1), .int (-1), .int 0, .int (-1), .int 0, .ref z568, .ref z569]))]) (hS : va_S A s.heap H locs) (hl : lv_has ls 7 [(4, .int 0), (3, .ref ou), (2, .ref md), (1, .ref dm), (0, .ref b)]) : W p l e room_1 s m args below meth c H locs 138 124625 Q (F0 m 543 ls []) := by
  refine lv_aload_n hx hb d_law_543 rfl (lv_at hl 3 rfl) ?_
  refine lv_aload_n hx hb d_law_544 rfl (lv_at hl 4 rfl) ?_
  refine lv_iload hx hb d_law_545 (lv_at hl 0 rfl) ?_
  refine lv_iconst (v := 1) hx hb d_law_547 (by decide) ?_
  refine lv_iadd hx hb d_law_548 ?_
  refine wi_c (v := 1) (by decide) ?_
  refine va_sld hx hb hX hbl hbA hS (by unfold vp_in; decide) d_law_549 ?_
  refine wi_c (v := 3) (hx1) ?_
  refine lv_aload_n hx hb d_law_550 rfl (lv_at hl 1 rfl) ?_
  refine wc_i (wr := [(md, .inr (12, [.int 0, .int 1, .int 1, .ref q562, .ref q571, .ref q574, .ref q577, .ref q580, .ref q583, .ref q586, .int 0, .int (-1), .int 0, .int 0, .long 0, .ref q599, .ref q600, .ref q601, .ref q602])), (q562, .inr (13, [.int 0, .ref z565, .int 1, .int 1, .ref z566, .int 0, .int 0, .int 0, .ref z567, .int 0, .int 0, .int (-1), .int (-1), .int 0, .int (-1), .int 0, .ref z568, .ref z569]))]) hC hP hD hS [0, 1, 2, 3, 4] [5, 6] rfl rfl (by decide) (by decide) (tq_runSW (n := 3) (hh := [(0, 9, 12, 13)]) (As := [.ref dm, .int 3, .ref ou]) (rest := []) ⟨hx, hb, hml, hown, htw⟩ (c_habout_3 l D cI cL B _ dm q83 q84 z87 q89 q95 z98 z99 z100 q101 z104 z105 z106 q107 z110 z111 z112 z113 z114 z115 q116 q120 q124 ou) htw (tw_goodW (fun _ h => h) k789) rfl rfl rfl ⟨Nat.le_of_ble_eq_true rfl, Nat.le_of_ble_eq_true rfl⟩ (htw _ k237) (by decide +kernel) (htw _ k858) (htw _ k859) (wC_pre hC hP hD hS [0, 1, 2, 3, 4] (by decide) rfl) rfl rfl hl.1 rfl (lv_room (Nat.le_of_ble_eq_true rfl)) d_law_551 ⟨Nat.le_of_ble_eq_true rfl, Nat.le_of_ble_eq_true rfl⟩) (fun r1607 u1605 H locs hw1606 hP hD hS => ?_)
  obtain rfl : r1607 = 0 := hw1606
  have hP : va_P D classes [(md, .inr (12, [.int 0, .int 1, .int 1, .ref q562, .ref q571, .ref q574, .ref q577, .ref q580, .ref q583, .ref q586, .int 0, .int (-1), .int 0, .int 0, .long 0, .ref q599, .ref q600, .ref q601, .ref q602])), (q562, .inr (13, [.int 0, .ref z565, .int 1, .int 1, .ref z566, .int 0, .int 0, .int 0, .ref z567, .int 0, .int 0, .int (-1), .int (-1), .int 0, .int (-1), .int 0, .ref z568, .ref z569])), (ou, .inl (cL, 1, .inr (.inl (vp_updL (fun _ => 0) (0 : Int32).toNatClampNeg (-1)))))] H := hP
  have hD : va_D A [(md, .inr (12, [.int 0, .int 1, .int 1, .ref q562, .ref q571, .ref q574, .ref q577, .ref q580, .ref q583, .ref q586, .int 0, .int (-1), .int 0, .int 0, .long 0, .ref q599, .ref q600, .ref q601, .ref q602])), (q562, .inr (13, [.int 0, .ref z565, .int 1, .int 1, .ref z566, .int 0, .int 0, .int 0, .ref z567, .int 0, .int 0, .int (-1), .int (-1), .int 0, .int (-1), .int 0, .ref z568, .ref z569])), (ou, .inl (cL, 1, .inr (.inl (vp_updL (fun _ => 0) (0 : Int32).toNatClampNeg (-1)))))] := hD
  refine W.widen (k := 138) (n := 124625) (by omega) (by omega) ?_
  refine lv_istore (lv' := [(5, .int 0), (4, .int 0), (3, .ref ou), (2, .ref md), (1, .ref dm), (0, .ref b)]) hx hb d_law_554 hl (by decide) rfl (fun ls hl => ?_)
  refine lv_aload_n hx hb d_law_556 rfl (lv_at hl 3 rfl) ?_
  refine lv_aload_n hx hb d_law_557 rfl (lv_at hl 5 rfl) ?_
  refine lv_iload hx hb d_law_558 (lv_at hl 1 rfl) ?_
  refine lv_iconst (v := 1) hx hb d_law_560 (by decide) ?_
  refine lv_iadd hx hb d_law_561 ?_
  refine wi_c (v := 1) (by decide) ?_
  refine va_sld hx hb hX hbl hbA hS (by unfold vp_in; decide) d_law_562 ?_
  refine wi_c (v := 3) (hx1) ?_
  refine wc_i (wr := [(ou, .inl (cL, 1, .inr (.inl (vp_updL (fun _ => 0) (0 : Int32).toNatClampNeg (-1)))))]) hC hP hD hS [0, 1] [2] rfl rfl (by decide) (by decide) (va_runV (As := [.int 3]) (rest := []) ⟨hx, hb, hml, hown, htw⟩ (c_Mabout_3 l D cI cL B _ md q562 z565 z566 z567 z568 z569 q571 q574 q577 q580 q583 q586 q599 q600 q601 q602) (cwV 1 htw gV_law_95 rfl rfl rfl (by decide +kernel) ⟨Nat.le_of_ble_eq_true rfl, Nat.le_of_ble_eq_true rfl⟩) (wC_preV (As := [.int 3]) hC hP hD hS [0, 1] (by decide) rfl (q0 := 0) rfl rfl) rfl rfl hl.1 rfl (lv_room (Nat.le_of_ble_eq_true rfl)) d_law_563 ⟨Nat.le_of_ble_eq_true rfl, Nat.le_of_ble_eq_true rfl⟩) (fun r1610 u1608 H locs hw1609 hP hD hS => ?_)
  obtain rfl : r1610 = (-1) := hw1609
  have hP : va_P D classes [(ou, .inl (cL, 1, .inr (.inl (vp_updL (fun _ => 0) (0 : Int32).toNatClampNeg (-1))))), (md, .inr (12, [.int 0, .int 1, .int 1, .ref q562, .ref q571, .ref q574, .ref q577, .ref q580, .ref q583, .ref q586, .int 0, .int (-1), .int 0, .int 0, .long 0, .ref q599, .ref q600, .ref q601, .ref q602]))] H := hP
  have hD : va_D A [(ou, .inl (cL, 1, .inr (.inl (vp_updL (fun _ => 0) (0 : Int32).toNatClampNeg (-1))))), (md, .inr (12, [.int 0, .int 1, .int 1, .ref q562, .ref q571, .ref q574, .ref q577, .ref q580, .ref q583, .ref q586, .int 0, .int (-1), .int 0, .int 0, .long 0, .ref q599, .ref q600, .ref q601, .ref q602]))] := hD
  refine W.widen (k := 138) (n := 124625) (by omega) (by omega) ?_
  refine lv_istore (lv' := [(6, .int (-1)), (5, .int 0), (4, .int 0), (3, .ref ou), (2, .ref md), (1, .ref dm), (0, .ref b)]) hx hb d_law_566 hl (by decide) rfl (fun ls hl => ?_)
  refine lv_aload_n hx hb d_law_568 rfl (lv_at hl 4 rfl) ?_
  refine wc_i (wr := [(ou, .inl (cL, 1, .inr (.inl (vp_updL (fun _ => 0) (0 : Int32).toNatClampNeg (-1)))))]) hC hP hD hS [1] [0] rfl rfl (by decide) (by decide) (va_runV (As := []) (rest := []) ⟨hx, hb, hml, hown, htw⟩ (c_thrown l D cI cL B _ md 0 1 1 q562 q571 q574 q577 q580 q583 q586 0 (-1) 0 0 0 q599 q600 q601 q602) (cwV 0 htw gV_law_65 rfl rfl rfl (by decide +kernel) ⟨Nat.le_of_ble_eq_true rfl, Nat.le_of_ble_eq_true rfl⟩) (wC_preV (As := []) hC hP hD hS [1] (by decide) rfl (q0 := 1) rfl rfl) rfl rfl hl.1 rfl (lv_room (Nat.le_of_ble_eq_true rfl)) d_law_569 ⟨Nat.le_of_ble_eq_true rfl, Nat.le_of_ble_eq_true rfl⟩) (fun r1613 u1611 H locs hw1612 hP hD hS => ?_)
  obtain rfl : r1613 = 0 := hw1612
  have hP : va_P D classes [(ou, .inl (cL, 1, .inr (.inl (vp_updL (fun _ => 0) (0 : Int32).toNatClampNeg (-1))))), (md, .inr (12, [.int 0, .int 1, .int 1, .ref q562, .ref q571, .ref q574, .ref q577, .ref q580, .ref q583, .ref q586, .int 0, .int (-1), .int 0, .int 0, .long 0, .ref q599, .ref q600, .ref q601, .ref q602]))] H := hP
  have hD : va_D A [(ou, .inl (cL, 1, .inr (.inl (vp_updL (fun _ => 0) (0 : Int32).toNatClampNeg (-1))))), (md, .inr (12, [.int 0, .int 1, .int 1, .ref q562, .ref q571, .ref q574, .ref q577, .ref q580, .ref q583, .ref q586, .int 0, .int (-1), .int 0, .int 0, .long 0, .ref q599, .ref q600, .ref q601, .ref q602]))] := hD
  refine W.widen (k := 138) (n := 124625) (by omega) (by omega) ?_
  refine lv_iload hx hb d_law_572 (lv_at hl 1 rfl) ?_
  refine lv_icmp_eq (tgt := 579) hx hb d_law_574 (by decide) (fun c_1614 => ?_) (fun c_1614 => absurd c_1614 (by decide))
  refine lv_iload hx hb d_law_579 (lv_at hl 1 rfl) ?_
  refine lv_if_ne (tgt := 596) hx hb d_law_581 (by decide) (fun c_1615 => absurd c_1615 (by decide)) (fun c_1615 => ?_)
  refine lv_aload_n hx hb d_law_584 rfl (lv_at hl 3 rfl) ?_
  refine lv_iconst (v := 0) hx hb d_law_585 (by decide) ?_
  refine va_lald hx hb hC.1 hP 0 1 rfl rfl (by unfold vp_in; decide) d_law_586 ?_
  refine wl_c (v := (-1)) updL_0 ?_
  refine lv_iload hx hb d_law_587 (lv_at hl 0 rfl) ?_
  refine lv_i2l (v := (-1)) hx hb d_law_589 (by decide) ?_
  refine W.lcmp hx hb d_law_590 ?_
  refine wi_c (v := 0) (by decide) ?_
  refine lv_if_eq (tgt := 596) hx hb d_law_591 (by decide) (fun c_1616 => ?_) (fun c_1616 => absurd c_1616 (by decide))
  refine lv_goto (tgt := 847) hx hb d_law_596 (by decide) ?_
  refine W.widen (k := 600002) (n := 7302232) (by omega) (by omega) ?_
  exact kk _ _ _ hS (lv_sub hl [2, 6] rfl)

set_option maxHeartbeats 4000000 in
set_option maxRecDepth 100000 in
theorem lc_about_4 {p : Program} {l : Launch} {e : Env} {s : State} {m : MethodId} {args : Array Value} {below : List Frame} {meth : Method} {c : Code} {Q : State → Prop} {A : Nat → Prop} {b : Nat} {xs : Nat → Int32} {H : Heap} {locs : List Loc} {ls : Array Slot} (hfl : l.stackTraces = false) (D : va_G) (cI cL : ClassId) (B : Nat) (hx : p.tables.exec = Jvm.exec) (hb : c.code = code) (hml : c.maxLocals = 7) (hown : s.vm.findClass "DrawingMachineLaw" = some m.cls) (htw : ∀ w ∈ tw, w.before args s = true) (hC : wC D cI cL B A s) (hX : va_X b 6 xs s s.heap) (hbl : b < s.heap.size) (hbA : ¬ A b) (dm : Nat) (md : Nat) (ou : Nat) (q83 : Nat) (q84 : Nat) (z87 : Nat) (q89 : Nat) (q95 : Nat) (z98 : Nat) (z99 : Nat) (z100 : Nat) (q101 : Nat) (z104 : Nat) (z105 : Nat) (z106 : Nat) (q107 : Nat) (z110 : Nat) (z111 : Nat) (z112 : Nat) (z113 : Nat) (z114 : Nat) (z115 : Nat) (q116 : Nat) (q120 : Nat) (q124 : Nat) (q562 : Nat) (z565 : Nat) (z566 : Nat) (z567 : Nat) (z568 : Nat) (z569 : Nat) (q571 : Nat) (q574 : Nat) (q577 : Nat) (q580 : Nat) (q583 : Nat) (q586 : Nat) (q599 : Nat) (q600 : Nat) (q601 : Nat) (q602 : Nat) (hx1 : xs 1 = 4) (kk : ∀ (H : Heap) (locs : List Loc) (ls : Array Slot), va_S A s.heap H locs → lv_has ls 7 [(4, .int 0), (0, .ref b)] → W p l e room_1 s m args below meth c H locs 600002 7302232 Q (F0 m 847 ls [])) (hP : va_P D classes [(dm, .inr (0, [.ref q83, .ref q84, .ref q89, .ref q95, .ref q101, .ref q107, .ref q116, .ref q120, .ref q124])), (q95, .inr (3, [.ref z98, .int 0, .int 0, .int 0, .int 0, .int 0, .int (-1), .int (-1), .int 0, .long 0, .ref q83, .ref z99, .ref z100, .int 0, .int 0])), (q107, .inr (5, [.ref z110, .ref z111, .int (-1), .ref z87, .ref q89, .ref z112, .ref z113, .ref z114, .ref z115])), (q101, .inr (4, [.int 0, .int (-1), .ref z104, .ref z105, .ref z106, .int 0, .long 0])), (ou, .inl (cL, 1, .inr (.inl (fun _ => 0)))), (md, .inr (12, [.int 0, .int 1, .int 1, .ref q562, .ref q571, .ref q574, .ref q577, .ref q580, .ref q583, .ref q586, .int 0, .int (-1), .int 0, .int 0, .long 0, .ref q599, .ref q600, .ref q601, .ref q602])), (q562, .inr (13, [.int 0, .ref z565, .int 1, .int 1, .ref z566, .int 0, .int 0, .int 0, .ref z567, .int 0, .int 0, .int (-1), .int (-1), .int 0, .int (-1), .int 0, .ref z568, .ref z569]))] H) (hD : va_D A [(dm, .inr (0, [.ref q83, .ref q84, .ref q89, .ref q95, .ref q101, .ref q107, .ref q116, .ref q120, .ref q124])), (q95, .inr (3, [.ref z98, .int 0, .int 0, .int 0, .int 0, .int 0, .int (-1), .int (-1), .int 0, .long 0, .ref q83, .ref z99, .ref z100, .int 0, .int 0])), (q107, .inr (5, [.ref z110, .ref z111, .int (-1), .ref z87, .ref q89, .ref z112, .ref z113, .ref z114, .ref z115])), (q101, .inr (4, [.int 0, .int (-1), .ref z104, .ref z105, .ref z106, .int 0, .long 0])), (ou, .inl (cL, 1, .inr (.inl (fun _ => 0)))), (md, .inr (12, [.int 0, .int 1, .int 1, .ref q562, .ref q571, .ref q574, .ref q577, .ref q580, .ref q583, .ref q586, .int 0, .int (-1), .int 0, .int 0, .long 0, .ref q599, .ref q600, .ref q601, .ref q602])), (q562, .inr (13, [.int 0, .ref z565, .int 1, .int 1, .ref z566, .int 0, .int 0, .int 0, .ref z567, .int 0, .int 0, .int (-1), .int (-1), .int 0, .int (-1), .int 0, .ref z568, .ref z569]))]) (hS : va_S A s.heap H locs) (hl : lv_has ls 7 [(4, .int 0), (3, .ref ou), (2, .ref md), (1, .ref dm), (0, .ref b)]) : W p l e room_1 s m args below meth c H locs 138 124625 Q (F0 m 543 ls []) := by
  refine lv_aload_n hx hb d_law_543 rfl (lv_at hl 3 rfl) ?_
  refine lv_aload_n hx hb d_law_544 rfl (lv_at hl 4 rfl) ?_
  refine lv_iload hx hb d_law_545 (lv_at hl 0 rfl) ?_
  refine lv_iconst (v := 1) hx hb d_law_547 (by decide) ?_
  refine lv_iadd hx hb d_law_548 ?_
  refine wi_c (v := 1) (by decide) ?_
  refine va_sld hx hb hX hbl hbA hS (by unfold vp_in; decide) d_law_549 ?_
  refine wi_c (v := 4) (hx1) ?_
  refine lv_aload_n hx hb d_law_550 rfl (lv_at hl 1 rfl) ?_
  refine wc_i (wr := [(md, .inr (12, [.int 0, .int 1, .int 1, .ref q562, .ref q571, .ref q574, .ref q577, .ref q580, .ref q583, .ref q586, .int 0, .int (-1), .int 0, .int 0, .long 0, .ref q599, .ref q600, .ref q601, .ref q602])), (q562, .inr (13, [.int 0, .ref z565, .int 1, .int 1, .ref z566, .int 0, .int 0, .int 0, .ref z567, .int 0, .int 0, .int (-1), .int (-1), .int 0, .int (-1), .int 0, .ref z568, .ref z569]))]) hC hP hD hS [0, 1, 2, 3, 4] [5, 6] rfl rfl (by decide) (by decide) (tq_runSW (n := 3) (hh := [(0, 9, 12, 13)]) (As := [.ref dm, .int 4, .ref ou]) (rest := []) ⟨hx, hb, hml, hown, htw⟩ (c_habout_4 l D cI cL B _ dm q83 q84 z87 q89 q95 z98 z99 z100 q101 z104 z105 z106 q107 z110 z111 z112 z113 z114 z115 q116 q120 q124 ou) htw (tw_goodW (fun _ h => h) k789) rfl rfl rfl ⟨Nat.le_of_ble_eq_true rfl, Nat.le_of_ble_eq_true rfl⟩ (htw _ k237) (by decide +kernel) (htw _ k858) (htw _ k859) (wC_pre hC hP hD hS [0, 1, 2, 3, 4] (by decide) rfl) rfl rfl hl.1 rfl (lv_room (Nat.le_of_ble_eq_true rfl)) d_law_551 ⟨Nat.le_of_ble_eq_true rfl, Nat.le_of_ble_eq_true rfl⟩) (fun r1619 u1617 H locs hw1618 hP hD hS => ?_)
  obtain rfl : r1619 = 0 := hw1618
  have hP : va_P D classes [(md, .inr (12, [.int 0, .int 1, .int 1, .ref q562, .ref q571, .ref q574, .ref q577, .ref q580, .ref q583, .ref q586, .int 0, .int (-1), .int 0, .int 0, .long 0, .ref q599, .ref q600, .ref q601, .ref q602])), (q562, .inr (13, [.int 0, .ref z565, .int 1, .int 1, .ref z566, .int 0, .int 0, .int 0, .ref z567, .int 0, .int 0, .int (-1), .int (-1), .int 0, .int (-1), .int 0, .ref z568, .ref z569])), (ou, .inl (cL, 1, .inr (.inl (vp_updL (fun _ => 0) (0 : Int32).toNatClampNeg 0))))] H := hP
  have hD : va_D A [(md, .inr (12, [.int 0, .int 1, .int 1, .ref q562, .ref q571, .ref q574, .ref q577, .ref q580, .ref q583, .ref q586, .int 0, .int (-1), .int 0, .int 0, .long 0, .ref q599, .ref q600, .ref q601, .ref q602])), (q562, .inr (13, [.int 0, .ref z565, .int 1, .int 1, .ref z566, .int 0, .int 0, .int 0, .ref z567, .int 0, .int 0, .int (-1), .int (-1), .int 0, .int (-1), .int 0, .ref z568, .ref z569])), (ou, .inl (cL, 1, .inr (.inl (vp_updL (fun _ => 0) (0 : Int32).toNatClampNeg 0))))] := hD
  refine W.widen (k := 138) (n := 124625) (by omega) (by omega) ?_
  refine lv_istore (lv' := [(5, .int 0), (4, .int 0), (3, .ref ou), (2, .ref md), (1, .ref dm), (0, .ref b)]) hx hb d_law_554 hl (by decide) rfl (fun ls hl => ?_)
  refine lv_aload_n hx hb d_law_556 rfl (lv_at hl 3 rfl) ?_
  refine lv_aload_n hx hb d_law_557 rfl (lv_at hl 5 rfl) ?_
  refine lv_iload hx hb d_law_558 (lv_at hl 1 rfl) ?_
  refine lv_iconst (v := 1) hx hb d_law_560 (by decide) ?_
  refine lv_iadd hx hb d_law_561 ?_
  refine wi_c (v := 1) (by decide) ?_
  refine va_sld hx hb hX hbl hbA hS (by unfold vp_in; decide) d_law_562 ?_
  refine wi_c (v := 4) (hx1) ?_
  refine wc_i (wr := [(ou, .inl (cL, 1, .inr (.inl (vp_updL (fun _ => 0) (0 : Int32).toNatClampNeg 0))))]) hC hP hD hS [0, 1] [2] rfl rfl (by decide) (by decide) (va_runV (As := [.int 4]) (rest := []) ⟨hx, hb, hml, hown, htw⟩ (c_Mabout_4 l D cI cL B _ md q562 z565 z566 z567 z568 z569 q571 q574 q577 q580 q583 q586 q599 q600 q601 q602) (cwV 1 htw gV_law_95 rfl rfl rfl (by decide +kernel) ⟨Nat.le_of_ble_eq_true rfl, Nat.le_of_ble_eq_true rfl⟩) (wC_preV (As := [.int 4]) hC hP hD hS [0, 1] (by decide) rfl (q0 := 0) rfl rfl) rfl rfl hl.1 rfl (lv_room (Nat.le_of_ble_eq_true rfl)) d_law_563 ⟨Nat.le_of_ble_eq_true rfl, Nat.le_of_ble_eq_true rfl⟩) (fun r1622 u1620 H locs hw1621 hP hD hS => ?_)
  obtain rfl : r1622 = 0 := hw1621
  have hP : va_P D classes [(ou, .inl (cL, 1, .inr (.inl (vp_updL (fun _ => 0) (0 : Int32).toNatClampNeg 0)))), (md, .inr (12, [.int 0, .int 1, .int 1, .ref q562, .ref q571, .ref q574, .ref q577, .ref q580, .ref q583, .ref q586, .int 0, .int (-1), .int 0, .int 0, .long 0, .ref q599, .ref q600, .ref q601, .ref q602]))] H := hP
  have hD : va_D A [(ou, .inl (cL, 1, .inr (.inl (vp_updL (fun _ => 0) (0 : Int32).toNatClampNeg 0)))), (md, .inr (12, [.int 0, .int 1, .int 1, .ref q562, .ref q571, .ref q574, .ref q577, .ref q580, .ref q583, .ref q586, .int 0, .int (-1), .int 0, .int 0, .long 0, .ref q599, .ref q600, .ref q601, .ref q602]))] := hD
  refine W.widen (k := 138) (n := 124625) (by omega) (by omega) ?_
  refine lv_istore (lv' := [(6, .int 0), (5, .int 0), (4, .int 0), (3, .ref ou), (2, .ref md), (1, .ref dm), (0, .ref b)]) hx hb d_law_566 hl (by decide) rfl (fun ls hl => ?_)
  refine lv_aload_n hx hb d_law_568 rfl (lv_at hl 4 rfl) ?_
  refine wc_i (wr := [(ou, .inl (cL, 1, .inr (.inl (vp_updL (fun _ => 0) (0 : Int32).toNatClampNeg 0))))]) hC hP hD hS [1] [0] rfl rfl (by decide) (by decide) (va_runV (As := []) (rest := []) ⟨hx, hb, hml, hown, htw⟩ (c_thrown l D cI cL B _ md 0 1 1 q562 q571 q574 q577 q580 q583 q586 0 (-1) 0 0 0 q599 q600 q601 q602) (cwV 0 htw gV_law_65 rfl rfl rfl (by decide +kernel) ⟨Nat.le_of_ble_eq_true rfl, Nat.le_of_ble_eq_true rfl⟩) (wC_preV (As := []) hC hP hD hS [1] (by decide) rfl (q0 := 1) rfl rfl) rfl rfl hl.1 rfl (lv_room (Nat.le_of_ble_eq_true rfl)) d_law_569 ⟨Nat.le_of_ble_eq_true rfl, Nat.le_of_ble_eq_true rfl⟩) (fun r1625 u1623 H locs hw1624 hP hD hS => ?_)
  obtain rfl : r1625 = 0 := hw1624
  have hP : va_P D classes [(ou, .inl (cL, 1, .inr (.inl (vp_updL (fun _ => 0) (0 : Int32).toNatClampNeg 0)))), (md, .inr (12, [.int 0, .int 1, .int 1, .ref q562, .ref q571, .ref q574, .ref q577, .ref q580, .ref q583, .ref q586, .int 0, .int (-1), .int 0, .int 0, .long 0, .ref q599, .ref q600, .ref q601, .ref q602]))] H := hP
  have hD : va_D A [(ou, .inl (cL, 1, .inr (.inl (vp_updL (fun _ => 0) (0 : Int32).toNatClampNeg 0)))), (md, .inr (12, [.int 0, .int 1, .int 1, .ref q562, .ref q571, .ref q574, .ref q577, .ref q580, .ref q583, .ref q586, .int 0, .int (-1), .int 0, .int 0, .long 0, .ref q599, .ref q600, .ref q601, .ref q602]))] := hD
  refine W.widen (k := 138) (n := 124625) (by omega) (by omega) ?_
  refine lv_iload hx hb d_law_572 (lv_at hl 1 rfl) ?_
  refine lv_icmp_eq (tgt := 579) hx hb d_law_574 (by decide) (fun c_1626 => ?_) (fun c_1626 => absurd c_1626 (by decide))
  refine lv_iload hx hb d_law_579 (lv_at hl 1 rfl) ?_
  refine lv_if_ne (tgt := 596) hx hb d_law_581 (by decide) (fun c_1627 => absurd c_1627 (by decide)) (fun c_1627 => ?_)
  refine lv_aload_n hx hb d_law_584 rfl (lv_at hl 3 rfl) ?_
  refine lv_iconst (v := 0) hx hb d_law_585 (by decide) ?_
  refine va_lald hx hb hC.1 hP 0 1 rfl rfl (by unfold vp_in; decide) d_law_586 ?_
  refine wl_c (v := 0) updL_0 ?_
  refine lv_iload hx hb d_law_587 (lv_at hl 0 rfl) ?_
  refine lv_i2l (v := 0) hx hb d_law_589 (by decide) ?_
  refine W.lcmp hx hb d_law_590 ?_
  refine wi_c (v := 0) (by decide) ?_
  refine lv_if_eq (tgt := 596) hx hb d_law_591 (by decide) (fun c_1628 => ?_) (fun c_1628 => absurd c_1628 (by decide))
  refine lv_goto (tgt := 847) hx hb d_law_596 (by decide) ?_
  refine W.widen (k := 600002) (n := 7302232) (by omega) (by omega) ?_
  exact kk _ _ _ hS (lv_sub hl [2, 6] rfl)

set_option maxHeartbeats 4000000 in
set_option maxRecDepth 100000 in
theorem lc_about_5 {p : Program} {l : Launch} {e : Env} {s : State} {m : MethodId} {args : Array Value} {below : List Frame} {meth : Method} {c : Code} {Q : State → Prop} {A : Nat → Prop} {b : Nat} {xs : Nat → Int32} {H : Heap} {locs : List Loc} {ls : Array Slot} (hfl : l.stackTraces = false) (D : va_G) (cI cL : ClassId) (B : Nat) (hx : p.tables.exec = Jvm.exec) (hb : c.code = code) (hml : c.maxLocals = 7) (hown : s.vm.findClass "DrawingMachineLaw" = some m.cls) (htw : ∀ w ∈ tw, w.before args s = true) (hC : wC D cI cL B A s) (hX : va_X b 6 xs s s.heap) (hbl : b < s.heap.size) (hbA : ¬ A b) (dm : Nat) (md : Nat) (ou : Nat) (q83 : Nat) (q84 : Nat) (z87 : Nat) (q89 : Nat) (q95 : Nat) (z98 : Nat) (z99 : Nat) (z100 : Nat) (q101 : Nat) (z104 : Nat) (z105 : Nat) (z106 : Nat) (q107 : Nat) (z110 : Nat) (z111 : Nat) (z112 : Nat) (z113 : Nat) (z114 : Nat) (z115 : Nat) (q116 : Nat) (q120 : Nat) (q124 : Nat) (q562 : Nat) (z565 : Nat) (z566 : Nat) (z567 : Nat) (z568 : Nat) (z569 : Nat) (q571 : Nat) (q574 : Nat) (q577 : Nat) (q580 : Nat) (q583 : Nat) (q586 : Nat) (q599 : Nat) (q600 : Nat) (q601 : Nat) (q602 : Nat) (hx1 : xs 1 = 5) (kk : ∀ (H : Heap) (locs : List Loc) (ls : Array Slot), va_S A s.heap H locs → lv_has ls 7 [(4, .int 0), (0, .ref b)] → W p l e room_1 s m args below meth c H locs 600002 7302232 Q (F0 m 847 ls [])) (hP : va_P D classes [(dm, .inr (0, [.ref q83, .ref q84, .ref q89, .ref q95, .ref q101, .ref q107, .ref q116, .ref q120, .ref q124])), (q95, .inr (3, [.ref z98, .int 0, .int 0, .int 0, .int 0, .int 0, .int (-1), .int (-1), .int 0, .long 0, .ref q83, .ref z99, .ref z100, .int 0, .int 0])), (q107, .inr (5, [.ref z110, .ref z111, .int (-1), .ref z87, .ref q89, .ref z112, .ref z113, .ref z114, .ref z115])), (q101, .inr (4, [.int 0, .int (-1), .ref z104, .ref z105, .ref z106, .int 0, .long 0])), (ou, .inl (cL, 1, .inr (.inl (fun _ => 0)))), (md, .inr (12, [.int 0, .int 1, .int 1, .ref q562, .ref q571, .ref q574, .ref q577, .ref q580, .ref q583, .ref q586, .int 0, .int (-1), .int 0, .int 0, .long 0, .ref q599, .ref q600, .ref q601, .ref q602])), (q562, .inr (13, [.int 0, .ref z565, .int 1, .int 1, .ref z566, .int 0, .int 0, .int 0, .ref z567, .int 0, .int 0, .int (-1), .int (-1), .int 0, .int (-1), .int 0, .ref z568, .ref z569]))] H) (hD : va_D A [(dm, .inr (0, [.ref q83, .ref q84, .ref q89, .ref q95, .ref q101, .ref q107, .ref q116, .ref q120, .ref q124])), (q95, .inr (3, [.ref z98, .int 0, .int 0, .int 0, .int 0, .int 0, .int (-1), .int (-1), .int 0, .long 0, .ref q83, .ref z99, .ref z100, .int 0, .int 0])), (q107, .inr (5, [.ref z110, .ref z111, .int (-1), .ref z87, .ref q89, .ref z112, .ref z113, .ref z114, .ref z115])), (q101, .inr (4, [.int 0, .int (-1), .ref z104, .ref z105, .ref z106, .int 0, .long 0])), (ou, .inl (cL, 1, .inr (.inl (fun _ => 0)))), (md, .inr (12, [.int 0, .int 1, .int 1, .ref q562, .ref q571, .ref q574, .ref q577, .ref q580, .ref q583, .ref q586, .int 0, .int (-1), .int 0, .int 0, .long 0, .ref q599, .ref q600, .ref q601, .ref q602])), (q562, .inr (13, [.int 0, .ref z565, .int 1, .int 1, .ref z566, .int 0, .int 0, .int 0, .ref z567, .int 0, .int 0, .int (-1), .int (-1), .int 0, .int (-1), .int 0, .ref z568, .ref z569]))]) (hS : va_S A s.heap H locs) (hl : lv_has ls 7 [(4, .int 0), (3, .ref ou), (2, .ref md), (1, .ref dm), (0, .ref b)]) : W p l e room_1 s m args below meth c H locs 138 124625 Q (F0 m 543 ls []) := by
  refine lv_aload_n hx hb d_law_543 rfl (lv_at hl 3 rfl) ?_
  refine lv_aload_n hx hb d_law_544 rfl (lv_at hl 4 rfl) ?_
  refine lv_iload hx hb d_law_545 (lv_at hl 0 rfl) ?_
  refine lv_iconst (v := 1) hx hb d_law_547 (by decide) ?_
  refine lv_iadd hx hb d_law_548 ?_
  refine wi_c (v := 1) (by decide) ?_
  refine va_sld hx hb hX hbl hbA hS (by unfold vp_in; decide) d_law_549 ?_
  refine wi_c (v := 5) (hx1) ?_
  refine lv_aload_n hx hb d_law_550 rfl (lv_at hl 1 rfl) ?_
  refine wc_i (wr := [(md, .inr (12, [.int 0, .int 1, .int 1, .ref q562, .ref q571, .ref q574, .ref q577, .ref q580, .ref q583, .ref q586, .int 0, .int (-1), .int 0, .int 0, .long 0, .ref q599, .ref q600, .ref q601, .ref q602])), (q562, .inr (13, [.int 0, .ref z565, .int 1, .int 1, .ref z566, .int 0, .int 0, .int 0, .ref z567, .int 0, .int 0, .int (-1), .int (-1), .int 0, .int (-1), .int 0, .ref z568, .ref z569]))]) hC hP hD hS [0, 1, 2, 3, 4] [5, 6] rfl rfl (by decide) (by decide) (tq_runSW (n := 3) (hh := [(0, 9, 12, 13)]) (As := [.ref dm, .int 5, .ref ou]) (rest := []) ⟨hx, hb, hml, hown, htw⟩ (c_habout_5 l D cI cL B _ dm q83 q84 z87 q89 q95 z98 z99 z100 q101 z104 z105 z106 q107 z110 z111 z112 z113 z114 z115 q116 q120 q124 ou) htw (tw_goodW (fun _ h => h) k789) rfl rfl rfl ⟨Nat.le_of_ble_eq_true rfl, Nat.le_of_ble_eq_true rfl⟩ (htw _ k237) (by decide +kernel) (htw _ k858) (htw _ k859) (wC_pre hC hP hD hS [0, 1, 2, 3, 4] (by decide) rfl) rfl rfl hl.1 rfl (lv_room (Nat.le_of_ble_eq_true rfl)) d_law_551 ⟨Nat.le_of_ble_eq_true rfl, Nat.le_of_ble_eq_true rfl⟩) (fun r1631 u1629 H locs hw1630 hP hD hS => ?_)
  obtain rfl : r1631 = 0 := hw1630
  have hP : va_P D classes [(md, .inr (12, [.int 0, .int 1, .int 1, .ref q562, .ref q571, .ref q574, .ref q577, .ref q580, .ref q583, .ref q586, .int 0, .int (-1), .int 0, .int 0, .long 0, .ref q599, .ref q600, .ref q601, .ref q602])), (q562, .inr (13, [.int 0, .ref z565, .int 1, .int 1, .ref z566, .int 0, .int 0, .int 0, .ref z567, .int 0, .int 0, .int (-1), .int (-1), .int 0, .int (-1), .int 0, .ref z568, .ref z569])), (ou, .inl (cL, 1, .inr (.inl (vp_updL (fun _ => 0) (0 : Int32).toNatClampNeg (-1)))))] H := hP
  have hD : va_D A [(md, .inr (12, [.int 0, .int 1, .int 1, .ref q562, .ref q571, .ref q574, .ref q577, .ref q580, .ref q583, .ref q586, .int 0, .int (-1), .int 0, .int 0, .long 0, .ref q599, .ref q600, .ref q601, .ref q602])), (q562, .inr (13, [.int 0, .ref z565, .int 1, .int 1, .ref z566, .int 0, .int 0, .int 0, .ref z567, .int 0, .int 0, .int (-1), .int (-1), .int 0, .int (-1), .int 0, .ref z568, .ref z569])), (ou, .inl (cL, 1, .inr (.inl (vp_updL (fun _ => 0) (0 : Int32).toNatClampNeg (-1)))))] := hD
  refine W.widen (k := 138) (n := 124625) (by omega) (by omega) ?_
  refine lv_istore (lv' := [(5, .int 0), (4, .int 0), (3, .ref ou), (2, .ref md), (1, .ref dm), (0, .ref b)]) hx hb d_law_554 hl (by decide) rfl (fun ls hl => ?_)
  refine lv_aload_n hx hb d_law_556 rfl (lv_at hl 3 rfl) ?_
  refine lv_aload_n hx hb d_law_557 rfl (lv_at hl 5 rfl) ?_
  refine lv_iload hx hb d_law_558 (lv_at hl 1 rfl) ?_
  refine lv_iconst (v := 1) hx hb d_law_560 (by decide) ?_
  refine lv_iadd hx hb d_law_561 ?_
  refine wi_c (v := 1) (by decide) ?_
  refine va_sld hx hb hX hbl hbA hS (by unfold vp_in; decide) d_law_562 ?_
  refine wi_c (v := 5) (hx1) ?_
  refine wc_i (wr := [(ou, .inl (cL, 1, .inr (.inl (vp_updL (fun _ => 0) (0 : Int32).toNatClampNeg (-1)))))]) hC hP hD hS [0, 1] [2] rfl rfl (by decide) (by decide) (va_runV (As := [.int 5]) (rest := []) ⟨hx, hb, hml, hown, htw⟩ (c_Mabout_5 l D cI cL B _ md q562 z565 z566 z567 z568 z569 q571 q574 q577 q580 q583 q586 q599 q600 q601 q602) (cwV 1 htw gV_law_95 rfl rfl rfl (by decide +kernel) ⟨Nat.le_of_ble_eq_true rfl, Nat.le_of_ble_eq_true rfl⟩) (wC_preV (As := [.int 5]) hC hP hD hS [0, 1] (by decide) rfl (q0 := 0) rfl rfl) rfl rfl hl.1 rfl (lv_room (Nat.le_of_ble_eq_true rfl)) d_law_563 ⟨Nat.le_of_ble_eq_true rfl, Nat.le_of_ble_eq_true rfl⟩) (fun r1634 u1632 H locs hw1633 hP hD hS => ?_)
  obtain rfl : r1634 = (-1) := hw1633
  have hP : va_P D classes [(ou, .inl (cL, 1, .inr (.inl (vp_updL (fun _ => 0) (0 : Int32).toNatClampNeg (-1))))), (md, .inr (12, [.int 0, .int 1, .int 1, .ref q562, .ref q571, .ref q574, .ref q577, .ref q580, .ref q583, .ref q586, .int 0, .int (-1), .int 0, .int 0, .long 0, .ref q599, .ref q600, .ref q601, .ref q602]))] H := hP
  have hD : va_D A [(ou, .inl (cL, 1, .inr (.inl (vp_updL (fun _ => 0) (0 : Int32).toNatClampNeg (-1))))), (md, .inr (12, [.int 0, .int 1, .int 1, .ref q562, .ref q571, .ref q574, .ref q577, .ref q580, .ref q583, .ref q586, .int 0, .int (-1), .int 0, .int 0, .long 0, .ref q599, .ref q600, .ref q601, .ref q602]))] := hD
  refine W.widen (k := 138) (n := 124625) (by omega) (by omega) ?_
  refine lv_istore (lv' := [(6, .int (-1)), (5, .int 0), (4, .int 0), (3, .ref ou), (2, .ref md), (1, .ref dm), (0, .ref b)]) hx hb d_law_566 hl (by decide) rfl (fun ls hl => ?_)
  refine lv_aload_n hx hb d_law_568 rfl (lv_at hl 4 rfl) ?_
  refine wc_i (wr := [(ou, .inl (cL, 1, .inr (.inl (vp_updL (fun _ => 0) (0 : Int32).toNatClampNeg (-1)))))]) hC hP hD hS [1] [0] rfl rfl (by decide) (by decide) (va_runV (As := []) (rest := []) ⟨hx, hb, hml, hown, htw⟩ (c_thrown l D cI cL B _ md 0 1 1 q562 q571 q574 q577 q580 q583 q586 0 (-1) 0 0 0 q599 q600 q601 q602) (cwV 0 htw gV_law_65 rfl rfl rfl (by decide +kernel) ⟨Nat.le_of_ble_eq_true rfl, Nat.le_of_ble_eq_true rfl⟩) (wC_preV (As := []) hC hP hD hS [1] (by decide) rfl (q0 := 1) rfl rfl) rfl rfl hl.1 rfl (lv_room (Nat.le_of_ble_eq_true rfl)) d_law_569 ⟨Nat.le_of_ble_eq_true rfl, Nat.le_of_ble_eq_true rfl⟩) (fun r1637 u1635 H locs hw1636 hP hD hS => ?_)
  obtain rfl : r1637 = 0 := hw1636
  have hP : va_P D classes [(ou, .inl (cL, 1, .inr (.inl (vp_updL (fun _ => 0) (0 : Int32).toNatClampNeg (-1))))), (md, .inr (12, [.int 0, .int 1, .int 1, .ref q562, .ref q571, .ref q574, .ref q577, .ref q580, .ref q583, .ref q586, .int 0, .int (-1), .int 0, .int 0, .long 0, .ref q599, .ref q600, .ref q601, .ref q602]))] H := hP
  have hD : va_D A [(ou, .inl (cL, 1, .inr (.inl (vp_updL (fun _ => 0) (0 : Int32).toNatClampNeg (-1))))), (md, .inr (12, [.int 0, .int 1, .int 1, .ref q562, .ref q571, .ref q574, .ref q577, .ref q580, .ref q583, .ref q586, .int 0, .int (-1), .int 0, .int 0, .long 0, .ref q599, .ref q600, .ref q601, .ref q602]))] := hD
  refine W.widen (k := 138) (n := 124625) (by omega) (by omega) ?_
  refine lv_iload hx hb d_law_572 (lv_at hl 1 rfl) ?_
  refine lv_icmp_eq (tgt := 579) hx hb d_law_574 (by decide) (fun c_1638 => ?_) (fun c_1638 => absurd c_1638 (by decide))
  refine lv_iload hx hb d_law_579 (lv_at hl 1 rfl) ?_
  refine lv_if_ne (tgt := 596) hx hb d_law_581 (by decide) (fun c_1639 => absurd c_1639 (by decide)) (fun c_1639 => ?_)
  refine lv_aload_n hx hb d_law_584 rfl (lv_at hl 3 rfl) ?_
  refine lv_iconst (v := 0) hx hb d_law_585 (by decide) ?_
  refine va_lald hx hb hC.1 hP 0 1 rfl rfl (by unfold vp_in; decide) d_law_586 ?_
  refine wl_c (v := (-1)) updL_0 ?_
  refine lv_iload hx hb d_law_587 (lv_at hl 0 rfl) ?_
  refine lv_i2l (v := (-1)) hx hb d_law_589 (by decide) ?_
  refine W.lcmp hx hb d_law_590 ?_
  refine wi_c (v := 0) (by decide) ?_
  refine lv_if_eq (tgt := 596) hx hb d_law_591 (by decide) (fun c_1640 => ?_) (fun c_1640 => absurd c_1640 (by decide))
  refine lv_goto (tgt := 847) hx hb d_law_596 (by decide) ?_
  refine W.widen (k := 600002) (n := 7302232) (by omega) (by omega) ?_
  exact kk _ _ _ hS (lv_sub hl [2, 6] rfl)

set_option maxHeartbeats 4000000 in
set_option maxRecDepth 100000 in
theorem lc_about_6 {p : Program} {l : Launch} {e : Env} {s : State} {m : MethodId} {args : Array Value} {below : List Frame} {meth : Method} {c : Code} {Q : State → Prop} {A : Nat → Prop} {b : Nat} {xs : Nat → Int32} {H : Heap} {locs : List Loc} {ls : Array Slot} (hfl : l.stackTraces = false) (D : va_G) (cI cL : ClassId) (B : Nat) (hx : p.tables.exec = Jvm.exec) (hb : c.code = code) (hml : c.maxLocals = 7) (hown : s.vm.findClass "DrawingMachineLaw" = some m.cls) (htw : ∀ w ∈ tw, w.before args s = true) (hC : wC D cI cL B A s) (hX : va_X b 6 xs s s.heap) (hbl : b < s.heap.size) (hbA : ¬ A b) (dm : Nat) (md : Nat) (ou : Nat) (q83 : Nat) (q84 : Nat) (z87 : Nat) (q89 : Nat) (q95 : Nat) (z98 : Nat) (z99 : Nat) (z100 : Nat) (q101 : Nat) (z104 : Nat) (z105 : Nat) (z106 : Nat) (q107 : Nat) (z110 : Nat) (z111 : Nat) (z112 : Nat) (z113 : Nat) (z114 : Nat) (z115 : Nat) (q116 : Nat) (q120 : Nat) (q124 : Nat) (q562 : Nat) (z565 : Nat) (z566 : Nat) (z567 : Nat) (z568 : Nat) (z569 : Nat) (q571 : Nat) (q574 : Nat) (q577 : Nat) (q580 : Nat) (q583 : Nat) (q586 : Nat) (q599 : Nat) (q600 : Nat) (q601 : Nat) (q602 : Nat) (hx1 : xs 1 = 6) (kk : ∀ (H : Heap) (locs : List Loc) (ls : Array Slot), va_S A s.heap H locs → lv_has ls 7 [(4, .int 0), (0, .ref b)] → W p l e room_1 s m args below meth c H locs 600002 7302232 Q (F0 m 847 ls [])) (hP : va_P D classes [(dm, .inr (0, [.ref q83, .ref q84, .ref q89, .ref q95, .ref q101, .ref q107, .ref q116, .ref q120, .ref q124])), (q95, .inr (3, [.ref z98, .int 0, .int 0, .int 0, .int 0, .int 0, .int (-1), .int (-1), .int 0, .long 0, .ref q83, .ref z99, .ref z100, .int 0, .int 0])), (q107, .inr (5, [.ref z110, .ref z111, .int (-1), .ref z87, .ref q89, .ref z112, .ref z113, .ref z114, .ref z115])), (q101, .inr (4, [.int 0, .int (-1), .ref z104, .ref z105, .ref z106, .int 0, .long 0])), (ou, .inl (cL, 1, .inr (.inl (fun _ => 0)))), (md, .inr (12, [.int 0, .int 1, .int 1, .ref q562, .ref q571, .ref q574, .ref q577, .ref q580, .ref q583, .ref q586, .int 0, .int (-1), .int 0, .int 0, .long 0, .ref q599, .ref q600, .ref q601, .ref q602])), (q562, .inr (13, [.int 0, .ref z565, .int 1, .int 1, .ref z566, .int 0, .int 0, .int 0, .ref z567, .int 0, .int 0, .int (-1), .int (-1), .int 0, .int (-1), .int 0, .ref z568, .ref z569]))] H) (hD : va_D A [(dm, .inr (0, [.ref q83, .ref q84, .ref q89, .ref q95, .ref q101, .ref q107, .ref q116, .ref q120, .ref q124])), (q95, .inr (3, [.ref z98, .int 0, .int 0, .int 0, .int 0, .int 0, .int (-1), .int (-1), .int 0, .long 0, .ref q83, .ref z99, .ref z100, .int 0, .int 0])), (q107, .inr (5, [.ref z110, .ref z111, .int (-1), .ref z87, .ref q89, .ref z112, .ref z113, .ref z114, .ref z115])), (q101, .inr (4, [.int 0, .int (-1), .ref z104, .ref z105, .ref z106, .int 0, .long 0])), (ou, .inl (cL, 1, .inr (.inl (fun _ => 0)))), (md, .inr (12, [.int 0, .int 1, .int 1, .ref q562, .ref q571, .ref q574, .ref q577, .ref q580, .ref q583, .ref q586, .int 0, .int (-1), .int 0, .int 0, .long 0, .ref q599, .ref q600, .ref q601, .ref q602])), (q562, .inr (13, [.int 0, .ref z565, .int 1, .int 1, .ref z566, .int 0, .int 0, .int 0, .ref z567, .int 0, .int 0, .int (-1), .int (-1), .int 0, .int (-1), .int 0, .ref z568, .ref z569]))]) (hS : va_S A s.heap H locs) (hl : lv_has ls 7 [(4, .int 0), (3, .ref ou), (2, .ref md), (1, .ref dm), (0, .ref b)]) : W p l e room_1 s m args below meth c H locs 138 124625 Q (F0 m 543 ls []) := by
  refine lv_aload_n hx hb d_law_543 rfl (lv_at hl 3 rfl) ?_
  refine lv_aload_n hx hb d_law_544 rfl (lv_at hl 4 rfl) ?_
  refine lv_iload hx hb d_law_545 (lv_at hl 0 rfl) ?_
  refine lv_iconst (v := 1) hx hb d_law_547 (by decide) ?_
  refine lv_iadd hx hb d_law_548 ?_
  refine wi_c (v := 1) (by decide) ?_
  refine va_sld hx hb hX hbl hbA hS (by unfold vp_in; decide) d_law_549 ?_
  refine wi_c (v := 6) (hx1) ?_
  refine lv_aload_n hx hb d_law_550 rfl (lv_at hl 1 rfl) ?_
  refine wc_i (wr := [(md, .inr (12, [.int 0, .int 1, .int 1, .ref q562, .ref q571, .ref q574, .ref q577, .ref q580, .ref q583, .ref q586, .int 0, .int (-1), .int 0, .int 0, .long 0, .ref q599, .ref q600, .ref q601, .ref q602])), (q562, .inr (13, [.int 0, .ref z565, .int 1, .int 1, .ref z566, .int 0, .int 0, .int 0, .ref z567, .int 0, .int 0, .int (-1), .int (-1), .int 0, .int (-1), .int 0, .ref z568, .ref z569]))]) hC hP hD hS [0, 1, 2, 3, 4] [5, 6] rfl rfl (by decide) (by decide) (tq_runSW (n := 3) (hh := [(0, 9, 12, 13)]) (As := [.ref dm, .int 6, .ref ou]) (rest := []) ⟨hx, hb, hml, hown, htw⟩ (c_habout_6 l D cI cL B _ dm q83 q84 z87 q89 q95 z98 z99 z100 q101 z104 z105 z106 q107 z110 z111 z112 z113 z114 z115 q116 q120 q124 ou) htw (tw_goodW (fun _ h => h) k789) rfl rfl rfl ⟨Nat.le_of_ble_eq_true rfl, Nat.le_of_ble_eq_true rfl⟩ (htw _ k237) (by decide +kernel) (htw _ k858) (htw _ k859) (wC_pre hC hP hD hS [0, 1, 2, 3, 4] (by decide) rfl) rfl rfl hl.1 rfl (lv_room (Nat.le_of_ble_eq_true rfl)) d_law_551 ⟨Nat.le_of_ble_eq_true rfl, Nat.le_of_ble_eq_true rfl⟩) (fun r1643 u1641 H locs hw1642 hP hD hS => ?_)
  obtain rfl : r1643 = 0 := hw1642
  have hP : va_P D classes [(md, .inr (12, [.int 0, .int 1, .int 1, .ref q562, .ref q571, .ref q574, .ref q577, .ref q580, .ref q583, .ref q586, .int 0, .int (-1), .int 0, .int 0, .long 0, .ref q599, .ref q600, .ref q601, .ref q602])), (q562, .inr (13, [.int 0, .ref z565, .int 1, .int 1, .ref z566, .int 0, .int 0, .int 0, .ref z567, .int 0, .int 0, .int (-1), .int (-1), .int 0, .int (-1), .int 0, .ref z568, .ref z569])), (ou, .inl (cL, 1, .inr (.inl (vp_updL (fun _ => 0) (0 : Int32).toNatClampNeg 0))))] H := hP
  have hD : va_D A [(md, .inr (12, [.int 0, .int 1, .int 1, .ref q562, .ref q571, .ref q574, .ref q577, .ref q580, .ref q583, .ref q586, .int 0, .int (-1), .int 0, .int 0, .long 0, .ref q599, .ref q600, .ref q601, .ref q602])), (q562, .inr (13, [.int 0, .ref z565, .int 1, .int 1, .ref z566, .int 0, .int 0, .int 0, .ref z567, .int 0, .int 0, .int (-1), .int (-1), .int 0, .int (-1), .int 0, .ref z568, .ref z569])), (ou, .inl (cL, 1, .inr (.inl (vp_updL (fun _ => 0) (0 : Int32).toNatClampNeg 0))))] := hD
  refine W.widen (k := 138) (n := 124625) (by omega) (by omega) ?_
  refine lv_istore (lv' := [(5, .int 0), (4, .int 0), (3, .ref ou), (2, .ref md), (1, .ref dm), (0, .ref b)]) hx hb d_law_554 hl (by decide) rfl (fun ls hl => ?_)
  refine lv_aload_n hx hb d_law_556 rfl (lv_at hl 3 rfl) ?_
  refine lv_aload_n hx hb d_law_557 rfl (lv_at hl 5 rfl) ?_
  refine lv_iload hx hb d_law_558 (lv_at hl 1 rfl) ?_
  refine lv_iconst (v := 1) hx hb d_law_560 (by decide) ?_
  refine lv_iadd hx hb d_law_561 ?_
  refine wi_c (v := 1) (by decide) ?_
  refine va_sld hx hb hX hbl hbA hS (by unfold vp_in; decide) d_law_562 ?_
  refine wi_c (v := 6) (hx1) ?_
  refine wc_i (wr := [(ou, .inl (cL, 1, .inr (.inl (vp_updL (fun _ => 0) (0 : Int32).toNatClampNeg 0))))]) hC hP hD hS [0, 1] [2] rfl rfl (by decide) (by decide) (va_runV (As := [.int 6]) (rest := []) ⟨hx, hb, hml, hown, htw⟩ (c_Mabout_6 l D cI cL B _ md q562 z565 z566 z567 z568 z569 q571 q574 q577 q580 q583 q586 q599 q600 q601 q602) (cwV 1 htw gV_law_95 rfl rfl rfl (by decide +kernel) ⟨Nat.le_of_ble_eq_true rfl, Nat.le_of_ble_eq_true rfl⟩) (wC_preV (As := [.int 6]) hC hP hD hS [0, 1] (by decide) rfl (q0 := 0) rfl rfl) rfl rfl hl.1 rfl (lv_room (Nat.le_of_ble_eq_true rfl)) d_law_563 ⟨Nat.le_of_ble_eq_true rfl, Nat.le_of_ble_eq_true rfl⟩) (fun r1646 u1644 H locs hw1645 hP hD hS => ?_)
  obtain rfl : r1646 = 0 := hw1645
  have hP : va_P D classes [(ou, .inl (cL, 1, .inr (.inl (vp_updL (fun _ => 0) (0 : Int32).toNatClampNeg 0)))), (md, .inr (12, [.int 0, .int 1, .int 1, .ref q562, .ref q571, .ref q574, .ref q577, .ref q580, .ref q583, .ref q586, .int 0, .int (-1), .int 0, .int 0, .long 0, .ref q599, .ref q600, .ref q601, .ref q602]))] H := hP
  have hD : va_D A [(ou, .inl (cL, 1, .inr (.inl (vp_updL (fun _ => 0) (0 : Int32).toNatClampNeg 0)))), (md, .inr (12, [.int 0, .int 1, .int 1, .ref q562, .ref q571, .ref q574, .ref q577, .ref q580, .ref q583, .ref q586, .int 0, .int (-1), .int 0, .int 0, .long 0, .ref q599, .ref q600, .ref q601, .ref q602]))] := hD
  refine W.widen (k := 138) (n := 124625) (by omega) (by omega) ?_
  refine lv_istore (lv' := [(6, .int 0), (5, .int 0), (4, .int 0), (3, .ref ou), (2, .ref md), (1, .ref dm), (0, .ref b)]) hx hb d_law_566 hl (by decide) rfl (fun ls hl => ?_)
  refine lv_aload_n hx hb d_law_568 rfl (lv_at hl 4 rfl) ?_
  refine wc_i (wr := [(ou, .inl (cL, 1, .inr (.inl (vp_updL (fun _ => 0) (0 : Int32).toNatClampNeg 0))))]) hC hP hD hS [1] [0] rfl rfl (by decide) (by decide) (va_runV (As := []) (rest := []) ⟨hx, hb, hml, hown, htw⟩ (c_thrown l D cI cL B _ md 0 1 1 q562 q571 q574 q577 q580 q583 q586 0 (-1) 0 0 0 q599 q600 q601 q602) (cwV 0 htw gV_law_65 rfl rfl rfl (by decide +kernel) ⟨Nat.le_of_ble_eq_true rfl, Nat.le_of_ble_eq_true rfl⟩) (wC_preV (As := []) hC hP hD hS [1] (by decide) rfl (q0 := 1) rfl rfl) rfl rfl hl.1 rfl (lv_room (Nat.le_of_ble_eq_true rfl)) d_law_569 ⟨Nat.le_of_ble_eq_true rfl, Nat.le_of_ble_eq_true rfl⟩) (fun r1649 u1647 H locs hw1648 hP hD hS => ?_)
  obtain rfl : r1649 = 0 := hw1648
  have hP : va_P D classes [(ou, .inl (cL, 1, .inr (.inl (vp_updL (fun _ => 0) (0 : Int32).toNatClampNeg 0)))), (md, .inr (12, [.int 0, .int 1, .int 1, .ref q562, .ref q571, .ref q574, .ref q577, .ref q580, .ref q583, .ref q586, .int 0, .int (-1), .int 0, .int 0, .long 0, .ref q599, .ref q600, .ref q601, .ref q602]))] H := hP
  have hD : va_D A [(ou, .inl (cL, 1, .inr (.inl (vp_updL (fun _ => 0) (0 : Int32).toNatClampNeg 0)))), (md, .inr (12, [.int 0, .int 1, .int 1, .ref q562, .ref q571, .ref q574, .ref q577, .ref q580, .ref q583, .ref q586, .int 0, .int (-1), .int 0, .int 0, .long 0, .ref q599, .ref q600, .ref q601, .ref q602]))] := hD
  refine W.widen (k := 138) (n := 124625) (by omega) (by omega) ?_
  refine lv_iload hx hb d_law_572 (lv_at hl 1 rfl) ?_
  refine lv_icmp_eq (tgt := 579) hx hb d_law_574 (by decide) (fun c_1650 => ?_) (fun c_1650 => absurd c_1650 (by decide))
  refine lv_iload hx hb d_law_579 (lv_at hl 1 rfl) ?_
  refine lv_if_ne (tgt := 596) hx hb d_law_581 (by decide) (fun c_1651 => absurd c_1651 (by decide)) (fun c_1651 => ?_)
  refine lv_aload_n hx hb d_law_584 rfl (lv_at hl 3 rfl) ?_
  refine lv_iconst (v := 0) hx hb d_law_585 (by decide) ?_
  refine va_lald hx hb hC.1 hP 0 1 rfl rfl (by unfold vp_in; decide) d_law_586 ?_
  refine wl_c (v := 0) updL_0 ?_
  refine lv_iload hx hb d_law_587 (lv_at hl 0 rfl) ?_
  refine lv_i2l (v := 0) hx hb d_law_589 (by decide) ?_
  refine W.lcmp hx hb d_law_590 ?_
  refine wi_c (v := 0) (by decide) ?_
  refine lv_if_eq (tgt := 596) hx hb d_law_591 (by decide) (fun c_1652 => ?_) (fun c_1652 => absurd c_1652 (by decide))
  refine lv_goto (tgt := 847) hx hb d_law_596 (by decide) ?_
  refine W.widen (k := 600002) (n := 7302232) (by omega) (by omega) ?_
  exact kk _ _ _ hS (lv_sub hl [2, 6] rfl)

set_option maxHeartbeats 4000000 in
set_option maxRecDepth 100000 in
theorem lc_about_7 {p : Program} {l : Launch} {e : Env} {s : State} {m : MethodId} {args : Array Value} {below : List Frame} {meth : Method} {c : Code} {Q : State → Prop} {A : Nat → Prop} {b : Nat} {xs : Nat → Int32} {H : Heap} {locs : List Loc} {ls : Array Slot} (hfl : l.stackTraces = false) (D : va_G) (cI cL : ClassId) (B : Nat) (hx : p.tables.exec = Jvm.exec) (hb : c.code = code) (hml : c.maxLocals = 7) (hown : s.vm.findClass "DrawingMachineLaw" = some m.cls) (htw : ∀ w ∈ tw, w.before args s = true) (hC : wC D cI cL B A s) (hX : va_X b 6 xs s s.heap) (hbl : b < s.heap.size) (hbA : ¬ A b) (dm : Nat) (md : Nat) (ou : Nat) (q83 : Nat) (q84 : Nat) (z87 : Nat) (q89 : Nat) (q95 : Nat) (z98 : Nat) (z99 : Nat) (z100 : Nat) (q101 : Nat) (z104 : Nat) (z105 : Nat) (z106 : Nat) (q107 : Nat) (z110 : Nat) (z111 : Nat) (z112 : Nat) (z113 : Nat) (z114 : Nat) (z115 : Nat) (q116 : Nat) (q120 : Nat) (q124 : Nat) (q562 : Nat) (q571 : Nat) (q574 : Nat) (q577 : Nat) (q580 : Nat) (q583 : Nat) (q586 : Nat) (q599 : Nat) (q600 : Nat) (q601 : Nat) (q602 : Nat) (hx1 : xs 1 = 7) (kk : ∀ (H : Heap) (locs : List Loc) (ls : Array Slot), va_S A s.heap H locs → lv_has ls 7 [(4, .int 0), (0, .ref b)] → W p l e room_1 s m args below meth c H locs 600002 7302232 Q (F0 m 847 ls [])) (hP : va_P D classes [(dm, .inr (0, [.ref q83, .ref q84, .ref q89, .ref q95, .ref q101, .ref q107, .ref q116, .ref q120, .ref q124])), (q95, .inr (3, [.ref z98, .int 0, .int 0, .int 0, .int 0, .int 0, .int (-1), .int (-1), .int 0, .long 0, .ref q83, .ref z99, .ref z100, .int 0, .int 0])), (q107, .inr (5, [.ref z110, .ref z111, .int (-1), .ref z87, .ref q89, .ref z112, .ref z113, .ref z114, .ref z115])), (q101, .inr (4, [.int 0, .int (-1), .ref z104, .ref z105, .ref z106, .int 0, .long 0])), (ou, .inl (cL, 1, .inr (.inl (fun _ => 0)))), (md, .inr (12, [.int 0, .int 1, .int 1, .ref q562, .ref q571, .ref q574, .ref q577, .ref q580, .ref q583, .ref q586, .int 0, .int (-1), .int 0, .int 0, .long 0, .ref q599, .ref q600, .ref q601, .ref q602]))] H) (hD : va_D A [(dm, .inr (0, [.ref q83, .ref q84, .ref q89, .ref q95, .ref q101, .ref q107, .ref q116, .ref q120, .ref q124])), (q95, .inr (3, [.ref z98, .int 0, .int 0, .int 0, .int 0, .int 0, .int (-1), .int (-1), .int 0, .long 0, .ref q83, .ref z99, .ref z100, .int 0, .int 0])), (q107, .inr (5, [.ref z110, .ref z111, .int (-1), .ref z87, .ref q89, .ref z112, .ref z113, .ref z114, .ref z115])), (q101, .inr (4, [.int 0, .int (-1), .ref z104, .ref z105, .ref z106, .int 0, .long 0])), (ou, .inl (cL, 1, .inr (.inl (fun _ => 0)))), (md, .inr (12, [.int 0, .int 1, .int 1, .ref q562, .ref q571, .ref q574, .ref q577, .ref q580, .ref q583, .ref q586, .int 0, .int (-1), .int 0, .int 0, .long 0, .ref q599, .ref q600, .ref q601, .ref q602]))]) (hS : va_S A s.heap H locs) (hl : lv_has ls 7 [(4, .int 0), (3, .ref ou), (2, .ref md), (1, .ref dm), (0, .ref b)]) : W p l e room_1 s m args below meth c H locs 138 124625 Q (F0 m 543 ls []) := by
  refine lv_aload_n hx hb d_law_543 rfl (lv_at hl 3 rfl) ?_
  refine lv_aload_n hx hb d_law_544 rfl (lv_at hl 4 rfl) ?_
  refine lv_iload hx hb d_law_545 (lv_at hl 0 rfl) ?_
  refine lv_iconst (v := 1) hx hb d_law_547 (by decide) ?_
  refine lv_iadd hx hb d_law_548 ?_
  refine wi_c (v := 1) (by decide) ?_
  refine va_sld hx hb hX hbl hbA hS (by unfold vp_in; decide) d_law_549 ?_
  refine wi_c (v := 7) (hx1) ?_
  refine lv_aload_n hx hb d_law_550 rfl (lv_at hl 1 rfl) ?_
  refine wc_i (wr := [(md, .inr (12, [.int 0, .int 1, .int 1, .ref q562, .ref q571, .ref q574, .ref q577, .ref q580, .ref q583, .ref q586, .int 0, .int (-1), .int 0, .int 0, .long 0, .ref q599, .ref q600, .ref q601, .ref q602]))]) hC hP hD hS [0, 1, 2, 3, 4] [5] rfl rfl (by decide) (by decide) (tq_runSW (n := 3) (hh := [(0, 9, 12, 13)]) (As := [.ref dm, .int 7, .ref ou]) (rest := []) ⟨hx, hb, hml, hown, htw⟩ (c_habout_7 l D cI cL B _ dm q83 q84 z87 q89 q95 z98 z99 z100 q101 z104 z105 z106 q107 z110 z111 z112 z113 z114 z115 q116 q120 q124 ou) htw (tw_goodW (fun _ h => h) k789) rfl rfl rfl ⟨Nat.le_of_ble_eq_true rfl, Nat.le_of_ble_eq_true rfl⟩ (htw _ k237) (by decide +kernel) (htw _ k858) (htw _ k859) (wC_pre hC hP hD hS [0, 1, 2, 3, 4] (by decide) rfl) rfl rfl hl.1 rfl (lv_room (Nat.le_of_ble_eq_true rfl)) d_law_551 ⟨Nat.le_of_ble_eq_true rfl, Nat.le_of_ble_eq_true rfl⟩) (fun r1655 u1653 H locs hw1654 hP hD hS => ?_)
  obtain rfl : r1655 = 0 := hw1654
  have hP : va_P D classes [(md, .inr (12, [.int 0, .int 1, .int 1, .ref q562, .ref q571, .ref q574, .ref q577, .ref q580, .ref q583, .ref q586, .int 0, .int (-1), .int 0, .int 0, .long 0, .ref q599, .ref q600, .ref q601, .ref q602])), (ou, .inl (cL, 1, .inr (.inl (vp_updL (fun _ => 0) (0 : Int32).toNatClampNeg 0))))] H := hP
  have hD : va_D A [(md, .inr (12, [.int 0, .int 1, .int 1, .ref q562, .ref q571, .ref q574, .ref q577, .ref q580, .ref q583, .ref q586, .int 0, .int (-1), .int 0, .int 0, .long 0, .ref q599, .ref q600, .ref q601, .ref q602])), (ou, .inl (cL, 1, .inr (.inl (vp_updL (fun _ => 0) (0 : Int32).toNatClampNeg 0))))] := hD
  refine W.widen (k := 138) (n := 124625) (by omega) (by omega) ?_
  refine lv_istore (lv' := [(5, .int 0), (4, .int 0), (3, .ref ou), (2, .ref md), (1, .ref dm), (0, .ref b)]) hx hb d_law_554 hl (by decide) rfl (fun ls hl => ?_)
  refine lv_aload_n hx hb d_law_556 rfl (lv_at hl 3 rfl) ?_
  refine lv_aload_n hx hb d_law_557 rfl (lv_at hl 5 rfl) ?_
  refine lv_iload hx hb d_law_558 (lv_at hl 1 rfl) ?_
  refine lv_iconst (v := 1) hx hb d_law_560 (by decide) ?_
  refine lv_iadd hx hb d_law_561 ?_
  refine wi_c (v := 1) (by decide) ?_
  refine va_sld hx hb hX hbl hbA hS (by unfold vp_in; decide) d_law_562 ?_
  refine wi_c (v := 7) (hx1) ?_
  refine wc_i (wr := [(ou, .inl (cL, 1, .inr (.inl (vp_updL (fun _ => 0) (0 : Int32).toNatClampNeg 0))))]) hC hP hD hS [0] [1] rfl rfl (by decide) (by decide) (va_runV (As := [.int 7]) (rest := []) ⟨hx, hb, hml, hown, htw⟩ (c_Mabout_7 l D cI cL B _ md q562 q571 q574 q577 q580 q583 q586 q599 q600 q601 q602) (cwV 1 htw gV_law_95 rfl rfl rfl (by decide +kernel) ⟨Nat.le_of_ble_eq_true rfl, Nat.le_of_ble_eq_true rfl⟩) (wC_preV (As := [.int 7]) hC hP hD hS [0] (by decide) rfl (q0 := 0) rfl rfl) rfl rfl hl.1 rfl (lv_room (Nat.le_of_ble_eq_true rfl)) d_law_563 ⟨Nat.le_of_ble_eq_true rfl, Nat.le_of_ble_eq_true rfl⟩) (fun r1658 u1656 H locs hw1657 hP hD hS => ?_)
  obtain rfl : r1658 = 0 := hw1657
  have hP : va_P D classes [(ou, .inl (cL, 1, .inr (.inl (vp_updL (fun _ => 0) (0 : Int32).toNatClampNeg 0)))), (md, .inr (12, [.int 0, .int 1, .int 1, .ref q562, .ref q571, .ref q574, .ref q577, .ref q580, .ref q583, .ref q586, .int 0, .int (-1), .int 0, .int 0, .long 0, .ref q599, .ref q600, .ref q601, .ref q602]))] H := hP
  have hD : va_D A [(ou, .inl (cL, 1, .inr (.inl (vp_updL (fun _ => 0) (0 : Int32).toNatClampNeg 0)))), (md, .inr (12, [.int 0, .int 1, .int 1, .ref q562, .ref q571, .ref q574, .ref q577, .ref q580, .ref q583, .ref q586, .int 0, .int (-1), .int 0, .int 0, .long 0, .ref q599, .ref q600, .ref q601, .ref q602]))] := hD
  refine W.widen (k := 138) (n := 124625) (by omega) (by omega) ?_
  refine lv_istore (lv' := [(6, .int 0), (5, .int 0), (4, .int 0), (3, .ref ou), (2, .ref md), (1, .ref dm), (0, .ref b)]) hx hb d_law_566 hl (by decide) rfl (fun ls hl => ?_)
  refine lv_aload_n hx hb d_law_568 rfl (lv_at hl 4 rfl) ?_
  refine wc_i (wr := [(ou, .inl (cL, 1, .inr (.inl (vp_updL (fun _ => 0) (0 : Int32).toNatClampNeg 0))))]) hC hP hD hS [1] [0] rfl rfl (by decide) (by decide) (va_runV (As := []) (rest := []) ⟨hx, hb, hml, hown, htw⟩ (c_thrown l D cI cL B _ md 0 1 1 q562 q571 q574 q577 q580 q583 q586 0 (-1) 0 0 0 q599 q600 q601 q602) (cwV 0 htw gV_law_65 rfl rfl rfl (by decide +kernel) ⟨Nat.le_of_ble_eq_true rfl, Nat.le_of_ble_eq_true rfl⟩) (wC_preV (As := []) hC hP hD hS [1] (by decide) rfl (q0 := 1) rfl rfl) rfl rfl hl.1 rfl (lv_room (Nat.le_of_ble_eq_true rfl)) d_law_569 ⟨Nat.le_of_ble_eq_true rfl, Nat.le_of_ble_eq_true rfl⟩) (fun r1661 u1659 H locs hw1660 hP hD hS => ?_)
  obtain rfl : r1661 = 0 := hw1660
  have hP : va_P D classes [(ou, .inl (cL, 1, .inr (.inl (vp_updL (fun _ => 0) (0 : Int32).toNatClampNeg 0)))), (md, .inr (12, [.int 0, .int 1, .int 1, .ref q562, .ref q571, .ref q574, .ref q577, .ref q580, .ref q583, .ref q586, .int 0, .int (-1), .int 0, .int 0, .long 0, .ref q599, .ref q600, .ref q601, .ref q602]))] H := hP
  have hD : va_D A [(ou, .inl (cL, 1, .inr (.inl (vp_updL (fun _ => 0) (0 : Int32).toNatClampNeg 0)))), (md, .inr (12, [.int 0, .int 1, .int 1, .ref q562, .ref q571, .ref q574, .ref q577, .ref q580, .ref q583, .ref q586, .int 0, .int (-1), .int 0, .int 0, .long 0, .ref q599, .ref q600, .ref q601, .ref q602]))] := hD
  refine W.widen (k := 138) (n := 124625) (by omega) (by omega) ?_
  refine lv_iload hx hb d_law_572 (lv_at hl 1 rfl) ?_
  refine lv_icmp_eq (tgt := 579) hx hb d_law_574 (by decide) (fun c_1662 => ?_) (fun c_1662 => absurd c_1662 (by decide))
  refine lv_iload hx hb d_law_579 (lv_at hl 1 rfl) ?_
  refine lv_if_ne (tgt := 596) hx hb d_law_581 (by decide) (fun c_1663 => absurd c_1663 (by decide)) (fun c_1663 => ?_)
  refine lv_aload_n hx hb d_law_584 rfl (lv_at hl 3 rfl) ?_
  refine lv_iconst (v := 0) hx hb d_law_585 (by decide) ?_
  refine va_lald hx hb hC.1 hP 0 1 rfl rfl (by unfold vp_in; decide) d_law_586 ?_
  refine wl_c (v := 0) updL_0 ?_
  refine lv_iload hx hb d_law_587 (lv_at hl 0 rfl) ?_
  refine lv_i2l (v := 0) hx hb d_law_589 (by decide) ?_
  refine W.lcmp hx hb d_law_590 ?_
  refine wi_c (v := 0) (by decide) ?_
  refine lv_if_eq (tgt := 596) hx hb d_law_591 (by decide) (fun c_1664 => ?_) (fun c_1664 => absurd c_1664 (by decide))
  refine lv_goto (tgt := 847) hx hb d_law_596 (by decide) ?_
  refine W.widen (k := 600002) (n := 7302232) (by omega) (by omega) ?_
  exact kk _ _ _ hS (lv_sub hl [2, 6] rfl)

set_option maxHeartbeats 4000000 in
set_option maxRecDepth 100000 in
theorem lc_about_8 {p : Program} {l : Launch} {e : Env} {s : State} {m : MethodId} {args : Array Value} {below : List Frame} {meth : Method} {c : Code} {Q : State → Prop} {A : Nat → Prop} {b : Nat} {xs : Nat → Int32} {H : Heap} {locs : List Loc} {ls : Array Slot} (hfl : l.stackTraces = false) (D : va_G) (cI cL : ClassId) (B : Nat) (hx : p.tables.exec = Jvm.exec) (hb : c.code = code) (hml : c.maxLocals = 7) (hown : s.vm.findClass "DrawingMachineLaw" = some m.cls) (htw : ∀ w ∈ tw, w.before args s = true) (hC : wC D cI cL B A s) (hX : va_X b 6 xs s s.heap) (hbl : b < s.heap.size) (hbA : ¬ A b) (dm : Nat) (md : Nat) (ou : Nat) (q83 : Nat) (q84 : Nat) (z87 : Nat) (q89 : Nat) (q95 : Nat) (z98 : Nat) (z99 : Nat) (z100 : Nat) (q101 : Nat) (z104 : Nat) (z105 : Nat) (z106 : Nat) (q107 : Nat) (z110 : Nat) (z111 : Nat) (z112 : Nat) (z113 : Nat) (z114 : Nat) (z115 : Nat) (q116 : Nat) (q120 : Nat) (q124 : Nat) (q562 : Nat) (q571 : Nat) (q574 : Nat) (q577 : Nat) (q580 : Nat) (q583 : Nat) (q586 : Nat) (q599 : Nat) (q600 : Nat) (q601 : Nat) (q602 : Nat) (hx1 : xs 1 = 8) (kk : ∀ (H : Heap) (locs : List Loc) (ls : Array Slot), va_S A s.heap H locs → lv_has ls 7 [(4, .int 0), (0, .ref b)] → W p l e room_1 s m args below meth c H locs 600002 7302232 Q (F0 m 847 ls [])) (hP : va_P D classes [(dm, .inr (0, [.ref q83, .ref q84, .ref q89, .ref q95, .ref q101, .ref q107, .ref q116, .ref q120, .ref q124])), (q95, .inr (3, [.ref z98, .int 0, .int 0, .int 0, .int 0, .int 0, .int (-1), .int (-1), .int 0, .long 0, .ref q83, .ref z99, .ref z100, .int 0, .int 0])), (q107, .inr (5, [.ref z110, .ref z111, .int (-1), .ref z87, .ref q89, .ref z112, .ref z113, .ref z114, .ref z115])), (q101, .inr (4, [.int 0, .int (-1), .ref z104, .ref z105, .ref z106, .int 0, .long 0])), (ou, .inl (cL, 1, .inr (.inl (fun _ => 0)))), (md, .inr (12, [.int 0, .int 1, .int 1, .ref q562, .ref q571, .ref q574, .ref q577, .ref q580, .ref q583, .ref q586, .int 0, .int (-1), .int 0, .int 0, .long 0, .ref q599, .ref q600, .ref q601, .ref q602]))] H) (hD : va_D A [(dm, .inr (0, [.ref q83, .ref q84, .ref q89, .ref q95, .ref q101, .ref q107, .ref q116, .ref q120, .ref q124])), (q95, .inr (3, [.ref z98, .int 0, .int 0, .int 0, .int 0, .int 0, .int (-1), .int (-1), .int 0, .long 0, .ref q83, .ref z99, .ref z100, .int 0, .int 0])), (q107, .inr (5, [.ref z110, .ref z111, .int (-1), .ref z87, .ref q89, .ref z112, .ref z113, .ref z114, .ref z115])), (q101, .inr (4, [.int 0, .int (-1), .ref z104, .ref z105, .ref z106, .int 0, .long 0])), (ou, .inl (cL, 1, .inr (.inl (fun _ => 0)))), (md, .inr (12, [.int 0, .int 1, .int 1, .ref q562, .ref q571, .ref q574, .ref q577, .ref q580, .ref q583, .ref q586, .int 0, .int (-1), .int 0, .int 0, .long 0, .ref q599, .ref q600, .ref q601, .ref q602]))]) (hS : va_S A s.heap H locs) (hl : lv_has ls 7 [(4, .int 0), (3, .ref ou), (2, .ref md), (1, .ref dm), (0, .ref b)]) : W p l e room_1 s m args below meth c H locs 138 124625 Q (F0 m 543 ls []) := by
  refine lv_aload_n hx hb d_law_543 rfl (lv_at hl 3 rfl) ?_
  refine lv_aload_n hx hb d_law_544 rfl (lv_at hl 4 rfl) ?_
  refine lv_iload hx hb d_law_545 (lv_at hl 0 rfl) ?_
  refine lv_iconst (v := 1) hx hb d_law_547 (by decide) ?_
  refine lv_iadd hx hb d_law_548 ?_
  refine wi_c (v := 1) (by decide) ?_
  refine va_sld hx hb hX hbl hbA hS (by unfold vp_in; decide) d_law_549 ?_
  refine wi_c (v := 8) (hx1) ?_
  refine lv_aload_n hx hb d_law_550 rfl (lv_at hl 1 rfl) ?_
  refine wc_i (wr := [(md, .inr (12, [.int 0, .int 1, .int 1, .ref q562, .ref q571, .ref q574, .ref q577, .ref q580, .ref q583, .ref q586, .int 0, .int (-1), .int 0, .int 0, .long 0, .ref q599, .ref q600, .ref q601, .ref q602]))]) hC hP hD hS [0, 1, 2, 3, 4] [5] rfl rfl (by decide) (by decide) (tq_runSW (n := 3) (hh := [(0, 9, 12, 13)]) (As := [.ref dm, .int 8, .ref ou]) (rest := []) ⟨hx, hb, hml, hown, htw⟩ (c_habout_8 l D cI cL B _ dm q83 q84 z87 q89 q95 z98 z99 z100 q101 z104 z105 z106 q107 z110 z111 z112 z113 z114 z115 q116 q120 q124 ou) htw (tw_goodW (fun _ h => h) k789) rfl rfl rfl ⟨Nat.le_of_ble_eq_true rfl, Nat.le_of_ble_eq_true rfl⟩ (htw _ k237) (by decide +kernel) (htw _ k858) (htw _ k859) (wC_pre hC hP hD hS [0, 1, 2, 3, 4] (by decide) rfl) rfl rfl hl.1 rfl (lv_room (Nat.le_of_ble_eq_true rfl)) d_law_551 ⟨Nat.le_of_ble_eq_true rfl, Nat.le_of_ble_eq_true rfl⟩) (fun r1667 u1665 H locs hw1666 hP hD hS => ?_)
  obtain rfl : r1667 = 0 := hw1666
  have hP : va_P D classes [(md, .inr (12, [.int 0, .int 1, .int 1, .ref q562, .ref q571, .ref q574, .ref q577, .ref q580, .ref q583, .ref q586, .int 0, .int (-1), .int 0, .int 0, .long 0, .ref q599, .ref q600, .ref q601, .ref q602])), (ou, .inl (cL, 1, .inr (.inl (vp_updL (fun _ => 0) (0 : Int32).toNatClampNeg (-1)))))] H := hP
  have hD : va_D A [(md, .inr (12, [.int 0, .int 1, .int 1, .ref q562, .ref q571, .ref q574, .ref q577, .ref q580, .ref q583, .ref q586, .int 0, .int (-1), .int 0, .int 0, .long 0, .ref q599, .ref q600, .ref q601, .ref q602])), (ou, .inl (cL, 1, .inr (.inl (vp_updL (fun _ => 0) (0 : Int32).toNatClampNeg (-1)))))] := hD
  refine W.widen (k := 138) (n := 124625) (by omega) (by omega) ?_
  refine lv_istore (lv' := [(5, .int 0), (4, .int 0), (3, .ref ou), (2, .ref md), (1, .ref dm), (0, .ref b)]) hx hb d_law_554 hl (by decide) rfl (fun ls hl => ?_)
  refine lv_aload_n hx hb d_law_556 rfl (lv_at hl 3 rfl) ?_
  refine lv_aload_n hx hb d_law_557 rfl (lv_at hl 5 rfl) ?_
  refine lv_iload hx hb d_law_558 (lv_at hl 1 rfl) ?_
  refine lv_iconst (v := 1) hx hb d_law_560 (by decide) ?_
  refine lv_iadd hx hb d_law_561 ?_
  refine wi_c (v := 1) (by decide) ?_
  refine va_sld hx hb hX hbl hbA hS (by unfold vp_in; decide) d_law_562 ?_
  refine wi_c (v := 8) (hx1) ?_
  refine wc_i (wr := [(ou, .inl (cL, 1, .inr (.inl (vp_updL (fun _ => 0) (0 : Int32).toNatClampNeg (-1)))))]) hC hP hD hS [0] [1] rfl rfl (by decide) (by decide) (va_runV (As := [.int 8]) (rest := []) ⟨hx, hb, hml, hown, htw⟩ (c_Mabout_8 l D cI cL B _ md q562 q571 q574 q577 q580 q583 q586 q599 q600 q601 q602) (cwV 1 htw gV_law_95 rfl rfl rfl (by decide +kernel) ⟨Nat.le_of_ble_eq_true rfl, Nat.le_of_ble_eq_true rfl⟩) (wC_preV (As := [.int 8]) hC hP hD hS [0] (by decide) rfl (q0 := 0) rfl rfl) rfl rfl hl.1 rfl (lv_room (Nat.le_of_ble_eq_true rfl)) d_law_563 ⟨Nat.le_of_ble_eq_true rfl, Nat.le_of_ble_eq_true rfl⟩) (fun r1670 u1668 H locs hw1669 hP hD hS => ?_)
  obtain rfl : r1670 = (-1) := hw1669
  have hP : va_P D classes [(ou, .inl (cL, 1, .inr (.inl (vp_updL (fun _ => 0) (0 : Int32).toNatClampNeg (-1))))), (md, .inr (12, [.int 0, .int 1, .int 1, .ref q562, .ref q571, .ref q574, .ref q577, .ref q580, .ref q583, .ref q586, .int 0, .int (-1), .int 0, .int 0, .long 0, .ref q599, .ref q600, .ref q601, .ref q602]))] H := hP
  have hD : va_D A [(ou, .inl (cL, 1, .inr (.inl (vp_updL (fun _ => 0) (0 : Int32).toNatClampNeg (-1))))), (md, .inr (12, [.int 0, .int 1, .int 1, .ref q562, .ref q571, .ref q574, .ref q577, .ref q580, .ref q583, .ref q586, .int 0, .int (-1), .int 0, .int 0, .long 0, .ref q599, .ref q600, .ref q601, .ref q602]))] := hD
  refine W.widen (k := 138) (n := 124625) (by omega) (by omega) ?_
  refine lv_istore (lv' := [(6, .int (-1)), (5, .int 0), (4, .int 0), (3, .ref ou), (2, .ref md), (1, .ref dm), (0, .ref b)]) hx hb d_law_566 hl (by decide) rfl (fun ls hl => ?_)
  refine lv_aload_n hx hb d_law_568 rfl (lv_at hl 4 rfl) ?_
  refine wc_i (wr := [(ou, .inl (cL, 1, .inr (.inl (vp_updL (fun _ => 0) (0 : Int32).toNatClampNeg (-1)))))]) hC hP hD hS [1] [0] rfl rfl (by decide) (by decide) (va_runV (As := []) (rest := []) ⟨hx, hb, hml, hown, htw⟩ (c_thrown l D cI cL B _ md 0 1 1 q562 q571 q574 q577 q580 q583 q586 0 (-1) 0 0 0 q599 q600 q601 q602) (cwV 0 htw gV_law_65 rfl rfl rfl (by decide +kernel) ⟨Nat.le_of_ble_eq_true rfl, Nat.le_of_ble_eq_true rfl⟩) (wC_preV (As := []) hC hP hD hS [1] (by decide) rfl (q0 := 1) rfl rfl) rfl rfl hl.1 rfl (lv_room (Nat.le_of_ble_eq_true rfl)) d_law_569 ⟨Nat.le_of_ble_eq_true rfl, Nat.le_of_ble_eq_true rfl⟩) (fun r1673 u1671 H locs hw1672 hP hD hS => ?_)
  obtain rfl : r1673 = 0 := hw1672
  have hP : va_P D classes [(ou, .inl (cL, 1, .inr (.inl (vp_updL (fun _ => 0) (0 : Int32).toNatClampNeg (-1))))), (md, .inr (12, [.int 0, .int 1, .int 1, .ref q562, .ref q571, .ref q574, .ref q577, .ref q580, .ref q583, .ref q586, .int 0, .int (-1), .int 0, .int 0, .long 0, .ref q599, .ref q600, .ref q601, .ref q602]))] H := hP
  have hD : va_D A [(ou, .inl (cL, 1, .inr (.inl (vp_updL (fun _ => 0) (0 : Int32).toNatClampNeg (-1))))), (md, .inr (12, [.int 0, .int 1, .int 1, .ref q562, .ref q571, .ref q574, .ref q577, .ref q580, .ref q583, .ref q586, .int 0, .int (-1), .int 0, .int 0, .long 0, .ref q599, .ref q600, .ref q601, .ref q602]))] := hD
  refine W.widen (k := 138) (n := 124625) (by omega) (by omega) ?_
  refine lv_iload hx hb d_law_572 (lv_at hl 1 rfl) ?_
  refine lv_icmp_eq (tgt := 579) hx hb d_law_574 (by decide) (fun c_1674 => ?_) (fun c_1674 => absurd c_1674 (by decide))
  refine lv_iload hx hb d_law_579 (lv_at hl 1 rfl) ?_
  refine lv_if_ne (tgt := 596) hx hb d_law_581 (by decide) (fun c_1675 => absurd c_1675 (by decide)) (fun c_1675 => ?_)
  refine lv_aload_n hx hb d_law_584 rfl (lv_at hl 3 rfl) ?_
  refine lv_iconst (v := 0) hx hb d_law_585 (by decide) ?_
  refine va_lald hx hb hC.1 hP 0 1 rfl rfl (by unfold vp_in; decide) d_law_586 ?_
  refine wl_c (v := (-1)) updL_0 ?_
  refine lv_iload hx hb d_law_587 (lv_at hl 0 rfl) ?_
  refine lv_i2l (v := (-1)) hx hb d_law_589 (by decide) ?_
  refine W.lcmp hx hb d_law_590 ?_
  refine wi_c (v := 0) (by decide) ?_
  refine lv_if_eq (tgt := 596) hx hb d_law_591 (by decide) (fun c_1676 => ?_) (fun c_1676 => absurd c_1676 (by decide))
  refine lv_goto (tgt := 847) hx hb d_law_596 (by decide) ?_
  refine W.widen (k := 600002) (n := 7302232) (by omega) (by omega) ?_
  exact kk _ _ _ hS (lv_sub hl [2, 6] rfl)

set_option maxHeartbeats 4000000 in
set_option maxRecDepth 100000 in
theorem lc_about_b {p : Program} {l : Launch} {e : Env} {s : State} {m : MethodId} {args : Array Value} {below : List Frame} {meth : Method} {c : Code} {Q : State → Prop} {A : Nat → Prop} {b : Nat} {xs : Nat → Int32} {H : Heap} {locs : List Loc} {ls : Array Slot} (hfl : l.stackTraces = false) (D : va_G) (cI cL : ClassId) (B : Nat) (hx : p.tables.exec = Jvm.exec) (hb : c.code = code) (hml : c.maxLocals = 7) (hown : s.vm.findClass "DrawingMachineLaw" = some m.cls) (htw : ∀ w ∈ tw, w.before args s = true) (hC : wC D cI cL B A s) (hX : va_X b 6 xs s s.heap) (hbl : b < s.heap.size) (hbA : ¬ A b) (dm : Nat) (md : Nat) (ou : Nat) (q83 : Nat) (q84 : Nat) (q89 : Nat) (q95 : Nat) (q101 : Nat) (q107 : Nat) (q116 : Nat) (q120 : Nat) (q124 : Nat) (q562 : Nat) (q571 : Nat) (q574 : Nat) (q577 : Nat) (q580 : Nat) (q583 : Nat) (q586 : Nat) (q599 : Nat) (q600 : Nat) (q601 : Nat) (q602 : Nat) (x : Int32) (hbd : x < 0 ∨ 8 < x) (hx1 : xs 1 = x) (kk : ∀ (H : Heap) (locs : List Loc) (ls : Array Slot), va_S A s.heap H locs → lv_has ls 7 [(4, .int 0), (0, .ref b)] → W p l e room_1 s m args below meth c H locs 600002 7302232 Q (F0 m 847 ls [])) (hP : va_P D classes [(dm, .inr (0, [.ref q83, .ref q84, .ref q89, .ref q95, .ref q101, .ref q107, .ref q116, .ref q120, .ref q124])), (ou, .inl (cL, 1, .inr (.inl (fun _ => 0)))), (md, .inr (12, [.int 0, .int 1, .int 1, .ref q562, .ref q571, .ref q574, .ref q577, .ref q580, .ref q583, .ref q586, .int 0, .int (-1), .int 0, .int 0, .long 0, .ref q599, .ref q600, .ref q601, .ref q602]))] H) (hD : va_D A [(dm, .inr (0, [.ref q83, .ref q84, .ref q89, .ref q95, .ref q101, .ref q107, .ref q116, .ref q120, .ref q124])), (ou, .inl (cL, 1, .inr (.inl (fun _ => 0)))), (md, .inr (12, [.int 0, .int 1, .int 1, .ref q562, .ref q571, .ref q574, .ref q577, .ref q580, .ref q583, .ref q586, .int 0, .int (-1), .int 0, .int 0, .long 0, .ref q599, .ref q600, .ref q601, .ref q602]))]) (hS : va_S A s.heap H locs) (hl : lv_has ls 7 [(4, .int 0), (3, .ref ou), (2, .ref md), (1, .ref dm), (0, .ref b)]) : W p l e room_1 s m args below meth c H locs 138 124625 Q (F0 m 543 ls []) := by
  refine lv_aload_n hx hb d_law_543 rfl (lv_at hl 3 rfl) ?_
  refine lv_aload_n hx hb d_law_544 rfl (lv_at hl 4 rfl) ?_
  refine lv_iload hx hb d_law_545 (lv_at hl 0 rfl) ?_
  refine lv_iconst (v := 1) hx hb d_law_547 (by decide) ?_
  refine lv_iadd hx hb d_law_548 ?_
  refine wi_c (v := 1) (by decide) ?_
  refine va_sld hx hb hX hbl hbA hS (by unfold vp_in; decide) d_law_549 ?_
  refine wi_c (v := x) (hx1) ?_
  refine lv_aload_n hx hb d_law_550 rfl (lv_at hl 1 rfl) ?_
  refine wc_i (wr := [(md, .inr (12, [.int 0, .int 1, .int 1, .ref q562, .ref q571, .ref q574, .ref q577, .ref q580, .ref q583, .ref q586, .int 0, .int (-1), .int 0, .int 0, .long 0, .ref q599, .ref q600, .ref q601, .ref q602]))]) hC hP hD hS [0, 1] [2] rfl rfl (by decide) (by decide) (tq_runSW (n := 3) (hh := [(0, 9, 12, 13)]) (As := [.ref dm, .int x, .ref ou]) (rest := []) ⟨hx, hb, hml, hown, htw⟩ (c_habout_b l hfl D cI cL B _ dm q83 q84 q89 q95 q101 q107 q116 q120 q124 x ou (hbd)) htw (tw_goodW (fun _ h => h) k789) rfl rfl rfl ⟨Nat.le_of_ble_eq_true rfl, Nat.le_of_ble_eq_true rfl⟩ (htw _ k237) (by decide +kernel) (htw _ k858) (htw _ k859) (wC_pre hC hP hD hS [0, 1] (by decide) rfl) rfl rfl hl.1 rfl (lv_room (Nat.le_of_ble_eq_true rfl)) d_law_551 ⟨Nat.le_of_ble_eq_true rfl, Nat.le_of_ble_eq_true rfl⟩) (fun r1679 u1677 H locs hw1678 hP hD hS => ?_)
  obtain rfl : r1679 = 1 := hw1678
  have hP : va_P D classes [(md, .inr (12, [.int 0, .int 1, .int 1, .ref q562, .ref q571, .ref q574, .ref q577, .ref q580, .ref q583, .ref q586, .int 0, .int (-1), .int 0, .int 0, .long 0, .ref q599, .ref q600, .ref q601, .ref q602]))] H := hP
  have hD : va_D A [(md, .inr (12, [.int 0, .int 1, .int 1, .ref q562, .ref q571, .ref q574, .ref q577, .ref q580, .ref q583, .ref q586, .int 0, .int (-1), .int 0, .int 0, .long 0, .ref q599, .ref q600, .ref q601, .ref q602]))] := hD
  refine W.widen (k := 139) (n := 124631) (by omega) (by omega) ?_
  refine lv_istore (lv' := [(5, .int 1), (4, .int 0), (3, .ref ou), (2, .ref md), (1, .ref dm), (0, .ref b)]) hx hb d_law_554 hl (by decide) rfl (fun ls hl => ?_)
  refine lv_aload_n hx hb d_law_556 rfl (lv_at hl 3 rfl) ?_
  refine lv_aload_n hx hb d_law_557 rfl (lv_at hl 5 rfl) ?_
  refine lv_iload hx hb d_law_558 (lv_at hl 1 rfl) ?_
  refine lv_iconst (v := 1) hx hb d_law_560 (by decide) ?_
  refine lv_iadd hx hb d_law_561 ?_
  refine wi_c (v := 1) (by decide) ?_
  refine va_sld hx hb hX hbl hbA hS (by unfold vp_in; decide) d_law_562 ?_
  refine wi_c (v := x) (hx1) ?_
  refine wc_i (wr := []) hC hP hD hS [0] [] rfl rfl (by decide) (by decide) (va_runV (As := [.int x]) (rest := []) ⟨hx, hb, hml, hown, htw⟩ (c_Mabout_b l D cI cL B _ md q562 q571 q574 q577 q580 q583 q586 q599 q600 q601 q602 x (hbd)) (cwV 1 htw gV_law_95 rfl rfl rfl (by decide +kernel) ⟨Nat.le_of_ble_eq_true rfl, Nat.le_of_ble_eq_true rfl⟩) (wC_preV (As := [.int x]) hC hP hD hS [0] (by decide) rfl (q0 := 0) rfl rfl) rfl rfl hl.1 rfl (lv_room (Nat.le_of_ble_eq_true rfl)) d_law_563 ⟨Nat.le_of_ble_eq_true rfl, Nat.le_of_ble_eq_true rfl⟩) (fun r1682 u1680 H locs hw1681 hP hD hS => ?_)
  obtain rfl : r1682 = 0 := hw1681
  have hP : va_P D classes [(md, .inr (12, [.int 1, .int 1, .int 1, .ref q562, .ref q571, .ref q574, .ref q577, .ref q580, .ref q583, .ref q586, .int 0, .int (-1), .int 0, .int 0, .long 0, .ref q599, .ref q600, .ref q601, .ref q602]))] H := hP
  have hD : va_D A [(md, .inr (12, [.int 1, .int 1, .int 1, .ref q562, .ref q571, .ref q574, .ref q577, .ref q580, .ref q583, .ref q586, .int 0, .int (-1), .int 0, .int 0, .long 0, .ref q599, .ref q600, .ref q601, .ref q602]))] := hD
  refine W.widen (k := 139) (n := 124631) (by omega) (by omega) ?_
  refine lv_istore (lv' := [(6, .int 0), (5, .int 1), (4, .int 0), (3, .ref ou), (2, .ref md), (1, .ref dm), (0, .ref b)]) hx hb d_law_566 hl (by decide) rfl (fun ls hl => ?_)
  refine lv_aload_n hx hb d_law_568 rfl (lv_at hl 4 rfl) ?_
  refine wc_i (wr := []) hC hP hD hS [0] [] rfl rfl (by decide) (by decide) (va_runV (As := []) (rest := []) ⟨hx, hb, hml, hown, htw⟩ (c_thrown l D cI cL B _ md 1 1 1 q562 q571 q574 q577 q580 q583 q586 0 (-1) 0 0 0 q599 q600 q601 q602) (cwV 0 htw gV_law_65 rfl rfl rfl (by decide +kernel) ⟨Nat.le_of_ble_eq_true rfl, Nat.le_of_ble_eq_true rfl⟩) (wC_preV (As := []) hC hP hD hS [0] (by decide) rfl (q0 := 0) rfl rfl) rfl rfl hl.1 rfl (lv_room (Nat.le_of_ble_eq_true rfl)) d_law_569 ⟨Nat.le_of_ble_eq_true rfl, Nat.le_of_ble_eq_true rfl⟩) (fun r1685 u1683 H locs hw1684 hP hD hS => ?_)
  obtain rfl : r1685 = 1 := hw1684
  have hP : va_P D classes [(md, .inr (12, [.int 1, .int 1, .int 1, .ref q562, .ref q571, .ref q574, .ref q577, .ref q580, .ref q583, .ref q586, .int 0, .int (-1), .int 0, .int 0, .long 0, .ref q599, .ref q600, .ref q601, .ref q602]))] H := hP
  have hD : va_D A [(md, .inr (12, [.int 1, .int 1, .int 1, .ref q562, .ref q571, .ref q574, .ref q577, .ref q580, .ref q583, .ref q586, .int 0, .int (-1), .int 0, .int 0, .long 0, .ref q599, .ref q600, .ref q601, .ref q602]))] := hD
  refine W.widen (k := 139) (n := 124631) (by omega) (by omega) ?_
  refine lv_iload hx hb d_law_572 (lv_at hl 1 rfl) ?_
  refine lv_icmp_eq (tgt := 579) hx hb d_law_574 (by decide) (fun c_1686 => ?_) (fun c_1686 => absurd c_1686 (by decide))
  refine lv_iload hx hb d_law_579 (lv_at hl 1 rfl) ?_
  refine lv_if_ne (tgt := 596) hx hb d_law_581 (by decide) (fun c_1687 => ?_) (fun c_1687 => absurd c_1687 (by decide))
  refine lv_goto (tgt := 847) hx hb d_law_596 (by decide) ?_
  refine W.widen (k := 600002) (n := 7302232) (by omega) (by omega) ?_
  exact kk _ _ _ hS (lv_sub hl [2, 6] rfl)

theorem d_law_599 : decode code 599 = .ok (.aload_n 1, 1) := by decide +kernel
theorem d_law_600 : decode code 600 = .ok (.aload_n 0, 1) := by decide +kernel
theorem d_law_601 : decode code 601 = .ok (.iload 4, 2) := by decide +kernel
theorem d_law_603 : decode code 603 = .ok (.iconst 1, 1) := by decide +kernel
theorem d_law_604 : decode code 604 = .ok (.iadd, 1) := by decide +kernel
theorem d_law_605 : decode code 605 = .ok (.iaload, 1) := by decide +kernel
theorem d_law_606 : decode code 606 = .ok (.aload_n 0, 1) := by decide +kernel
theorem d_law_607 : decode code 607 = .ok (.iload 4, 2) := by decide +kernel
theorem d_law_609 : decode code 609 = .ok (.iconst 2, 1) := by decide +kernel
theorem d_law_610 : decode code 610 = .ok (.iadd, 1) := by decide +kernel
theorem d_law_611 : decode code 611 = .ok (.iaload, 1) := by decide +kernel
theorem d_law_612 : decode code 612 = .ok (.aload_n 0, 1) := by decide +kernel
theorem d_law_613 : decode code 613 = .ok (.iload 4, 2) := by decide +kernel
theorem d_law_615 : decode code 615 = .ok (.iconst 3, 1) := by decide +kernel
theorem d_law_616 : decode code 616 = .ok (.iadd, 1) := by decide +kernel
theorem d_law_617 : decode code 617 = .ok (.iaload, 1) := by decide +kernel
theorem d_law_618 : decode code 618 = .ok (.aload_n 3, 1) := by decide +kernel
theorem d_law_619 : decode code 619 = .ok (.invokestatic 96, 3) := by decide +kernel
theorem d_law_622 : decode code 622 = .ok (.istore 5, 2) := by decide +kernel
theorem d_law_624 : decode code 624 = .ok (.aload_n 2, 1) := by decide +kernel
theorem d_law_625 : decode code 625 = .ok (.aload_n 0, 1) := by decide +kernel
theorem d_law_626 : decode code 626 = .ok (.iload 4, 2) := by decide +kernel
theorem d_law_628 : decode code 628 = .ok (.iconst 1, 1) := by decide +kernel
theorem d_law_629 : decode code 629 = .ok (.iadd, 1) := by decide +kernel
theorem d_law_630 : decode code 630 = .ok (.iaload, 1) := by decide +kernel
theorem d_law_631 : decode code 631 = .ok (.aload_n 0, 1) := by decide +kernel
theorem d_law_632 : decode code 632 = .ok (.iload 4, 2) := by decide +kernel
theorem d_law_634 : decode code 634 = .ok (.iconst 2, 1) := by decide +kernel
theorem d_law_635 : decode code 635 = .ok (.iadd, 1) := by decide +kernel
theorem d_law_636 : decode code 636 = .ok (.iaload, 1) := by decide +kernel
theorem d_law_637 : decode code 637 = .ok (.aload_n 0, 1) := by decide +kernel
theorem d_law_638 : decode code 638 = .ok (.iload 4, 2) := by decide +kernel
theorem d_law_640 : decode code 640 = .ok (.iconst 3, 1) := by decide +kernel
theorem d_law_641 : decode code 641 = .ok (.iadd, 1) := by decide +kernel
theorem d_law_642 : decode code 642 = .ok (.iaload, 1) := by decide +kernel
theorem d_law_643 : decode code 643 = .ok (.invokevirtual 98, 3) := by decide +kernel
theorem d_law_646 : decode code 646 = .ok (.istore 6, 2) := by decide +kernel
theorem d_law_648 : decode code 648 = .ok (.aload_n 2, 1) := by decide +kernel
theorem d_law_649 : decode code 649 = .ok (.invokevirtual 65, 3) := by decide +kernel
theorem d_law_652 : decode code 652 = .ok (.iload 5, 2) := by decide +kernel
theorem d_law_654 : decode code 654 = .ok (.if_icmp .eq 5, 3) := by decide +kernel
theorem d_law_659 : decode code 659 = .ok (.iload 5, 2) := by decide +kernel
theorem d_law_661 : decode code 661 = .ok (.ifCond .ne 15, 3) := by decide +kernel
theorem d_law_664 : decode code 664 = .ok (.aload_n 3, 1) := by decide +kernel
theorem d_law_665 : decode code 665 = .ok (.iconst 0, 1) := by decide +kernel
theorem d_law_666 : decode code 666 = .ok (.laload, 1) := by decide +kernel
theorem d_law_667 : decode code 667 = .ok (.iload 6, 2) := by decide +kernel
theorem d_law_669 : decode code 669 = .ok (.i2l, 1) := by decide +kernel
theorem d_law_670 : decode code 670 = .ok (.lcmp, 1) := by decide +kernel
theorem d_law_671 : decode code 671 = .ok (.ifCond .eq 5, 3) := by decide +kernel
theorem d_law_676 : decode code 676 = .ok (.goto 171, 3) := by decide +kernel
theorem gV_law_98 : GoodIn tw (wsV "DrawingMachineLaw" 98 "DrawingMachineModel" y_Mod_at ((Cond.code y_Mod_at prog_14_method_29_code 5 (some .int)) :: tw)) := tw_pre (fun _ h => h) (tw_good (fun _ h => h) k689) (List.forall_mem_cons.mpr ⟨k865, List.forall_mem_cons.mpr ⟨k866, List.forall_mem_cons.mpr ⟨k867, List.forall_mem_cons.mpr ⟨k116, fun _ h => absurd h List.not_mem_nil⟩⟩⟩⟩)
set_option maxHeartbeats 4000000 in
set_option maxRecDepth 100000 in
theorem lc_at_0 {p : Program} {l : Launch} {e : Env} {s : State} {m : MethodId} {args : Array Value} {below : List Frame} {meth : Method} {c : Code} {Q : State → Prop} {A : Nat → Prop} {b : Nat} {xs : Nat → Int32} {H : Heap} {locs : List Loc} {ls : Array Slot} (hfl : l.stackTraces = false) (D : va_G) (cI cL : ClassId) (B : Nat) (hx : p.tables.exec = Jvm.exec) (hb : c.code = code) (hml : c.maxLocals = 7) (hown : s.vm.findClass "DrawingMachineLaw" = some m.cls) (htw : ∀ w ∈ tw, w.before args s = true) (hC : wC D cI cL B A s) (hX : va_X b 6 xs s s.heap) (hbl : b < s.heap.size) (hbA : ¬ A b) (dm : Nat) (md : Nat) (ou : Nat) (q83 : Nat) (q84 : Nat) (z87 : Nat) (q89 : Nat) (z92 : Nat) (z93 : Nat) (z94 : Nat) (q95 : Nat) (q101 : Nat) (q107 : Nat) (q116 : Nat) (q120 : Nat) (q124 : Nat) (q562 : Nat) (q571 : Nat) (q574 : Nat) (q577 : Nat) (q580 : Nat) (q583 : Nat) (q586 : Nat) (z589 : Nat) (z590 : Nat) (z591 : Nat) (z592 : Nat) (z593 : Nat) (z594 : Nat) (z595 : Nat) (z596 : Nat) (z597 : Nat) (z598 : Nat) (q599 : Nat) (q600 : Nat) (q601 : Nat) (q602 : Nat) (hx1 : xs 1 = 0) (hx2 : xs 2 = 0) (hx3 : xs 3 = 0) (kk : ∀ (H : Heap) (locs : List Loc) (ls : Array Slot), va_S A s.heap H locs → lv_has ls 7 [(4, .int 0), (0, .ref b)] → W p l e room_1 s m args below meth c H locs 600002 7302232 Q (F0 m 847 ls [])) (hP : va_P D classes [(dm, .inr (0, [.ref q83, .ref q84, .ref q89, .ref q95, .ref q101, .ref q107, .ref q116, .ref q120, .ref q124])), (q89, .inr (2, [.int 1, .int 1, .ref z92, .ref z93, .ref z94, .ref q84, .ref z87])), (z92, .inl (cI, 1, .inl (fun _ => 0))), (z93, .inl (cI, 1, .inl (fun _ => 0))), (z94, .inl (cI, 1, .inl (fun _ => 0))), (ou, .inl (cL, 1, .inr (.inl (fun _ => 0)))), (md, .inr (12, [.int 0, .int 1, .int 1, .ref q562, .ref q571, .ref q574, .ref q577, .ref q580, .ref q583, .ref q586, .int 0, .int (-1), .int 0, .int 0, .long 0, .ref q599, .ref q600, .ref q601, .ref q602])), (q586, .inr (18, [.int 0, .int 0, .int 0, .int 1, .int 1, .ref z589, .ref z590, .ref z591, .int 0, .ref z592, .int (-1), .int 0, .ref z593, .ref z594, .int (-1), .int 0, .ref z595, .int (-1), .int 15, .ref z596, .ref z597, .ref z598])), (z589, .inl (cI, 65536, .inl (fun _ => 0))), (z590, .inl (cI, 16384, .inl (fun _ => 0))), (z591, .inl (cI, 16384, .inl (fun _ => 0)))] H) (hD : va_D A [(dm, .inr (0, [.ref q83, .ref q84, .ref q89, .ref q95, .ref q101, .ref q107, .ref q116, .ref q120, .ref q124])), (q89, .inr (2, [.int 1, .int 1, .ref z92, .ref z93, .ref z94, .ref q84, .ref z87])), (z92, .inl (cI, 1, .inl (fun _ => 0))), (z93, .inl (cI, 1, .inl (fun _ => 0))), (z94, .inl (cI, 1, .inl (fun _ => 0))), (ou, .inl (cL, 1, .inr (.inl (fun _ => 0)))), (md, .inr (12, [.int 0, .int 1, .int 1, .ref q562, .ref q571, .ref q574, .ref q577, .ref q580, .ref q583, .ref q586, .int 0, .int (-1), .int 0, .int 0, .long 0, .ref q599, .ref q600, .ref q601, .ref q602])), (q586, .inr (18, [.int 0, .int 0, .int 0, .int 1, .int 1, .ref z589, .ref z590, .ref z591, .int 0, .ref z592, .int (-1), .int 0, .ref z593, .ref z594, .int (-1), .int 0, .ref z595, .int (-1), .int 15, .ref z596, .ref z597, .ref z598])), (z589, .inl (cI, 65536, .inl (fun _ => 0))), (z590, .inl (cI, 16384, .inl (fun _ => 0))), (z591, .inl (cI, 16384, .inl (fun _ => 0)))]) (hS : va_S A s.heap H locs) (hl : lv_has ls 7 [(4, .int 0), (3, .ref ou), (2, .ref md), (1, .ref dm), (0, .ref b)]) : W p l e room_1 s m args below meth c H locs 138 124625 Q (F0 m 599 ls []) := by
  refine lv_aload_n hx hb d_law_599 rfl (lv_at hl 3 rfl) ?_
  refine lv_aload_n hx hb d_law_600 rfl (lv_at hl 4 rfl) ?_
  refine lv_iload hx hb d_law_601 (lv_at hl 0 rfl) ?_
  refine lv_iconst (v := 1) hx hb d_law_603 (by decide) ?_
  refine lv_iadd hx hb d_law_604 ?_
  refine wi_c (v := 1) (by decide) ?_
  refine va_sld hx hb hX hbl hbA hS (by unfold vp_in; decide) d_law_605 ?_
  refine wi_c (v := 0) (hx1) ?_
  refine lv_aload_n hx hb d_law_606 rfl (lv_at hl 4 rfl) ?_
  refine lv_iload hx hb d_law_607 (lv_at hl 0 rfl) ?_
  refine lv_iconst (v := 2) hx hb d_law_609 (by decide) ?_
  refine lv_iadd hx hb d_law_610 ?_
  refine wi_c (v := 2) (by decide) ?_
  refine va_sld hx hb hX hbl hbA hS (by unfold vp_in; decide) d_law_611 ?_
  refine wi_c (v := 0) (hx2) ?_
  refine lv_aload_n hx hb d_law_612 rfl (lv_at hl 4 rfl) ?_
  refine lv_iload hx hb d_law_613 (lv_at hl 0 rfl) ?_
  refine lv_iconst (v := 3) hx hb d_law_615 (by decide) ?_
  refine lv_iadd hx hb d_law_616 ?_
  refine wi_c (v := 3) (by decide) ?_
  refine va_sld hx hb hX hbl hbA hS (by unfold vp_in; decide) d_law_617 ?_
  refine wi_c (v := 0) (hx3) ?_
  refine lv_aload_n hx hb d_law_618 rfl (lv_at hl 1 rfl) ?_
  refine wc_i (wr := [(md, .inr (12, [.int 0, .int 1, .int 1, .ref q562, .ref q571, .ref q574, .ref q577, .ref q580, .ref q583, .ref q586, .int 0, .int (-1), .int 0, .int 0, .long 0, .ref q599, .ref q600, .ref q601, .ref q602])), (q586, .inr (18, [.int 0, .int 0, .int 0, .int 1, .int 1, .ref z589, .ref z590, .ref z591, .int 0, .ref z592, .int (-1), .int 0, .ref z593, .ref z594, .int (-1), .int 0, .ref z595, .int (-1), .int 15, .ref z596, .ref z597, .ref z598])), (z589, .inl (cI, 65536, .inl (fun _ => 0))), (z590, .inl (cI, 16384, .inl (fun _ => 0))), (z591, .inl (cI, 16384, .inl (fun _ => 0)))]) hC hP hD hS [0, 1, 2, 3, 4, 5] [6, 7, 8, 9, 10] rfl rfl (by decide) (by decide) (tq_runSW (n := 5) (hh := [(0, 12, 15, 13), (0, 12, 19, 19)]) (As := [.ref dm, .int 0, .int 0, .int 0, .ref ou]) (rest := []) ⟨hx, hb, hml, hown, htw⟩ (c_hat_0 l D cI cL B _ dm q83 q84 z87 q89 z92 z93 z94 q95 q101 q107 q116 q120 q124 ou) htw (tw_goodW (fun _ h => h) k793) rfl rfl rfl ⟨Nat.le_of_ble_eq_true rfl, Nat.le_of_ble_eq_true rfl⟩ (htw _ k237) (by decide +kernel) (htw _ k863) (htw _ k864) (wC_pre hC hP hD hS [0, 1, 2, 3, 4, 5] (by decide) rfl) rfl rfl hl.1 rfl (lv_room (Nat.le_of_ble_eq_true rfl)) d_law_619 ⟨Nat.le_of_ble_eq_true rfl, Nat.le_of_ble_eq_true rfl⟩) (fun r1690 u1688 H locs hw1689 hP hD hS => ?_)
  obtain rfl : r1690 = 0 := hw1689
  have hP : va_P D classes [(md, .inr (12, [.int 0, .int 1, .int 1, .ref q562, .ref q571, .ref q574, .ref q577, .ref q580, .ref q583, .ref q586, .int 0, .int (-1), .int 0, .int 0, .long 0, .ref q599, .ref q600, .ref q601, .ref q602])), (q586, .inr (18, [.int 0, .int 0, .int 0, .int 1, .int 1, .ref z589, .ref z590, .ref z591, .int 0, .ref z592, .int (-1), .int 0, .ref z593, .ref z594, .int (-1), .int 0, .ref z595, .int (-1), .int 15, .ref z596, .ref z597, .ref z598])), (z589, .inl (cI, 65536, .inl (fun _ => 0))), (z590, .inl (cI, 16384, .inl (fun _ => 0))), (z591, .inl (cI, 16384, .inl (fun _ => 0))), (ou, .inl (cL, 1, .inr (.inl (vp_updL (fun _ => 0) (0 : Int32).toNatClampNeg 0))))] H := hP
  have hD : va_D A [(md, .inr (12, [.int 0, .int 1, .int 1, .ref q562, .ref q571, .ref q574, .ref q577, .ref q580, .ref q583, .ref q586, .int 0, .int (-1), .int 0, .int 0, .long 0, .ref q599, .ref q600, .ref q601, .ref q602])), (q586, .inr (18, [.int 0, .int 0, .int 0, .int 1, .int 1, .ref z589, .ref z590, .ref z591, .int 0, .ref z592, .int (-1), .int 0, .ref z593, .ref z594, .int (-1), .int 0, .ref z595, .int (-1), .int 15, .ref z596, .ref z597, .ref z598])), (z589, .inl (cI, 65536, .inl (fun _ => 0))), (z590, .inl (cI, 16384, .inl (fun _ => 0))), (z591, .inl (cI, 16384, .inl (fun _ => 0))), (ou, .inl (cL, 1, .inr (.inl (vp_updL (fun _ => 0) (0 : Int32).toNatClampNeg 0))))] := hD
  refine W.widen (k := 138) (n := 124625) (by omega) (by omega) ?_
  refine lv_istore (lv' := [(5, .int 0), (4, .int 0), (3, .ref ou), (2, .ref md), (1, .ref dm), (0, .ref b)]) hx hb d_law_622 hl (by decide) rfl (fun ls hl => ?_)
  refine lv_aload_n hx hb d_law_624 rfl (lv_at hl 3 rfl) ?_
  refine lv_aload_n hx hb d_law_625 rfl (lv_at hl 5 rfl) ?_
  refine lv_iload hx hb d_law_626 (lv_at hl 1 rfl) ?_
  refine lv_iconst (v := 1) hx hb d_law_628 (by decide) ?_
  refine lv_iadd hx hb d_law_629 ?_
  refine wi_c (v := 1) (by decide) ?_
  refine va_sld hx hb hX hbl hbA hS (by unfold vp_in; decide) d_law_630 ?_
  refine wi_c (v := 0) (hx1) ?_
  refine lv_aload_n hx hb d_law_631 rfl (lv_at hl 5 rfl) ?_
  refine lv_iload hx hb d_law_632 (lv_at hl 1 rfl) ?_
  refine lv_iconst (v := 2) hx hb d_law_634 (by decide) ?_
  refine lv_iadd hx hb d_law_635 ?_
  refine wi_c (v := 2) (by decide) ?_
  refine va_sld hx hb hX hbl hbA hS (by unfold vp_in; decide) d_law_636 ?_
  refine wi_c (v := 0) (hx2) ?_
  refine lv_aload_n hx hb d_law_637 rfl (lv_at hl 5 rfl) ?_
  refine lv_iload hx hb d_law_638 (lv_at hl 1 rfl) ?_
  refine lv_iconst (v := 3) hx hb d_law_640 (by decide) ?_
  refine lv_iadd hx hb d_law_641 ?_
  refine wi_c (v := 3) (by decide) ?_
  refine va_sld hx hb hX hbl hbA hS (by unfold vp_in; decide) d_law_642 ?_
  refine wi_c (v := 0) (hx3) ?_
  refine wc_i (wr := [(ou, .inl (cL, 1, .inr (.inl (vp_updL (fun _ => 0) (0 : Int32).toNatClampNeg 0))))]) hC hP hD hS [0, 1, 2, 3, 4] [5] rfl rfl (by decide) (by decide) (va_runV (As := [.int 0, .int 0, .int 0]) (rest := []) ⟨hx, hb, hml, hown, htw⟩ (c_Mat_0 l D cI cL B _ md q562 q571 q574 q577 q580 q583 q586 z589 z590 z591 z592 z593 z594 z595 z596 z597 z598 q599 q600 q601 q602) (cwV 3 htw gV_law_98 rfl rfl rfl (by decide +kernel) ⟨Nat.le_of_ble_eq_true rfl, Nat.le_of_ble_eq_true rfl⟩) (wC_preV (As := [.int 0, .int 0, .int 0]) hC hP hD hS [0, 1, 2, 3, 4] (by decide) rfl (q0 := 0) rfl rfl) rfl rfl hl.1 rfl (lv_room (Nat.le_of_ble_eq_true rfl)) d_law_643 ⟨Nat.le_of_ble_eq_true rfl, Nat.le_of_ble_eq_true rfl⟩) (fun r1693 u1691 H locs hw1692 hP hD hS => ?_)
  obtain rfl : r1693 = 0 := hw1692
  have hP : va_P D classes [(ou, .inl (cL, 1, .inr (.inl (vp_updL (fun _ => 0) (0 : Int32).toNatClampNeg 0)))), (md, .inr (12, [.int 0, .int 1, .int 1, .ref q562, .ref q571, .ref q574, .ref q577, .ref q580, .ref q583, .ref q586, .int 0, .int (-1), .int 0, .int 0, .long 0, .ref q599, .ref q600, .ref q601, .ref q602]))] H := hP
  have hD : va_D A [(ou, .inl (cL, 1, .inr (.inl (vp_updL (fun _ => 0) (0 : Int32).toNatClampNeg 0)))), (md, .inr (12, [.int 0, .int 1, .int 1, .ref q562, .ref q571, .ref q574, .ref q577, .ref q580, .ref q583, .ref q586, .int 0, .int (-1), .int 0, .int 0, .long 0, .ref q599, .ref q600, .ref q601, .ref q602]))] := hD
  refine W.widen (k := 138) (n := 124625) (by omega) (by omega) ?_
  refine lv_istore (lv' := [(6, .int 0), (5, .int 0), (4, .int 0), (3, .ref ou), (2, .ref md), (1, .ref dm), (0, .ref b)]) hx hb d_law_646 hl (by decide) rfl (fun ls hl => ?_)
  refine lv_aload_n hx hb d_law_648 rfl (lv_at hl 4 rfl) ?_
  refine wc_i (wr := [(ou, .inl (cL, 1, .inr (.inl (vp_updL (fun _ => 0) (0 : Int32).toNatClampNeg 0))))]) hC hP hD hS [1] [0] rfl rfl (by decide) (by decide) (va_runV (As := []) (rest := []) ⟨hx, hb, hml, hown, htw⟩ (c_thrown l D cI cL B _ md 0 1 1 q562 q571 q574 q577 q580 q583 q586 0 (-1) 0 0 0 q599 q600 q601 q602) (cwV 0 htw gV_law_65 rfl rfl rfl (by decide +kernel) ⟨Nat.le_of_ble_eq_true rfl, Nat.le_of_ble_eq_true rfl⟩) (wC_preV (As := []) hC hP hD hS [1] (by decide) rfl (q0 := 1) rfl rfl) rfl rfl hl.1 rfl (lv_room (Nat.le_of_ble_eq_true rfl)) d_law_649 ⟨Nat.le_of_ble_eq_true rfl, Nat.le_of_ble_eq_true rfl⟩) (fun r1696 u1694 H locs hw1695 hP hD hS => ?_)
  obtain rfl : r1696 = 0 := hw1695
  have hP : va_P D classes [(ou, .inl (cL, 1, .inr (.inl (vp_updL (fun _ => 0) (0 : Int32).toNatClampNeg 0)))), (md, .inr (12, [.int 0, .int 1, .int 1, .ref q562, .ref q571, .ref q574, .ref q577, .ref q580, .ref q583, .ref q586, .int 0, .int (-1), .int 0, .int 0, .long 0, .ref q599, .ref q600, .ref q601, .ref q602]))] H := hP
  have hD : va_D A [(ou, .inl (cL, 1, .inr (.inl (vp_updL (fun _ => 0) (0 : Int32).toNatClampNeg 0)))), (md, .inr (12, [.int 0, .int 1, .int 1, .ref q562, .ref q571, .ref q574, .ref q577, .ref q580, .ref q583, .ref q586, .int 0, .int (-1), .int 0, .int 0, .long 0, .ref q599, .ref q600, .ref q601, .ref q602]))] := hD
  refine W.widen (k := 138) (n := 124625) (by omega) (by omega) ?_
  refine lv_iload hx hb d_law_652 (lv_at hl 1 rfl) ?_
  refine lv_icmp_eq (tgt := 659) hx hb d_law_654 (by decide) (fun c_1697 => ?_) (fun c_1697 => absurd c_1697 (by decide))
  refine lv_iload hx hb d_law_659 (lv_at hl 1 rfl) ?_
  refine lv_if_ne (tgt := 676) hx hb d_law_661 (by decide) (fun c_1698 => absurd c_1698 (by decide)) (fun c_1698 => ?_)
  refine lv_aload_n hx hb d_law_664 rfl (lv_at hl 3 rfl) ?_
  refine lv_iconst (v := 0) hx hb d_law_665 (by decide) ?_
  refine va_lald hx hb hC.1 hP 0 1 rfl rfl (by unfold vp_in; decide) d_law_666 ?_
  refine wl_c (v := 0) updL_0 ?_
  refine lv_iload hx hb d_law_667 (lv_at hl 0 rfl) ?_
  refine lv_i2l (v := 0) hx hb d_law_669 (by decide) ?_
  refine W.lcmp hx hb d_law_670 ?_
  refine wi_c (v := 0) (by decide) ?_
  refine lv_if_eq (tgt := 676) hx hb d_law_671 (by decide) (fun c_1699 => ?_) (fun c_1699 => absurd c_1699 (by decide))
  refine lv_goto (tgt := 847) hx hb d_law_676 (by decide) ?_
  refine W.widen (k := 600002) (n := 7302232) (by omega) (by omega) ?_
  exact kk _ _ _ hS (lv_sub hl [2, 6] rfl)

theorem d_law_679 : decode code 679 = .ok (.aload_n 1, 1) := by decide +kernel
theorem d_law_680 : decode code 680 = .ok (.aload_n 0, 1) := by decide +kernel
theorem d_law_681 : decode code 681 = .ok (.iload 4, 2) := by decide +kernel
theorem d_law_683 : decode code 683 = .ok (.iconst 1, 1) := by decide +kernel
theorem d_law_684 : decode code 684 = .ok (.iadd, 1) := by decide +kernel
theorem d_law_685 : decode code 685 = .ok (.iaload, 1) := by decide +kernel
theorem d_law_686 : decode code 686 = .ok (.aload_n 3, 1) := by decide +kernel
theorem d_law_687 : decode code 687 = .ok (.invokestatic 99, 3) := by decide +kernel
theorem d_law_690 : decode code 690 = .ok (.istore 5, 2) := by decide +kernel
theorem d_law_692 : decode code 692 = .ok (.aload_n 2, 1) := by decide +kernel
theorem d_law_693 : decode code 693 = .ok (.aload_n 0, 1) := by decide +kernel
theorem d_law_694 : decode code 694 = .ok (.iload 4, 2) := by decide +kernel
theorem d_law_696 : decode code 696 = .ok (.iconst 1, 1) := by decide +kernel
theorem d_law_697 : decode code 697 = .ok (.iadd, 1) := by decide +kernel
theorem d_law_698 : decode code 698 = .ok (.iaload, 1) := by decide +kernel
theorem d_law_699 : decode code 699 = .ok (.invokevirtual 101, 3) := by decide +kernel
theorem d_law_702 : decode code 702 = .ok (.istore 6, 2) := by decide +kernel
theorem d_law_704 : decode code 704 = .ok (.aload_n 2, 1) := by decide +kernel
theorem d_law_705 : decode code 705 = .ok (.invokevirtual 65, 3) := by decide +kernel
theorem d_law_708 : decode code 708 = .ok (.iload 5, 2) := by decide +kernel
theorem d_law_710 : decode code 710 = .ok (.if_icmp .eq 5, 3) := by decide +kernel
theorem d_law_715 : decode code 715 = .ok (.iload 5, 2) := by decide +kernel
theorem d_law_717 : decode code 717 = .ok (.ifCond .ne 15, 3) := by decide +kernel
theorem d_law_720 : decode code 720 = .ok (.aload_n 3, 1) := by decide +kernel
theorem d_law_721 : decode code 721 = .ok (.iconst 0, 1) := by decide +kernel
theorem d_law_722 : decode code 722 = .ok (.laload, 1) := by decide +kernel
theorem d_law_723 : decode code 723 = .ok (.iload 6, 2) := by decide +kernel
theorem d_law_725 : decode code 725 = .ok (.i2l, 1) := by decide +kernel
theorem d_law_726 : decode code 726 = .ok (.lcmp, 1) := by decide +kernel
theorem d_law_727 : decode code 727 = .ok (.ifCond .eq 5, 3) := by decide +kernel
theorem d_law_732 : decode code 732 = .ok (.goto 115, 3) := by decide +kernel
theorem gV_law_101 : GoodIn tw (wsV "DrawingMachineLaw" 101 "DrawingMachineModel" y_Mod_sum ((Cond.code y_Mod_sum prog_14_method_30_code 2 (some .int)) :: tw)) := tw_pre (fun _ h => h) (tw_good (fun _ h => h) k693) (List.forall_mem_cons.mpr ⟨k870, List.forall_mem_cons.mpr ⟨k871, List.forall_mem_cons.mpr ⟨k872, List.forall_mem_cons.mpr ⟨k116, fun _ h => absurd h List.not_mem_nil⟩⟩⟩⟩)
set_option maxHeartbeats 4000000 in
set_option maxRecDepth 100000 in
theorem lc_sum_0 {p : Program} {l : Launch} {e : Env} {s : State} {m : MethodId} {args : Array Value} {below : List Frame} {meth : Method} {c : Code} {Q : State → Prop} {A : Nat → Prop} {b : Nat} {xs : Nat → Int32} {H : Heap} {locs : List Loc} {ls : Array Slot} (hfl : l.stackTraces = false) (D : va_G) (cI cL : ClassId) (B : Nat) (hx : p.tables.exec = Jvm.exec) (hb : c.code = code) (hml : c.maxLocals = 7) (hown : s.vm.findClass "DrawingMachineLaw" = some m.cls) (htw : ∀ w ∈ tw, w.before args s = true) (hC : wC D cI cL B A s) (hX : va_X b 6 xs s s.heap) (hbl : b < s.heap.size) (hbA : ¬ A b) (dm : Nat) (md : Nat) (ou : Nat) (q83 : Nat) (q84 : Nat) (z87 : Nat) (q89 : Nat) (z92 : Nat) (z93 : Nat) (z94 : Nat) (q95 : Nat) (q101 : Nat) (q107 : Nat) (q116 : Nat) (q120 : Nat) (q124 : Nat) (q562 : Nat) (q571 : Nat) (q574 : Nat) (q577 : Nat) (q580 : Nat) (q583 : Nat) (q586 : Nat) (z589 : Nat) (z590 : Nat) (z591 : Nat) (z592 : Nat) (z593 : Nat) (z594 : Nat) (z595 : Nat) (z596 : Nat) (z597 : Nat) (z598 : Nat) (q599 : Nat) (q600 : Nat) (q601 : Nat) (q602 : Nat) (hx1 : xs 1 = 0) (kk : ∀ (H : Heap) (locs : List Loc) (ls : Array Slot), va_S A s.heap H locs → lv_has ls 7 [(4, .int 0), (0, .ref b)] → W p l e room_1 s m args below meth c H locs 600002 7302232 Q (F0 m 847 ls [])) (hP : va_P D classes [(dm, .inr (0, [.ref q83, .ref q84, .ref q89, .ref q95, .ref q101, .ref q107, .ref q116, .ref q120, .ref q124])), (q89, .inr (2, [.int 1, .int 1, .ref z92, .ref z93, .ref z94, .ref q84, .ref z87])), (z92, .inl (cI, 1, .inl (fun _ => 0))), (z93, .inl (cI, 1, .inl (fun _ => 0))), (z94, .inl (cI, 1, .inl (fun _ => 0))), (ou, .inl (cL, 1, .inr (.inl (fun _ => 0)))), (md, .inr (12, [.int 0, .int 1, .int 1, .ref q562, .ref q571, .ref q574, .ref q577, .ref q580, .ref q583, .ref q586, .int 0, .int (-1), .int 0, .int 0, .long 0, .ref q599, .ref q600, .ref q601, .ref q602])), (q586, .inr (18, [.int 0, .int 0, .int 0, .int 1, .int 1, .ref z589, .ref z590, .ref z591, .int 0, .ref z592, .int (-1), .int 0, .ref z593, .ref z594, .int (-1), .int 0, .ref z595, .int (-1), .int 15, .ref z596, .ref z597, .ref z598])), (z589, .inl (cI, 65536, .inl (fun _ => 0))), (z590, .inl (cI, 16384, .inl (fun _ => 0))), (z591, .inl (cI, 16384, .inl (fun _ => 0)))] H) (hD : va_D A [(dm, .inr (0, [.ref q83, .ref q84, .ref q89, .ref q95, .ref q101, .ref q107, .ref q116, .ref q120, .ref q124])), (q89, .inr (2, [.int 1, .int 1, .ref z92, .ref z93, .ref z94, .ref q84, .ref z87])), (z92, .inl (cI, 1, .inl (fun _ => 0))), (z93, .inl (cI, 1, .inl (fun _ => 0))), (z94, .inl (cI, 1, .inl (fun _ => 0))), (ou, .inl (cL, 1, .inr (.inl (fun _ => 0)))), (md, .inr (12, [.int 0, .int 1, .int 1, .ref q562, .ref q571, .ref q574, .ref q577, .ref q580, .ref q583, .ref q586, .int 0, .int (-1), .int 0, .int 0, .long 0, .ref q599, .ref q600, .ref q601, .ref q602])), (q586, .inr (18, [.int 0, .int 0, .int 0, .int 1, .int 1, .ref z589, .ref z590, .ref z591, .int 0, .ref z592, .int (-1), .int 0, .ref z593, .ref z594, .int (-1), .int 0, .ref z595, .int (-1), .int 15, .ref z596, .ref z597, .ref z598])), (z589, .inl (cI, 65536, .inl (fun _ => 0))), (z590, .inl (cI, 16384, .inl (fun _ => 0))), (z591, .inl (cI, 16384, .inl (fun _ => 0)))]) (hS : va_S A s.heap H locs) (hl : lv_has ls 7 [(4, .int 0), (3, .ref ou), (2, .ref md), (1, .ref dm), (0, .ref b)]) : W p l e room_1 s m args below meth c H locs 138 124625 Q (F0 m 679 ls []) := by
  refine lv_aload_n hx hb d_law_679 rfl (lv_at hl 3 rfl) ?_
  refine lv_aload_n hx hb d_law_680 rfl (lv_at hl 4 rfl) ?_
  refine lv_iload hx hb d_law_681 (lv_at hl 0 rfl) ?_
  refine lv_iconst (v := 1) hx hb d_law_683 (by decide) ?_
  refine lv_iadd hx hb d_law_684 ?_
  refine wi_c (v := 1) (by decide) ?_
  refine va_sld hx hb hX hbl hbA hS (by unfold vp_in; decide) d_law_685 ?_
  refine wi_c (v := 0) (hx1) ?_
  refine lv_aload_n hx hb d_law_686 rfl (lv_at hl 1 rfl) ?_
  refine wc_i (wr := [(md, .inr (12, [.int 0, .int 1, .int 1, .ref q562, .ref q571, .ref q574, .ref q577, .ref q580, .ref q583, .ref q586, .int 0, .int (-1), .int 0, .int 0, .long 0, .ref q599, .ref q600, .ref q601, .ref q602])), (q586, .inr (18, [.int 0, .int 0, .int 0, .int 1, .int 1, .ref z589, .ref z590, .ref z591, .int 0, .ref z592, .int (-1), .int 0, .ref z593, .ref z594, .int (-1), .int 0, .ref z595, .int (-1), .int 15, .ref z596, .ref z597, .ref z598])), (z589, .inl (cI, 65536, .inl (fun _ => 0))), (z590, .inl (cI, 16384, .inl (fun _ => 0))), (z591, .inl (cI, 16384, .inl (fun _ => 0)))]) hC hP hD hS [0, 1, 2, 3, 4, 5] [6, 7, 8, 9, 10] rfl rfl (by decide) (by decide) (tq_runSW (n := 3) (hh := [(0, 9, 12, 13)]) (As := [.ref dm, .int 0, .ref ou]) (rest := []) ⟨hx, hb, hml, hown, htw⟩ (c_hsum_0 l D cI cL B _ dm q83 q84 z87 q89 z92 z93 z94 q95 q101 q107 q116 q120 q124 ou) htw (tw_goodW (fun _ h => h) k797) rfl rfl rfl ⟨Nat.le_of_ble_eq_true rfl, Nat.le_of_ble_eq_true rfl⟩ (htw _ k237) (by decide +kernel) (htw _ k868) (htw _ k869) (wC_pre hC hP hD hS [0, 1, 2, 3, 4, 5] (by decide) rfl) rfl rfl hl.1 rfl (lv_room (Nat.le_of_ble_eq_true rfl)) d_law_687 ⟨Nat.le_of_ble_eq_true rfl, Nat.le_of_ble_eq_true rfl⟩) (fun r1702 u1700 H locs hw1701 hP hD hS => ?_)
  obtain rfl : r1702 = 0 := hw1701
  have hP : va_P D classes [(md, .inr (12, [.int 0, .int 1, .int 1, .ref q562, .ref q571, .ref q574, .ref q577, .ref q580, .ref q583, .ref q586, .int 0, .int (-1), .int 0, .int 0, .long 0, .ref q599, .ref q600, .ref q601, .ref q602])), (q586, .inr (18, [.int 0, .int 0, .int 0, .int 1, .int 1, .ref z589, .ref z590, .ref z591, .int 0, .ref z592, .int (-1), .int 0, .ref z593, .ref z594, .int (-1), .int 0, .ref z595, .int (-1), .int 15, .ref z596, .ref z597, .ref z598])), (z589, .inl (cI, 65536, .inl (fun _ => 0))), (z590, .inl (cI, 16384, .inl (fun _ => 0))), (z591, .inl (cI, 16384, .inl (fun _ => 0))), (ou, .inl (cL, 1, .inr (.inl (vp_updL (fun _ => 0) (0 : Int32).toNatClampNeg 0))))] H := hP
  have hD : va_D A [(md, .inr (12, [.int 0, .int 1, .int 1, .ref q562, .ref q571, .ref q574, .ref q577, .ref q580, .ref q583, .ref q586, .int 0, .int (-1), .int 0, .int 0, .long 0, .ref q599, .ref q600, .ref q601, .ref q602])), (q586, .inr (18, [.int 0, .int 0, .int 0, .int 1, .int 1, .ref z589, .ref z590, .ref z591, .int 0, .ref z592, .int (-1), .int 0, .ref z593, .ref z594, .int (-1), .int 0, .ref z595, .int (-1), .int 15, .ref z596, .ref z597, .ref z598])), (z589, .inl (cI, 65536, .inl (fun _ => 0))), (z590, .inl (cI, 16384, .inl (fun _ => 0))), (z591, .inl (cI, 16384, .inl (fun _ => 0))), (ou, .inl (cL, 1, .inr (.inl (vp_updL (fun _ => 0) (0 : Int32).toNatClampNeg 0))))] := hD
  refine W.widen (k := 138) (n := 124625) (by omega) (by omega) ?_
  refine lv_istore (lv' := [(5, .int 0), (4, .int 0), (3, .ref ou), (2, .ref md), (1, .ref dm), (0, .ref b)]) hx hb d_law_690 hl (by decide) rfl (fun ls hl => ?_)
  refine lv_aload_n hx hb d_law_692 rfl (lv_at hl 3 rfl) ?_
  refine lv_aload_n hx hb d_law_693 rfl (lv_at hl 5 rfl) ?_
  refine lv_iload hx hb d_law_694 (lv_at hl 1 rfl) ?_
  refine lv_iconst (v := 1) hx hb d_law_696 (by decide) ?_
  refine lv_iadd hx hb d_law_697 ?_
  refine wi_c (v := 1) (by decide) ?_
  refine va_sld hx hb hX hbl hbA hS (by unfold vp_in; decide) d_law_698 ?_
  refine wi_c (v := 0) (hx1) ?_
  refine wc_i (wr := [(ou, .inl (cL, 1, .inr (.inl (vp_updL (fun _ => 0) (0 : Int32).toNatClampNeg 0))))]) hC hP hD hS [0, 1, 2, 3, 4] [5] rfl rfl (by decide) (by decide) (va_runV (As := [.int 0]) (rest := []) ⟨hx, hb, hml, hown, htw⟩ (c_Msum_0 l D cI cL B _ md q562 q571 q574 q577 q580 q583 q586 z589 z590 z591 z592 z593 z594 z595 z596 z597 z598 q599 q600 q601 q602) (cwV 1 htw gV_law_101 rfl rfl rfl (by decide +kernel) ⟨Nat.le_of_ble_eq_true rfl, Nat.le_of_ble_eq_true rfl⟩) (wC_preV (As := [.int 0]) hC hP hD hS [0, 1, 2, 3, 4] (by decide) rfl (q0 := 0) rfl rfl) rfl rfl hl.1 rfl (lv_room (Nat.le_of_ble_eq_true rfl)) d_law_699 ⟨Nat.le_of_ble_eq_true rfl, Nat.le_of_ble_eq_true rfl⟩) (fun r1705 u1703 H locs hw1704 hP hD hS => ?_)
  obtain rfl : r1705 = 0 := hw1704
  have hP : va_P D classes [(ou, .inl (cL, 1, .inr (.inl (vp_updL (fun _ => 0) (0 : Int32).toNatClampNeg 0)))), (md, .inr (12, [.int 0, .int 1, .int 1, .ref q562, .ref q571, .ref q574, .ref q577, .ref q580, .ref q583, .ref q586, .int 0, .int (-1), .int 0, .int 0, .long 0, .ref q599, .ref q600, .ref q601, .ref q602]))] H := hP
  have hD : va_D A [(ou, .inl (cL, 1, .inr (.inl (vp_updL (fun _ => 0) (0 : Int32).toNatClampNeg 0)))), (md, .inr (12, [.int 0, .int 1, .int 1, .ref q562, .ref q571, .ref q574, .ref q577, .ref q580, .ref q583, .ref q586, .int 0, .int (-1), .int 0, .int 0, .long 0, .ref q599, .ref q600, .ref q601, .ref q602]))] := hD
  refine W.widen (k := 138) (n := 124625) (by omega) (by omega) ?_
  refine lv_istore (lv' := [(6, .int 0), (5, .int 0), (4, .int 0), (3, .ref ou), (2, .ref md), (1, .ref dm), (0, .ref b)]) hx hb d_law_702 hl (by decide) rfl (fun ls hl => ?_)
  refine lv_aload_n hx hb d_law_704 rfl (lv_at hl 4 rfl) ?_
  refine wc_i (wr := [(ou, .inl (cL, 1, .inr (.inl (vp_updL (fun _ => 0) (0 : Int32).toNatClampNeg 0))))]) hC hP hD hS [1] [0] rfl rfl (by decide) (by decide) (va_runV (As := []) (rest := []) ⟨hx, hb, hml, hown, htw⟩ (c_thrown l D cI cL B _ md 0 1 1 q562 q571 q574 q577 q580 q583 q586 0 (-1) 0 0 0 q599 q600 q601 q602) (cwV 0 htw gV_law_65 rfl rfl rfl (by decide +kernel) ⟨Nat.le_of_ble_eq_true rfl, Nat.le_of_ble_eq_true rfl⟩) (wC_preV (As := []) hC hP hD hS [1] (by decide) rfl (q0 := 1) rfl rfl) rfl rfl hl.1 rfl (lv_room (Nat.le_of_ble_eq_true rfl)) d_law_705 ⟨Nat.le_of_ble_eq_true rfl, Nat.le_of_ble_eq_true rfl⟩) (fun r1708 u1706 H locs hw1707 hP hD hS => ?_)
  obtain rfl : r1708 = 0 := hw1707
  have hP : va_P D classes [(ou, .inl (cL, 1, .inr (.inl (vp_updL (fun _ => 0) (0 : Int32).toNatClampNeg 0)))), (md, .inr (12, [.int 0, .int 1, .int 1, .ref q562, .ref q571, .ref q574, .ref q577, .ref q580, .ref q583, .ref q586, .int 0, .int (-1), .int 0, .int 0, .long 0, .ref q599, .ref q600, .ref q601, .ref q602]))] H := hP
  have hD : va_D A [(ou, .inl (cL, 1, .inr (.inl (vp_updL (fun _ => 0) (0 : Int32).toNatClampNeg 0)))), (md, .inr (12, [.int 0, .int 1, .int 1, .ref q562, .ref q571, .ref q574, .ref q577, .ref q580, .ref q583, .ref q586, .int 0, .int (-1), .int 0, .int 0, .long 0, .ref q599, .ref q600, .ref q601, .ref q602]))] := hD
  refine W.widen (k := 138) (n := 124625) (by omega) (by omega) ?_
  refine lv_iload hx hb d_law_708 (lv_at hl 1 rfl) ?_
  refine lv_icmp_eq (tgt := 715) hx hb d_law_710 (by decide) (fun c_1709 => ?_) (fun c_1709 => absurd c_1709 (by decide))
  refine lv_iload hx hb d_law_715 (lv_at hl 1 rfl) ?_
  refine lv_if_ne (tgt := 732) hx hb d_law_717 (by decide) (fun c_1710 => absurd c_1710 (by decide)) (fun c_1710 => ?_)
  refine lv_aload_n hx hb d_law_720 rfl (lv_at hl 3 rfl) ?_
  refine lv_iconst (v := 0) hx hb d_law_721 (by decide) ?_
  refine va_lald hx hb hC.1 hP 0 1 rfl rfl (by unfold vp_in; decide) d_law_722 ?_
  refine wl_c (v := 0) updL_0 ?_
  refine lv_iload hx hb d_law_723 (lv_at hl 0 rfl) ?_
  refine lv_i2l (v := 0) hx hb d_law_725 (by decide) ?_
  refine W.lcmp hx hb d_law_726 ?_
  refine wi_c (v := 0) (by decide) ?_
  refine lv_if_eq (tgt := 732) hx hb d_law_727 (by decide) (fun c_1711 => ?_) (fun c_1711 => absurd c_1711 (by decide))
  refine lv_goto (tgt := 847) hx hb d_law_732 (by decide) ?_
  refine W.widen (k := 600002) (n := 7302232) (by omega) (by omega) ?_
  exact kk _ _ _ hS (lv_sub hl [2, 6] rfl)

set_option maxHeartbeats 4000000 in
set_option maxRecDepth 100000 in
theorem lc_at_1 {p : Program} {l : Launch} {e : Env} {s : State} {m : MethodId} {args : Array Value} {below : List Frame} {meth : Method} {c : Code} {Q : State → Prop} {A : Nat → Prop} {b : Nat} {xs : Nat → Int32} {H : Heap} {locs : List Loc} {ls : Array Slot} (hfl : l.stackTraces = false) (D : va_G) (cI cL : ClassId) (B : Nat) (hx : p.tables.exec = Jvm.exec) (hb : c.code = code) (hml : c.maxLocals = 7) (hown : s.vm.findClass "DrawingMachineLaw" = some m.cls) (htw : ∀ w ∈ tw, w.before args s = true) (hC : wC D cI cL B A s) (hX : va_X b 6 xs s s.heap) (hbl : b < s.heap.size) (hbA : ¬ A b) (dm : Nat) (md : Nat) (ou : Nat) (q83 : Nat) (q84 : Nat) (z87 : Nat) (q89 : Nat) (z92 : Nat) (z93 : Nat) (z94 : Nat) (q95 : Nat) (q101 : Nat) (q107 : Nat) (q116 : Nat) (q120 : Nat) (q124 : Nat) (q562 : Nat) (q571 : Nat) (q574 : Nat) (q577 : Nat) (q580 : Nat) (q583 : Nat) (q586 : Nat) (z589 : Nat) (z590 : Nat) (z591 : Nat) (z592 : Nat) (z593 : Nat) (z594 : Nat) (z595 : Nat) (z596 : Nat) (z597 : Nat) (z598 : Nat) (q599 : Nat) (q600 : Nat) (q601 : Nat) (q602 : Nat) (hx1 : xs 1 = 0) (hx2 : xs 2 = 0) (hx3 : xs 3 = 1) (kk : ∀ (H : Heap) (locs : List Loc) (ls : Array Slot), va_S A s.heap H locs → lv_has ls 7 [(4, .int 0), (0, .ref b)] → W p l e room_1 s m args below meth c H locs 600002 7302232 Q (F0 m 847 ls [])) (hP : va_P D classes [(dm, .inr (0, [.ref q83, .ref q84, .ref q89, .ref q95, .ref q101, .ref q107, .ref q116, .ref q120, .ref q124])), (q89, .inr (2, [.int 1, .int 1, .ref z92, .ref z93, .ref z94, .ref q84, .ref z87])), (z92, .inl (cI, 1, .inl (fun _ => 0))), (z93, .inl (cI, 1, .inl (fun _ => 0))), (z94, .inl (cI, 1, .inl (fun _ => 0))), (ou, .inl (cL, 1, .inr (.inl (fun _ => 0)))), (md, .inr (12, [.int 0, .int 1, .int 1, .ref q562, .ref q571, .ref q574, .ref q577, .ref q580, .ref q583, .ref q586, .int 0, .int (-1), .int 0, .int 0, .long 0, .ref q599, .ref q600, .ref q601, .ref q602])), (q586, .inr (18, [.int 0, .int 0, .int 0, .int 1, .int 1, .ref z589, .ref z590, .ref z591, .int 0, .ref z592, .int (-1), .int 0, .ref z593, .ref z594, .int (-1), .int 0, .ref z595, .int (-1), .int 15, .ref z596, .ref z597, .ref z598])), (z589, .inl (cI, 65536, .inl (fun _ => 0))), (z590, .inl (cI, 16384, .inl (fun _ => 0))), (z591, .inl (cI, 16384, .inl (fun _ => 0)))] H) (hD : va_D A [(dm, .inr (0, [.ref q83, .ref q84, .ref q89, .ref q95, .ref q101, .ref q107, .ref q116, .ref q120, .ref q124])), (q89, .inr (2, [.int 1, .int 1, .ref z92, .ref z93, .ref z94, .ref q84, .ref z87])), (z92, .inl (cI, 1, .inl (fun _ => 0))), (z93, .inl (cI, 1, .inl (fun _ => 0))), (z94, .inl (cI, 1, .inl (fun _ => 0))), (ou, .inl (cL, 1, .inr (.inl (fun _ => 0)))), (md, .inr (12, [.int 0, .int 1, .int 1, .ref q562, .ref q571, .ref q574, .ref q577, .ref q580, .ref q583, .ref q586, .int 0, .int (-1), .int 0, .int 0, .long 0, .ref q599, .ref q600, .ref q601, .ref q602])), (q586, .inr (18, [.int 0, .int 0, .int 0, .int 1, .int 1, .ref z589, .ref z590, .ref z591, .int 0, .ref z592, .int (-1), .int 0, .ref z593, .ref z594, .int (-1), .int 0, .ref z595, .int (-1), .int 15, .ref z596, .ref z597, .ref z598])), (z589, .inl (cI, 65536, .inl (fun _ => 0))), (z590, .inl (cI, 16384, .inl (fun _ => 0))), (z591, .inl (cI, 16384, .inl (fun _ => 0)))]) (hS : va_S A s.heap H locs) (hl : lv_has ls 7 [(4, .int 0), (3, .ref ou), (2, .ref md), (1, .ref dm), (0, .ref b)]) : W p l e room_1 s m args below meth c H locs 138 124625 Q (F0 m 599 ls []) := by
  refine lv_aload_n hx hb d_law_599 rfl (lv_at hl 3 rfl) ?_
  refine lv_aload_n hx hb d_law_600 rfl (lv_at hl 4 rfl) ?_
  refine lv_iload hx hb d_law_601 (lv_at hl 0 rfl) ?_
  refine lv_iconst (v := 1) hx hb d_law_603 (by decide) ?_
  refine lv_iadd hx hb d_law_604 ?_
  refine wi_c (v := 1) (by decide) ?_
  refine va_sld hx hb hX hbl hbA hS (by unfold vp_in; decide) d_law_605 ?_
  refine wi_c (v := 0) (hx1) ?_
  refine lv_aload_n hx hb d_law_606 rfl (lv_at hl 4 rfl) ?_
  refine lv_iload hx hb d_law_607 (lv_at hl 0 rfl) ?_
  refine lv_iconst (v := 2) hx hb d_law_609 (by decide) ?_
  refine lv_iadd hx hb d_law_610 ?_
  refine wi_c (v := 2) (by decide) ?_
  refine va_sld hx hb hX hbl hbA hS (by unfold vp_in; decide) d_law_611 ?_
  refine wi_c (v := 0) (hx2) ?_
  refine lv_aload_n hx hb d_law_612 rfl (lv_at hl 4 rfl) ?_
  refine lv_iload hx hb d_law_613 (lv_at hl 0 rfl) ?_
  refine lv_iconst (v := 3) hx hb d_law_615 (by decide) ?_
  refine lv_iadd hx hb d_law_616 ?_
  refine wi_c (v := 3) (by decide) ?_
  refine va_sld hx hb hX hbl hbA hS (by unfold vp_in; decide) d_law_617 ?_
  refine wi_c (v := 1) (hx3) ?_
  refine lv_aload_n hx hb d_law_618 rfl (lv_at hl 1 rfl) ?_
  refine wc_i (wr := [(md, .inr (12, [.int 0, .int 1, .int 1, .ref q562, .ref q571, .ref q574, .ref q577, .ref q580, .ref q583, .ref q586, .int 0, .int (-1), .int 0, .int 0, .long 0, .ref q599, .ref q600, .ref q601, .ref q602])), (q586, .inr (18, [.int 0, .int 0, .int 0, .int 1, .int 1, .ref z589, .ref z590, .ref z591, .int 0, .ref z592, .int (-1), .int 0, .ref z593, .ref z594, .int (-1), .int 0, .ref z595, .int (-1), .int 15, .ref z596, .ref z597, .ref z598])), (z589, .inl (cI, 65536, .inl (fun _ => 0))), (z590, .inl (cI, 16384, .inl (fun _ => 0))), (z591, .inl (cI, 16384, .inl (fun _ => 0)))]) hC hP hD hS [0, 1, 2, 3, 4, 5] [6, 7, 8, 9, 10] rfl rfl (by decide) (by decide) (tq_runSW (n := 5) (hh := [(0, 12, 15, 13), (0, 12, 19, 19)]) (As := [.ref dm, .int 0, .int 0, .int 1, .ref ou]) (rest := []) ⟨hx, hb, hml, hown, htw⟩ (c_hat_1 l D cI cL B _ dm q83 q84 z87 q89 z92 z93 z94 q95 q101 q107 q116 q120 q124 ou) htw (tw_goodW (fun _ h => h) k793) rfl rfl rfl ⟨Nat.le_of_ble_eq_true rfl, Nat.le_of_ble_eq_true rfl⟩ (htw _ k237) (by decide +kernel) (htw _ k863) (htw _ k864) (wC_pre hC hP hD hS [0, 1, 2, 3, 4, 5] (by decide) rfl) rfl rfl hl.1 rfl (lv_room (Nat.le_of_ble_eq_true rfl)) d_law_619 ⟨Nat.le_of_ble_eq_true rfl, Nat.le_of_ble_eq_true rfl⟩) (fun r1714 u1712 H locs hw1713 hP hD hS => ?_)
  obtain rfl : r1714 = 0 := hw1713
  have hP : va_P D classes [(md, .inr (12, [.int 0, .int 1, .int 1, .ref q562, .ref q571, .ref q574, .ref q577, .ref q580, .ref q583, .ref q586, .int 0, .int (-1), .int 0, .int 0, .long 0, .ref q599, .ref q600, .ref q601, .ref q602])), (q586, .inr (18, [.int 0, .int 0, .int 0, .int 1, .int 1, .ref z589, .ref z590, .ref z591, .int 0, .ref z592, .int (-1), .int 0, .ref z593, .ref z594, .int (-1), .int 0, .ref z595, .int (-1), .int 15, .ref z596, .ref z597, .ref z598])), (z589, .inl (cI, 65536, .inl (fun _ => 0))), (z590, .inl (cI, 16384, .inl (fun _ => 0))), (z591, .inl (cI, 16384, .inl (fun _ => 0))), (ou, .inl (cL, 1, .inr (.inl (vp_updL (fun _ => 0) (0 : Int32).toNatClampNeg 0))))] H := hP
  have hD : va_D A [(md, .inr (12, [.int 0, .int 1, .int 1, .ref q562, .ref q571, .ref q574, .ref q577, .ref q580, .ref q583, .ref q586, .int 0, .int (-1), .int 0, .int 0, .long 0, .ref q599, .ref q600, .ref q601, .ref q602])), (q586, .inr (18, [.int 0, .int 0, .int 0, .int 1, .int 1, .ref z589, .ref z590, .ref z591, .int 0, .ref z592, .int (-1), .int 0, .ref z593, .ref z594, .int (-1), .int 0, .ref z595, .int (-1), .int 15, .ref z596, .ref z597, .ref z598])), (z589, .inl (cI, 65536, .inl (fun _ => 0))), (z590, .inl (cI, 16384, .inl (fun _ => 0))), (z591, .inl (cI, 16384, .inl (fun _ => 0))), (ou, .inl (cL, 1, .inr (.inl (vp_updL (fun _ => 0) (0 : Int32).toNatClampNeg 0))))] := hD
  refine W.widen (k := 138) (n := 124625) (by omega) (by omega) ?_
  refine lv_istore (lv' := [(5, .int 0), (4, .int 0), (3, .ref ou), (2, .ref md), (1, .ref dm), (0, .ref b)]) hx hb d_law_622 hl (by decide) rfl (fun ls hl => ?_)
  refine lv_aload_n hx hb d_law_624 rfl (lv_at hl 3 rfl) ?_
  refine lv_aload_n hx hb d_law_625 rfl (lv_at hl 5 rfl) ?_
  refine lv_iload hx hb d_law_626 (lv_at hl 1 rfl) ?_
  refine lv_iconst (v := 1) hx hb d_law_628 (by decide) ?_
  refine lv_iadd hx hb d_law_629 ?_
  refine wi_c (v := 1) (by decide) ?_
  refine va_sld hx hb hX hbl hbA hS (by unfold vp_in; decide) d_law_630 ?_
  refine wi_c (v := 0) (hx1) ?_
  refine lv_aload_n hx hb d_law_631 rfl (lv_at hl 5 rfl) ?_
  refine lv_iload hx hb d_law_632 (lv_at hl 1 rfl) ?_
  refine lv_iconst (v := 2) hx hb d_law_634 (by decide) ?_
  refine lv_iadd hx hb d_law_635 ?_
  refine wi_c (v := 2) (by decide) ?_
  refine va_sld hx hb hX hbl hbA hS (by unfold vp_in; decide) d_law_636 ?_
  refine wi_c (v := 0) (hx2) ?_
  refine lv_aload_n hx hb d_law_637 rfl (lv_at hl 5 rfl) ?_
  refine lv_iload hx hb d_law_638 (lv_at hl 1 rfl) ?_
  refine lv_iconst (v := 3) hx hb d_law_640 (by decide) ?_
  refine lv_iadd hx hb d_law_641 ?_
  refine wi_c (v := 3) (by decide) ?_
  refine va_sld hx hb hX hbl hbA hS (by unfold vp_in; decide) d_law_642 ?_
  refine wi_c (v := 1) (hx3) ?_
  refine wc_i (wr := [(ou, .inl (cL, 1, .inr (.inl (vp_updL (fun _ => 0) (0 : Int32).toNatClampNeg 0))))]) hC hP hD hS [0, 1, 2, 3, 4] [5] rfl rfl (by decide) (by decide) (va_runV (As := [.int 0, .int 0, .int 1]) (rest := []) ⟨hx, hb, hml, hown, htw⟩ (c_Mat_1 l D cI cL B _ md q562 q571 q574 q577 q580 q583 q586 z589 z590 z591 z592 z593 z594 z595 z596 z597 z598 q599 q600 q601 q602) (cwV 3 htw gV_law_98 rfl rfl rfl (by decide +kernel) ⟨Nat.le_of_ble_eq_true rfl, Nat.le_of_ble_eq_true rfl⟩) (wC_preV (As := [.int 0, .int 0, .int 1]) hC hP hD hS [0, 1, 2, 3, 4] (by decide) rfl (q0 := 0) rfl rfl) rfl rfl hl.1 rfl (lv_room (Nat.le_of_ble_eq_true rfl)) d_law_643 ⟨Nat.le_of_ble_eq_true rfl, Nat.le_of_ble_eq_true rfl⟩) (fun r1717 u1715 H locs hw1716 hP hD hS => ?_)
  obtain rfl : r1717 = 0 := hw1716
  have hP : va_P D classes [(ou, .inl (cL, 1, .inr (.inl (vp_updL (fun _ => 0) (0 : Int32).toNatClampNeg 0)))), (md, .inr (12, [.int 0, .int 1, .int 1, .ref q562, .ref q571, .ref q574, .ref q577, .ref q580, .ref q583, .ref q586, .int 0, .int (-1), .int 0, .int 0, .long 0, .ref q599, .ref q600, .ref q601, .ref q602]))] H := hP
  have hD : va_D A [(ou, .inl (cL, 1, .inr (.inl (vp_updL (fun _ => 0) (0 : Int32).toNatClampNeg 0)))), (md, .inr (12, [.int 0, .int 1, .int 1, .ref q562, .ref q571, .ref q574, .ref q577, .ref q580, .ref q583, .ref q586, .int 0, .int (-1), .int 0, .int 0, .long 0, .ref q599, .ref q600, .ref q601, .ref q602]))] := hD
  refine W.widen (k := 138) (n := 124625) (by omega) (by omega) ?_
  refine lv_istore (lv' := [(6, .int 0), (5, .int 0), (4, .int 0), (3, .ref ou), (2, .ref md), (1, .ref dm), (0, .ref b)]) hx hb d_law_646 hl (by decide) rfl (fun ls hl => ?_)
  refine lv_aload_n hx hb d_law_648 rfl (lv_at hl 4 rfl) ?_
  refine wc_i (wr := [(ou, .inl (cL, 1, .inr (.inl (vp_updL (fun _ => 0) (0 : Int32).toNatClampNeg 0))))]) hC hP hD hS [1] [0] rfl rfl (by decide) (by decide) (va_runV (As := []) (rest := []) ⟨hx, hb, hml, hown, htw⟩ (c_thrown l D cI cL B _ md 0 1 1 q562 q571 q574 q577 q580 q583 q586 0 (-1) 0 0 0 q599 q600 q601 q602) (cwV 0 htw gV_law_65 rfl rfl rfl (by decide +kernel) ⟨Nat.le_of_ble_eq_true rfl, Nat.le_of_ble_eq_true rfl⟩) (wC_preV (As := []) hC hP hD hS [1] (by decide) rfl (q0 := 1) rfl rfl) rfl rfl hl.1 rfl (lv_room (Nat.le_of_ble_eq_true rfl)) d_law_649 ⟨Nat.le_of_ble_eq_true rfl, Nat.le_of_ble_eq_true rfl⟩) (fun r1720 u1718 H locs hw1719 hP hD hS => ?_)
  obtain rfl : r1720 = 0 := hw1719
  have hP : va_P D classes [(ou, .inl (cL, 1, .inr (.inl (vp_updL (fun _ => 0) (0 : Int32).toNatClampNeg 0)))), (md, .inr (12, [.int 0, .int 1, .int 1, .ref q562, .ref q571, .ref q574, .ref q577, .ref q580, .ref q583, .ref q586, .int 0, .int (-1), .int 0, .int 0, .long 0, .ref q599, .ref q600, .ref q601, .ref q602]))] H := hP
  have hD : va_D A [(ou, .inl (cL, 1, .inr (.inl (vp_updL (fun _ => 0) (0 : Int32).toNatClampNeg 0)))), (md, .inr (12, [.int 0, .int 1, .int 1, .ref q562, .ref q571, .ref q574, .ref q577, .ref q580, .ref q583, .ref q586, .int 0, .int (-1), .int 0, .int 0, .long 0, .ref q599, .ref q600, .ref q601, .ref q602]))] := hD
  refine W.widen (k := 138) (n := 124625) (by omega) (by omega) ?_
  refine lv_iload hx hb d_law_652 (lv_at hl 1 rfl) ?_
  refine lv_icmp_eq (tgt := 659) hx hb d_law_654 (by decide) (fun c_1721 => ?_) (fun c_1721 => absurd c_1721 (by decide))
  refine lv_iload hx hb d_law_659 (lv_at hl 1 rfl) ?_
  refine lv_if_ne (tgt := 676) hx hb d_law_661 (by decide) (fun c_1722 => absurd c_1722 (by decide)) (fun c_1722 => ?_)
  refine lv_aload_n hx hb d_law_664 rfl (lv_at hl 3 rfl) ?_
  refine lv_iconst (v := 0) hx hb d_law_665 (by decide) ?_
  refine va_lald hx hb hC.1 hP 0 1 rfl rfl (by unfold vp_in; decide) d_law_666 ?_
  refine wl_c (v := 0) updL_0 ?_
  refine lv_iload hx hb d_law_667 (lv_at hl 0 rfl) ?_
  refine lv_i2l (v := 0) hx hb d_law_669 (by decide) ?_
  refine W.lcmp hx hb d_law_670 ?_
  refine wi_c (v := 0) (by decide) ?_
  refine lv_if_eq (tgt := 676) hx hb d_law_671 (by decide) (fun c_1723 => ?_) (fun c_1723 => absurd c_1723 (by decide))
  refine lv_goto (tgt := 847) hx hb d_law_676 (by decide) ?_
  refine W.widen (k := 600002) (n := 7302232) (by omega) (by omega) ?_
  exact kk _ _ _ hS (lv_sub hl [2, 6] rfl)

set_option maxHeartbeats 4000000 in
set_option maxRecDepth 100000 in
theorem lc_sum_1 {p : Program} {l : Launch} {e : Env} {s : State} {m : MethodId} {args : Array Value} {below : List Frame} {meth : Method} {c : Code} {Q : State → Prop} {A : Nat → Prop} {b : Nat} {xs : Nat → Int32} {H : Heap} {locs : List Loc} {ls : Array Slot} (hfl : l.stackTraces = false) (D : va_G) (cI cL : ClassId) (B : Nat) (hx : p.tables.exec = Jvm.exec) (hb : c.code = code) (hml : c.maxLocals = 7) (hown : s.vm.findClass "DrawingMachineLaw" = some m.cls) (htw : ∀ w ∈ tw, w.before args s = true) (hC : wC D cI cL B A s) (hX : va_X b 6 xs s s.heap) (hbl : b < s.heap.size) (hbA : ¬ A b) (dm : Nat) (md : Nat) (ou : Nat) (q83 : Nat) (q84 : Nat) (z87 : Nat) (q89 : Nat) (z92 : Nat) (z93 : Nat) (z94 : Nat) (q95 : Nat) (q101 : Nat) (q107 : Nat) (q116 : Nat) (q120 : Nat) (q124 : Nat) (q562 : Nat) (q571 : Nat) (q574 : Nat) (q577 : Nat) (q580 : Nat) (q583 : Nat) (q586 : Nat) (z589 : Nat) (z590 : Nat) (z591 : Nat) (z592 : Nat) (z593 : Nat) (z594 : Nat) (z595 : Nat) (z596 : Nat) (z597 : Nat) (z598 : Nat) (q599 : Nat) (q600 : Nat) (q601 : Nat) (q602 : Nat) (hx1 : xs 1 = 1) (kk : ∀ (H : Heap) (locs : List Loc) (ls : Array Slot), va_S A s.heap H locs → lv_has ls 7 [(4, .int 0), (0, .ref b)] → W p l e room_1 s m args below meth c H locs 600002 7302232 Q (F0 m 847 ls [])) (hP : va_P D classes [(dm, .inr (0, [.ref q83, .ref q84, .ref q89, .ref q95, .ref q101, .ref q107, .ref q116, .ref q120, .ref q124])), (q89, .inr (2, [.int 1, .int 1, .ref z92, .ref z93, .ref z94, .ref q84, .ref z87])), (z92, .inl (cI, 1, .inl (fun _ => 0))), (z93, .inl (cI, 1, .inl (fun _ => 0))), (z94, .inl (cI, 1, .inl (fun _ => 0))), (ou, .inl (cL, 1, .inr (.inl (fun _ => 0)))), (md, .inr (12, [.int 0, .int 1, .int 1, .ref q562, .ref q571, .ref q574, .ref q577, .ref q580, .ref q583, .ref q586, .int 0, .int (-1), .int 0, .int 0, .long 0, .ref q599, .ref q600, .ref q601, .ref q602])), (q586, .inr (18, [.int 0, .int 0, .int 0, .int 1, .int 1, .ref z589, .ref z590, .ref z591, .int 0, .ref z592, .int (-1), .int 0, .ref z593, .ref z594, .int (-1), .int 0, .ref z595, .int (-1), .int 15, .ref z596, .ref z597, .ref z598])), (z589, .inl (cI, 65536, .inl (fun _ => 0))), (z590, .inl (cI, 16384, .inl (fun _ => 0))), (z591, .inl (cI, 16384, .inl (fun _ => 0)))] H) (hD : va_D A [(dm, .inr (0, [.ref q83, .ref q84, .ref q89, .ref q95, .ref q101, .ref q107, .ref q116, .ref q120, .ref q124])), (q89, .inr (2, [.int 1, .int 1, .ref z92, .ref z93, .ref z94, .ref q84, .ref z87])), (z92, .inl (cI, 1, .inl (fun _ => 0))), (z93, .inl (cI, 1, .inl (fun _ => 0))), (z94, .inl (cI, 1, .inl (fun _ => 0))), (ou, .inl (cL, 1, .inr (.inl (fun _ => 0)))), (md, .inr (12, [.int 0, .int 1, .int 1, .ref q562, .ref q571, .ref q574, .ref q577, .ref q580, .ref q583, .ref q586, .int 0, .int (-1), .int 0, .int 0, .long 0, .ref q599, .ref q600, .ref q601, .ref q602])), (q586, .inr (18, [.int 0, .int 0, .int 0, .int 1, .int 1, .ref z589, .ref z590, .ref z591, .int 0, .ref z592, .int (-1), .int 0, .ref z593, .ref z594, .int (-1), .int 0, .ref z595, .int (-1), .int 15, .ref z596, .ref z597, .ref z598])), (z589, .inl (cI, 65536, .inl (fun _ => 0))), (z590, .inl (cI, 16384, .inl (fun _ => 0))), (z591, .inl (cI, 16384, .inl (fun _ => 0)))]) (hS : va_S A s.heap H locs) (hl : lv_has ls 7 [(4, .int 0), (3, .ref ou), (2, .ref md), (1, .ref dm), (0, .ref b)]) : W p l e room_1 s m args below meth c H locs 138 124625 Q (F0 m 679 ls []) := by
  refine lv_aload_n hx hb d_law_679 rfl (lv_at hl 3 rfl) ?_
  refine lv_aload_n hx hb d_law_680 rfl (lv_at hl 4 rfl) ?_
  refine lv_iload hx hb d_law_681 (lv_at hl 0 rfl) ?_
  refine lv_iconst (v := 1) hx hb d_law_683 (by decide) ?_
  refine lv_iadd hx hb d_law_684 ?_
  refine wi_c (v := 1) (by decide) ?_
  refine va_sld hx hb hX hbl hbA hS (by unfold vp_in; decide) d_law_685 ?_
  refine wi_c (v := 1) (hx1) ?_
  refine lv_aload_n hx hb d_law_686 rfl (lv_at hl 1 rfl) ?_
  refine wc_i (wr := [(md, .inr (12, [.int 0, .int 1, .int 1, .ref q562, .ref q571, .ref q574, .ref q577, .ref q580, .ref q583, .ref q586, .int 0, .int (-1), .int 0, .int 0, .long 0, .ref q599, .ref q600, .ref q601, .ref q602])), (q586, .inr (18, [.int 0, .int 0, .int 0, .int 1, .int 1, .ref z589, .ref z590, .ref z591, .int 0, .ref z592, .int (-1), .int 0, .ref z593, .ref z594, .int (-1), .int 0, .ref z595, .int (-1), .int 15, .ref z596, .ref z597, .ref z598])), (z589, .inl (cI, 65536, .inl (fun _ => 0))), (z590, .inl (cI, 16384, .inl (fun _ => 0))), (z591, .inl (cI, 16384, .inl (fun _ => 0)))]) hC hP hD hS [0, 1, 2, 3, 4, 5] [6, 7, 8, 9, 10] rfl rfl (by decide) (by decide) (tq_runSW (n := 3) (hh := [(0, 9, 12, 13)]) (As := [.ref dm, .int 1, .ref ou]) (rest := []) ⟨hx, hb, hml, hown, htw⟩ (c_hsum_1 l D cI cL B _ dm q83 q84 z87 q89 z92 z93 z94 q95 q101 q107 q116 q120 q124 ou) htw (tw_goodW (fun _ h => h) k797) rfl rfl rfl ⟨Nat.le_of_ble_eq_true rfl, Nat.le_of_ble_eq_true rfl⟩ (htw _ k237) (by decide +kernel) (htw _ k868) (htw _ k869) (wC_pre hC hP hD hS [0, 1, 2, 3, 4, 5] (by decide) rfl) rfl rfl hl.1 rfl (lv_room (Nat.le_of_ble_eq_true rfl)) d_law_687 ⟨Nat.le_of_ble_eq_true rfl, Nat.le_of_ble_eq_true rfl⟩) (fun r1726 u1724 H locs hw1725 hP hD hS => ?_)
  obtain rfl : r1726 = 0 := hw1725
  have hP : va_P D classes [(md, .inr (12, [.int 0, .int 1, .int 1, .ref q562, .ref q571, .ref q574, .ref q577, .ref q580, .ref q583, .ref q586, .int 0, .int (-1), .int 0, .int 0, .long 0, .ref q599, .ref q600, .ref q601, .ref q602])), (q586, .inr (18, [.int 0, .int 0, .int 0, .int 1, .int 1, .ref z589, .ref z590, .ref z591, .int 0, .ref z592, .int (-1), .int 0, .ref z593, .ref z594, .int (-1), .int 0, .ref z595, .int (-1), .int 15, .ref z596, .ref z597, .ref z598])), (z589, .inl (cI, 65536, .inl (fun _ => 0))), (z590, .inl (cI, 16384, .inl (fun _ => 0))), (z591, .inl (cI, 16384, .inl (fun _ => 0))), (ou, .inl (cL, 1, .inr (.inl (vp_updL (fun _ => 0) (0 : Int32).toNatClampNeg 0))))] H := hP
  have hD : va_D A [(md, .inr (12, [.int 0, .int 1, .int 1, .ref q562, .ref q571, .ref q574, .ref q577, .ref q580, .ref q583, .ref q586, .int 0, .int (-1), .int 0, .int 0, .long 0, .ref q599, .ref q600, .ref q601, .ref q602])), (q586, .inr (18, [.int 0, .int 0, .int 0, .int 1, .int 1, .ref z589, .ref z590, .ref z591, .int 0, .ref z592, .int (-1), .int 0, .ref z593, .ref z594, .int (-1), .int 0, .ref z595, .int (-1), .int 15, .ref z596, .ref z597, .ref z598])), (z589, .inl (cI, 65536, .inl (fun _ => 0))), (z590, .inl (cI, 16384, .inl (fun _ => 0))), (z591, .inl (cI, 16384, .inl (fun _ => 0))), (ou, .inl (cL, 1, .inr (.inl (vp_updL (fun _ => 0) (0 : Int32).toNatClampNeg 0))))] := hD
  refine W.widen (k := 138) (n := 124625) (by omega) (by omega) ?_
  refine lv_istore (lv' := [(5, .int 0), (4, .int 0), (3, .ref ou), (2, .ref md), (1, .ref dm), (0, .ref b)]) hx hb d_law_690 hl (by decide) rfl (fun ls hl => ?_)
  refine lv_aload_n hx hb d_law_692 rfl (lv_at hl 3 rfl) ?_
  refine lv_aload_n hx hb d_law_693 rfl (lv_at hl 5 rfl) ?_
  refine lv_iload hx hb d_law_694 (lv_at hl 1 rfl) ?_
  refine lv_iconst (v := 1) hx hb d_law_696 (by decide) ?_
  refine lv_iadd hx hb d_law_697 ?_
  refine wi_c (v := 1) (by decide) ?_
  refine va_sld hx hb hX hbl hbA hS (by unfold vp_in; decide) d_law_698 ?_
  refine wi_c (v := 1) (hx1) ?_
  refine wc_i (wr := [(ou, .inl (cL, 1, .inr (.inl (vp_updL (fun _ => 0) (0 : Int32).toNatClampNeg 0))))]) hC hP hD hS [0, 1, 2, 3, 4] [5] rfl rfl (by decide) (by decide) (va_runV (As := [.int 1]) (rest := []) ⟨hx, hb, hml, hown, htw⟩ (c_Msum_1 l D cI cL B _ md q562 q571 q574 q577 q580 q583 q586 z589 z590 z591 z592 z593 z594 z595 z596 z597 z598 q599 q600 q601 q602) (cwV 1 htw gV_law_101 rfl rfl rfl (by decide +kernel) ⟨Nat.le_of_ble_eq_true rfl, Nat.le_of_ble_eq_true rfl⟩) (wC_preV (As := [.int 1]) hC hP hD hS [0, 1, 2, 3, 4] (by decide) rfl (q0 := 0) rfl rfl) rfl rfl hl.1 rfl (lv_room (Nat.le_of_ble_eq_true rfl)) d_law_699 ⟨Nat.le_of_ble_eq_true rfl, Nat.le_of_ble_eq_true rfl⟩) (fun r1729 u1727 H locs hw1728 hP hD hS => ?_)
  obtain rfl : r1729 = 0 := hw1728
  have hP : va_P D classes [(ou, .inl (cL, 1, .inr (.inl (vp_updL (fun _ => 0) (0 : Int32).toNatClampNeg 0)))), (md, .inr (12, [.int 0, .int 1, .int 1, .ref q562, .ref q571, .ref q574, .ref q577, .ref q580, .ref q583, .ref q586, .int 0, .int (-1), .int 0, .int 0, .long 0, .ref q599, .ref q600, .ref q601, .ref q602]))] H := hP
  have hD : va_D A [(ou, .inl (cL, 1, .inr (.inl (vp_updL (fun _ => 0) (0 : Int32).toNatClampNeg 0)))), (md, .inr (12, [.int 0, .int 1, .int 1, .ref q562, .ref q571, .ref q574, .ref q577, .ref q580, .ref q583, .ref q586, .int 0, .int (-1), .int 0, .int 0, .long 0, .ref q599, .ref q600, .ref q601, .ref q602]))] := hD
  refine W.widen (k := 138) (n := 124625) (by omega) (by omega) ?_
  refine lv_istore (lv' := [(6, .int 0), (5, .int 0), (4, .int 0), (3, .ref ou), (2, .ref md), (1, .ref dm), (0, .ref b)]) hx hb d_law_702 hl (by decide) rfl (fun ls hl => ?_)
  refine lv_aload_n hx hb d_law_704 rfl (lv_at hl 4 rfl) ?_
  refine wc_i (wr := [(ou, .inl (cL, 1, .inr (.inl (vp_updL (fun _ => 0) (0 : Int32).toNatClampNeg 0))))]) hC hP hD hS [1] [0] rfl rfl (by decide) (by decide) (va_runV (As := []) (rest := []) ⟨hx, hb, hml, hown, htw⟩ (c_thrown l D cI cL B _ md 0 1 1 q562 q571 q574 q577 q580 q583 q586 0 (-1) 0 0 0 q599 q600 q601 q602) (cwV 0 htw gV_law_65 rfl rfl rfl (by decide +kernel) ⟨Nat.le_of_ble_eq_true rfl, Nat.le_of_ble_eq_true rfl⟩) (wC_preV (As := []) hC hP hD hS [1] (by decide) rfl (q0 := 1) rfl rfl) rfl rfl hl.1 rfl (lv_room (Nat.le_of_ble_eq_true rfl)) d_law_705 ⟨Nat.le_of_ble_eq_true rfl, Nat.le_of_ble_eq_true rfl⟩) (fun r1732 u1730 H locs hw1731 hP hD hS => ?_)
  obtain rfl : r1732 = 0 := hw1731
  have hP : va_P D classes [(ou, .inl (cL, 1, .inr (.inl (vp_updL (fun _ => 0) (0 : Int32).toNatClampNeg 0)))), (md, .inr (12, [.int 0, .int 1, .int 1, .ref q562, .ref q571, .ref q574, .ref q577, .ref q580, .ref q583, .ref q586, .int 0, .int (-1), .int 0, .int 0, .long 0, .ref q599, .ref q600, .ref q601, .ref q602]))] H := hP
  have hD : va_D A [(ou, .inl (cL, 1, .inr (.inl (vp_updL (fun _ => 0) (0 : Int32).toNatClampNeg 0)))), (md, .inr (12, [.int 0, .int 1, .int 1, .ref q562, .ref q571, .ref q574, .ref q577, .ref q580, .ref q583, .ref q586, .int 0, .int (-1), .int 0, .int 0, .long 0, .ref q599, .ref q600, .ref q601, .ref q602]))] := hD
  refine W.widen (k := 138) (n := 124625) (by omega) (by omega) ?_
  refine lv_iload hx hb d_law_708 (lv_at hl 1 rfl) ?_
  refine lv_icmp_eq (tgt := 715) hx hb d_law_710 (by decide) (fun c_1733 => ?_) (fun c_1733 => absurd c_1733 (by decide))
  refine lv_iload hx hb d_law_715 (lv_at hl 1 rfl) ?_
  refine lv_if_ne (tgt := 732) hx hb d_law_717 (by decide) (fun c_1734 => absurd c_1734 (by decide)) (fun c_1734 => ?_)
  refine lv_aload_n hx hb d_law_720 rfl (lv_at hl 3 rfl) ?_
  refine lv_iconst (v := 0) hx hb d_law_721 (by decide) ?_
  refine va_lald hx hb hC.1 hP 0 1 rfl rfl (by unfold vp_in; decide) d_law_722 ?_
  refine wl_c (v := 0) updL_0 ?_
  refine lv_iload hx hb d_law_723 (lv_at hl 0 rfl) ?_
  refine lv_i2l (v := 0) hx hb d_law_725 (by decide) ?_
  refine W.lcmp hx hb d_law_726 ?_
  refine wi_c (v := 0) (by decide) ?_
  refine lv_if_eq (tgt := 732) hx hb d_law_727 (by decide) (fun c_1735 => ?_) (fun c_1735 => absurd c_1735 (by decide))
  refine lv_goto (tgt := 847) hx hb d_law_732 (by decide) ?_
  refine W.widen (k := 600002) (n := 7302232) (by omega) (by omega) ?_
  exact kk _ _ _ hS (lv_sub hl [2, 6] rfl)

set_option maxHeartbeats 4000000 in
set_option maxRecDepth 100000 in
theorem lc_at_2 {p : Program} {l : Launch} {e : Env} {s : State} {m : MethodId} {args : Array Value} {below : List Frame} {meth : Method} {c : Code} {Q : State → Prop} {A : Nat → Prop} {b : Nat} {xs : Nat → Int32} {H : Heap} {locs : List Loc} {ls : Array Slot} (hfl : l.stackTraces = false) (D : va_G) (cI cL : ClassId) (B : Nat) (hx : p.tables.exec = Jvm.exec) (hb : c.code = code) (hml : c.maxLocals = 7) (hown : s.vm.findClass "DrawingMachineLaw" = some m.cls) (htw : ∀ w ∈ tw, w.before args s = true) (hC : wC D cI cL B A s) (hX : va_X b 6 xs s s.heap) (hbl : b < s.heap.size) (hbA : ¬ A b) (dm : Nat) (md : Nat) (ou : Nat) (q83 : Nat) (q84 : Nat) (z87 : Nat) (q89 : Nat) (z92 : Nat) (z93 : Nat) (z94 : Nat) (q95 : Nat) (q101 : Nat) (q107 : Nat) (q116 : Nat) (q120 : Nat) (q124 : Nat) (q562 : Nat) (q571 : Nat) (q574 : Nat) (q577 : Nat) (q580 : Nat) (q583 : Nat) (q586 : Nat) (z589 : Nat) (z590 : Nat) (z591 : Nat) (z592 : Nat) (z593 : Nat) (z594 : Nat) (z595 : Nat) (z596 : Nat) (z597 : Nat) (z598 : Nat) (q599 : Nat) (q600 : Nat) (q601 : Nat) (q602 : Nat) (hx1 : xs 1 = 0) (hx2 : xs 2 = 0) (hx3 : xs 3 = 2) (kk : ∀ (H : Heap) (locs : List Loc) (ls : Array Slot), va_S A s.heap H locs → lv_has ls 7 [(4, .int 0), (0, .ref b)] → W p l e room_1 s m args below meth c H locs 600002 7302232 Q (F0 m 847 ls [])) (hP : va_P D classes [(dm, .inr (0, [.ref q83, .ref q84, .ref q89, .ref q95, .ref q101, .ref q107, .ref q116, .ref q120, .ref q124])), (q89, .inr (2, [.int 1, .int 1, .ref z92, .ref z93, .ref z94, .ref q84, .ref z87])), (z92, .inl (cI, 1, .inl (fun _ => 0))), (z93, .inl (cI, 1, .inl (fun _ => 0))), (z94, .inl (cI, 1, .inl (fun _ => 0))), (ou, .inl (cL, 1, .inr (.inl (fun _ => 0)))), (md, .inr (12, [.int 0, .int 1, .int 1, .ref q562, .ref q571, .ref q574, .ref q577, .ref q580, .ref q583, .ref q586, .int 0, .int (-1), .int 0, .int 0, .long 0, .ref q599, .ref q600, .ref q601, .ref q602])), (q586, .inr (18, [.int 0, .int 0, .int 0, .int 1, .int 1, .ref z589, .ref z590, .ref z591, .int 0, .ref z592, .int (-1), .int 0, .ref z593, .ref z594, .int (-1), .int 0, .ref z595, .int (-1), .int 15, .ref z596, .ref z597, .ref z598])), (z589, .inl (cI, 65536, .inl (fun _ => 0))), (z590, .inl (cI, 16384, .inl (fun _ => 0))), (z591, .inl (cI, 16384, .inl (fun _ => 0)))] H) (hD : va_D A [(dm, .inr (0, [.ref q83, .ref q84, .ref q89, .ref q95, .ref q101, .ref q107, .ref q116, .ref q120, .ref q124])), (q89, .inr (2, [.int 1, .int 1, .ref z92, .ref z93, .ref z94, .ref q84, .ref z87])), (z92, .inl (cI, 1, .inl (fun _ => 0))), (z93, .inl (cI, 1, .inl (fun _ => 0))), (z94, .inl (cI, 1, .inl (fun _ => 0))), (ou, .inl (cL, 1, .inr (.inl (fun _ => 0)))), (md, .inr (12, [.int 0, .int 1, .int 1, .ref q562, .ref q571, .ref q574, .ref q577, .ref q580, .ref q583, .ref q586, .int 0, .int (-1), .int 0, .int 0, .long 0, .ref q599, .ref q600, .ref q601, .ref q602])), (q586, .inr (18, [.int 0, .int 0, .int 0, .int 1, .int 1, .ref z589, .ref z590, .ref z591, .int 0, .ref z592, .int (-1), .int 0, .ref z593, .ref z594, .int (-1), .int 0, .ref z595, .int (-1), .int 15, .ref z596, .ref z597, .ref z598])), (z589, .inl (cI, 65536, .inl (fun _ => 0))), (z590, .inl (cI, 16384, .inl (fun _ => 0))), (z591, .inl (cI, 16384, .inl (fun _ => 0)))]) (hS : va_S A s.heap H locs) (hl : lv_has ls 7 [(4, .int 0), (3, .ref ou), (2, .ref md), (1, .ref dm), (0, .ref b)]) : W p l e room_1 s m args below meth c H locs 138 124625 Q (F0 m 599 ls []) := by
  refine lv_aload_n hx hb d_law_599 rfl (lv_at hl 3 rfl) ?_
  refine lv_aload_n hx hb d_law_600 rfl (lv_at hl 4 rfl) ?_
  refine lv_iload hx hb d_law_601 (lv_at hl 0 rfl) ?_
  refine lv_iconst (v := 1) hx hb d_law_603 (by decide) ?_
  refine lv_iadd hx hb d_law_604 ?_
  refine wi_c (v := 1) (by decide) ?_
  refine va_sld hx hb hX hbl hbA hS (by unfold vp_in; decide) d_law_605 ?_
  refine wi_c (v := 0) (hx1) ?_
  refine lv_aload_n hx hb d_law_606 rfl (lv_at hl 4 rfl) ?_
  refine lv_iload hx hb d_law_607 (lv_at hl 0 rfl) ?_
  refine lv_iconst (v := 2) hx hb d_law_609 (by decide) ?_
  refine lv_iadd hx hb d_law_610 ?_
  refine wi_c (v := 2) (by decide) ?_
  refine va_sld hx hb hX hbl hbA hS (by unfold vp_in; decide) d_law_611 ?_
  refine wi_c (v := 0) (hx2) ?_
  refine lv_aload_n hx hb d_law_612 rfl (lv_at hl 4 rfl) ?_
  refine lv_iload hx hb d_law_613 (lv_at hl 0 rfl) ?_
  refine lv_iconst (v := 3) hx hb d_law_615 (by decide) ?_
  refine lv_iadd hx hb d_law_616 ?_
  refine wi_c (v := 3) (by decide) ?_
  refine va_sld hx hb hX hbl hbA hS (by unfold vp_in; decide) d_law_617 ?_
  refine wi_c (v := 2) (hx3) ?_
  refine lv_aload_n hx hb d_law_618 rfl (lv_at hl 1 rfl) ?_
  refine wc_i (wr := [(md, .inr (12, [.int 0, .int 1, .int 1, .ref q562, .ref q571, .ref q574, .ref q577, .ref q580, .ref q583, .ref q586, .int 0, .int (-1), .int 0, .int 0, .long 0, .ref q599, .ref q600, .ref q601, .ref q602])), (q586, .inr (18, [.int 0, .int 0, .int 0, .int 1, .int 1, .ref z589, .ref z590, .ref z591, .int 0, .ref z592, .int (-1), .int 0, .ref z593, .ref z594, .int (-1), .int 0, .ref z595, .int (-1), .int 15, .ref z596, .ref z597, .ref z598])), (z589, .inl (cI, 65536, .inl (fun _ => 0))), (z590, .inl (cI, 16384, .inl (fun _ => 0))), (z591, .inl (cI, 16384, .inl (fun _ => 0)))]) hC hP hD hS [0, 1, 2, 3, 4, 5] [6, 7, 8, 9, 10] rfl rfl (by decide) (by decide) (tq_runSW (n := 5) (hh := [(0, 12, 15, 13), (0, 12, 19, 19)]) (As := [.ref dm, .int 0, .int 0, .int 2, .ref ou]) (rest := []) ⟨hx, hb, hml, hown, htw⟩ (c_hat_2 l D cI cL B _ dm q83 q84 z87 q89 z92 z93 z94 q95 q101 q107 q116 q120 q124 ou) htw (tw_goodW (fun _ h => h) k793) rfl rfl rfl ⟨Nat.le_of_ble_eq_true rfl, Nat.le_of_ble_eq_true rfl⟩ (htw _ k237) (by decide +kernel) (htw _ k863) (htw _ k864) (wC_pre hC hP hD hS [0, 1, 2, 3, 4, 5] (by decide) rfl) rfl rfl hl.1 rfl (lv_room (Nat.le_of_ble_eq_true rfl)) d_law_619 ⟨Nat.le_of_ble_eq_true rfl, Nat.le_of_ble_eq_true rfl⟩) (fun r1738 u1736 H locs hw1737 hP hD hS => ?_)
  obtain rfl : r1738 = 0 := hw1737
  have hP : va_P D classes [(md, .inr (12, [.int 0, .int 1, .int 1, .ref q562, .ref q571, .ref q574, .ref q577, .ref q580, .ref q583, .ref q586, .int 0, .int (-1), .int 0, .int 0, .long 0, .ref q599, .ref q600, .ref q601, .ref q602])), (q586, .inr (18, [.int 0, .int 0, .int 0, .int 1, .int 1, .ref z589, .ref z590, .ref z591, .int 0, .ref z592, .int (-1), .int 0, .ref z593, .ref z594, .int (-1), .int 0, .ref z595, .int (-1), .int 15, .ref z596, .ref z597, .ref z598])), (z589, .inl (cI, 65536, .inl (fun _ => 0))), (z590, .inl (cI, 16384, .inl (fun _ => 0))), (z591, .inl (cI, 16384, .inl (fun _ => 0))), (ou, .inl (cL, 1, .inr (.inl (vp_updL (fun _ => 0) (0 : Int32).toNatClampNeg 0))))] H := hP
  have hD : va_D A [(md, .inr (12, [.int 0, .int 1, .int 1, .ref q562, .ref q571, .ref q574, .ref q577, .ref q580, .ref q583, .ref q586, .int 0, .int (-1), .int 0, .int 0, .long 0, .ref q599, .ref q600, .ref q601, .ref q602])), (q586, .inr (18, [.int 0, .int 0, .int 0, .int 1, .int 1, .ref z589, .ref z590, .ref z591, .int 0, .ref z592, .int (-1), .int 0, .ref z593, .ref z594, .int (-1), .int 0, .ref z595, .int (-1), .int 15, .ref z596, .ref z597, .ref z598])), (z589, .inl (cI, 65536, .inl (fun _ => 0))), (z590, .inl (cI, 16384, .inl (fun _ => 0))), (z591, .inl (cI, 16384, .inl (fun _ => 0))), (ou, .inl (cL, 1, .inr (.inl (vp_updL (fun _ => 0) (0 : Int32).toNatClampNeg 0))))] := hD
  refine W.widen (k := 138) (n := 124625) (by omega) (by omega) ?_
  refine lv_istore (lv' := [(5, .int 0), (4, .int 0), (3, .ref ou), (2, .ref md), (1, .ref dm), (0, .ref b)]) hx hb d_law_622 hl (by decide) rfl (fun ls hl => ?_)
  refine lv_aload_n hx hb d_law_624 rfl (lv_at hl 3 rfl) ?_
  refine lv_aload_n hx hb d_law_625 rfl (lv_at hl 5 rfl) ?_
  refine lv_iload hx hb d_law_626 (lv_at hl 1 rfl) ?_
  refine lv_iconst (v := 1) hx hb d_law_628 (by decide) ?_
  refine lv_iadd hx hb d_law_629 ?_
  refine wi_c (v := 1) (by decide) ?_
  refine va_sld hx hb hX hbl hbA hS (by unfold vp_in; decide) d_law_630 ?_
  refine wi_c (v := 0) (hx1) ?_
  refine lv_aload_n hx hb d_law_631 rfl (lv_at hl 5 rfl) ?_
  refine lv_iload hx hb d_law_632 (lv_at hl 1 rfl) ?_
  refine lv_iconst (v := 2) hx hb d_law_634 (by decide) ?_
  refine lv_iadd hx hb d_law_635 ?_
  refine wi_c (v := 2) (by decide) ?_
  refine va_sld hx hb hX hbl hbA hS (by unfold vp_in; decide) d_law_636 ?_
  refine wi_c (v := 0) (hx2) ?_
  refine lv_aload_n hx hb d_law_637 rfl (lv_at hl 5 rfl) ?_
  refine lv_iload hx hb d_law_638 (lv_at hl 1 rfl) ?_
  refine lv_iconst (v := 3) hx hb d_law_640 (by decide) ?_
  refine lv_iadd hx hb d_law_641 ?_
  refine wi_c (v := 3) (by decide) ?_
  refine va_sld hx hb hX hbl hbA hS (by unfold vp_in; decide) d_law_642 ?_
  refine wi_c (v := 2) (hx3) ?_
  refine wc_i (wr := [(ou, .inl (cL, 1, .inr (.inl (vp_updL (fun _ => 0) (0 : Int32).toNatClampNeg 0))))]) hC hP hD hS [0, 1, 2, 3, 4] [5] rfl rfl (by decide) (by decide) (va_runV (As := [.int 0, .int 0, .int 2]) (rest := []) ⟨hx, hb, hml, hown, htw⟩ (c_Mat_2 l D cI cL B _ md q562 q571 q574 q577 q580 q583 q586 z589 z590 z591 z592 z593 z594 z595 z596 z597 z598 q599 q600 q601 q602) (cwV 3 htw gV_law_98 rfl rfl rfl (by decide +kernel) ⟨Nat.le_of_ble_eq_true rfl, Nat.le_of_ble_eq_true rfl⟩) (wC_preV (As := [.int 0, .int 0, .int 2]) hC hP hD hS [0, 1, 2, 3, 4] (by decide) rfl (q0 := 0) rfl rfl) rfl rfl hl.1 rfl (lv_room (Nat.le_of_ble_eq_true rfl)) d_law_643 ⟨Nat.le_of_ble_eq_true rfl, Nat.le_of_ble_eq_true rfl⟩) (fun r1741 u1739 H locs hw1740 hP hD hS => ?_)
  obtain rfl : r1741 = 0 := hw1740
  have hP : va_P D classes [(ou, .inl (cL, 1, .inr (.inl (vp_updL (fun _ => 0) (0 : Int32).toNatClampNeg 0)))), (md, .inr (12, [.int 0, .int 1, .int 1, .ref q562, .ref q571, .ref q574, .ref q577, .ref q580, .ref q583, .ref q586, .int 0, .int (-1), .int 0, .int 0, .long 0, .ref q599, .ref q600, .ref q601, .ref q602]))] H := hP
  have hD : va_D A [(ou, .inl (cL, 1, .inr (.inl (vp_updL (fun _ => 0) (0 : Int32).toNatClampNeg 0)))), (md, .inr (12, [.int 0, .int 1, .int 1, .ref q562, .ref q571, .ref q574, .ref q577, .ref q580, .ref q583, .ref q586, .int 0, .int (-1), .int 0, .int 0, .long 0, .ref q599, .ref q600, .ref q601, .ref q602]))] := hD
  refine W.widen (k := 138) (n := 124625) (by omega) (by omega) ?_
  refine lv_istore (lv' := [(6, .int 0), (5, .int 0), (4, .int 0), (3, .ref ou), (2, .ref md), (1, .ref dm), (0, .ref b)]) hx hb d_law_646 hl (by decide) rfl (fun ls hl => ?_)
  refine lv_aload_n hx hb d_law_648 rfl (lv_at hl 4 rfl) ?_
  refine wc_i (wr := [(ou, .inl (cL, 1, .inr (.inl (vp_updL (fun _ => 0) (0 : Int32).toNatClampNeg 0))))]) hC hP hD hS [1] [0] rfl rfl (by decide) (by decide) (va_runV (As := []) (rest := []) ⟨hx, hb, hml, hown, htw⟩ (c_thrown l D cI cL B _ md 0 1 1 q562 q571 q574 q577 q580 q583 q586 0 (-1) 0 0 0 q599 q600 q601 q602) (cwV 0 htw gV_law_65 rfl rfl rfl (by decide +kernel) ⟨Nat.le_of_ble_eq_true rfl, Nat.le_of_ble_eq_true rfl⟩) (wC_preV (As := []) hC hP hD hS [1] (by decide) rfl (q0 := 1) rfl rfl) rfl rfl hl.1 rfl (lv_room (Nat.le_of_ble_eq_true rfl)) d_law_649 ⟨Nat.le_of_ble_eq_true rfl, Nat.le_of_ble_eq_true rfl⟩) (fun r1744 u1742 H locs hw1743 hP hD hS => ?_)
  obtain rfl : r1744 = 0 := hw1743
  have hP : va_P D classes [(ou, .inl (cL, 1, .inr (.inl (vp_updL (fun _ => 0) (0 : Int32).toNatClampNeg 0)))), (md, .inr (12, [.int 0, .int 1, .int 1, .ref q562, .ref q571, .ref q574, .ref q577, .ref q580, .ref q583, .ref q586, .int 0, .int (-1), .int 0, .int 0, .long 0, .ref q599, .ref q600, .ref q601, .ref q602]))] H := hP
  have hD : va_D A [(ou, .inl (cL, 1, .inr (.inl (vp_updL (fun _ => 0) (0 : Int32).toNatClampNeg 0)))), (md, .inr (12, [.int 0, .int 1, .int 1, .ref q562, .ref q571, .ref q574, .ref q577, .ref q580, .ref q583, .ref q586, .int 0, .int (-1), .int 0, .int 0, .long 0, .ref q599, .ref q600, .ref q601, .ref q602]))] := hD
  refine W.widen (k := 138) (n := 124625) (by omega) (by omega) ?_
  refine lv_iload hx hb d_law_652 (lv_at hl 1 rfl) ?_
  refine lv_icmp_eq (tgt := 659) hx hb d_law_654 (by decide) (fun c_1745 => ?_) (fun c_1745 => absurd c_1745 (by decide))
  refine lv_iload hx hb d_law_659 (lv_at hl 1 rfl) ?_
  refine lv_if_ne (tgt := 676) hx hb d_law_661 (by decide) (fun c_1746 => absurd c_1746 (by decide)) (fun c_1746 => ?_)
  refine lv_aload_n hx hb d_law_664 rfl (lv_at hl 3 rfl) ?_
  refine lv_iconst (v := 0) hx hb d_law_665 (by decide) ?_
  refine va_lald hx hb hC.1 hP 0 1 rfl rfl (by unfold vp_in; decide) d_law_666 ?_
  refine wl_c (v := 0) updL_0 ?_
  refine lv_iload hx hb d_law_667 (lv_at hl 0 rfl) ?_
  refine lv_i2l (v := 0) hx hb d_law_669 (by decide) ?_
  refine W.lcmp hx hb d_law_670 ?_
  refine wi_c (v := 0) (by decide) ?_
  refine lv_if_eq (tgt := 676) hx hb d_law_671 (by decide) (fun c_1747 => ?_) (fun c_1747 => absurd c_1747 (by decide))
  refine lv_goto (tgt := 847) hx hb d_law_676 (by decide) ?_
  refine W.widen (k := 600002) (n := 7302232) (by omega) (by omega) ?_
  exact kk _ _ _ hS (lv_sub hl [2, 6] rfl)

set_option maxHeartbeats 4000000 in
set_option maxRecDepth 100000 in
theorem lc_sum_2 {p : Program} {l : Launch} {e : Env} {s : State} {m : MethodId} {args : Array Value} {below : List Frame} {meth : Method} {c : Code} {Q : State → Prop} {A : Nat → Prop} {b : Nat} {xs : Nat → Int32} {H : Heap} {locs : List Loc} {ls : Array Slot} (hfl : l.stackTraces = false) (D : va_G) (cI cL : ClassId) (B : Nat) (hx : p.tables.exec = Jvm.exec) (hb : c.code = code) (hml : c.maxLocals = 7) (hown : s.vm.findClass "DrawingMachineLaw" = some m.cls) (htw : ∀ w ∈ tw, w.before args s = true) (hC : wC D cI cL B A s) (hX : va_X b 6 xs s s.heap) (hbl : b < s.heap.size) (hbA : ¬ A b) (dm : Nat) (md : Nat) (ou : Nat) (q83 : Nat) (q84 : Nat) (z87 : Nat) (q89 : Nat) (z92 : Nat) (z93 : Nat) (z94 : Nat) (q95 : Nat) (q101 : Nat) (q107 : Nat) (q116 : Nat) (q120 : Nat) (q124 : Nat) (q562 : Nat) (q571 : Nat) (q574 : Nat) (q577 : Nat) (q580 : Nat) (q583 : Nat) (q586 : Nat) (z589 : Nat) (z590 : Nat) (z591 : Nat) (z592 : Nat) (z593 : Nat) (z594 : Nat) (z595 : Nat) (z596 : Nat) (z597 : Nat) (z598 : Nat) (q599 : Nat) (q600 : Nat) (q601 : Nat) (q602 : Nat) (hx1 : xs 1 = 2) (kk : ∀ (H : Heap) (locs : List Loc) (ls : Array Slot), va_S A s.heap H locs → lv_has ls 7 [(4, .int 0), (0, .ref b)] → W p l e room_1 s m args below meth c H locs 600002 7302232 Q (F0 m 847 ls [])) (hP : va_P D classes [(dm, .inr (0, [.ref q83, .ref q84, .ref q89, .ref q95, .ref q101, .ref q107, .ref q116, .ref q120, .ref q124])), (q89, .inr (2, [.int 1, .int 1, .ref z92, .ref z93, .ref z94, .ref q84, .ref z87])), (z92, .inl (cI, 1, .inl (fun _ => 0))), (z93, .inl (cI, 1, .inl (fun _ => 0))), (z94, .inl (cI, 1, .inl (fun _ => 0))), (ou, .inl (cL, 1, .inr (.inl (fun _ => 0)))), (md, .inr (12, [.int 0, .int 1, .int 1, .ref q562, .ref q571, .ref q574, .ref q577, .ref q580, .ref q583, .ref q586, .int 0, .int (-1), .int 0, .int 0, .long 0, .ref q599, .ref q600, .ref q601, .ref q602])), (q586, .inr (18, [.int 0, .int 0, .int 0, .int 1, .int 1, .ref z589, .ref z590, .ref z591, .int 0, .ref z592, .int (-1), .int 0, .ref z593, .ref z594, .int (-1), .int 0, .ref z595, .int (-1), .int 15, .ref z596, .ref z597, .ref z598])), (z589, .inl (cI, 65536, .inl (fun _ => 0))), (z590, .inl (cI, 16384, .inl (fun _ => 0))), (z591, .inl (cI, 16384, .inl (fun _ => 0)))] H) (hD : va_D A [(dm, .inr (0, [.ref q83, .ref q84, .ref q89, .ref q95, .ref q101, .ref q107, .ref q116, .ref q120, .ref q124])), (q89, .inr (2, [.int 1, .int 1, .ref z92, .ref z93, .ref z94, .ref q84, .ref z87])), (z92, .inl (cI, 1, .inl (fun _ => 0))), (z93, .inl (cI, 1, .inl (fun _ => 0))), (z94, .inl (cI, 1, .inl (fun _ => 0))), (ou, .inl (cL, 1, .inr (.inl (fun _ => 0)))), (md, .inr (12, [.int 0, .int 1, .int 1, .ref q562, .ref q571, .ref q574, .ref q577, .ref q580, .ref q583, .ref q586, .int 0, .int (-1), .int 0, .int 0, .long 0, .ref q599, .ref q600, .ref q601, .ref q602])), (q586, .inr (18, [.int 0, .int 0, .int 0, .int 1, .int 1, .ref z589, .ref z590, .ref z591, .int 0, .ref z592, .int (-1), .int 0, .ref z593, .ref z594, .int (-1), .int 0, .ref z595, .int (-1), .int 15, .ref z596, .ref z597, .ref z598])), (z589, .inl (cI, 65536, .inl (fun _ => 0))), (z590, .inl (cI, 16384, .inl (fun _ => 0))), (z591, .inl (cI, 16384, .inl (fun _ => 0)))]) (hS : va_S A s.heap H locs) (hl : lv_has ls 7 [(4, .int 0), (3, .ref ou), (2, .ref md), (1, .ref dm), (0, .ref b)]) : W p l e room_1 s m args below meth c H locs 138 124625 Q (F0 m 679 ls []) := by
  refine lv_aload_n hx hb d_law_679 rfl (lv_at hl 3 rfl) ?_
  refine lv_aload_n hx hb d_law_680 rfl (lv_at hl 4 rfl) ?_
  refine lv_iload hx hb d_law_681 (lv_at hl 0 rfl) ?_
  refine lv_iconst (v := 1) hx hb d_law_683 (by decide) ?_
  refine lv_iadd hx hb d_law_684 ?_
  refine wi_c (v := 1) (by decide) ?_
  refine va_sld hx hb hX hbl hbA hS (by unfold vp_in; decide) d_law_685 ?_
  refine wi_c (v := 2) (hx1) ?_
  refine lv_aload_n hx hb d_law_686 rfl (lv_at hl 1 rfl) ?_
  refine wc_i (wr := [(md, .inr (12, [.int 0, .int 1, .int 1, .ref q562, .ref q571, .ref q574, .ref q577, .ref q580, .ref q583, .ref q586, .int 0, .int (-1), .int 0, .int 0, .long 0, .ref q599, .ref q600, .ref q601, .ref q602])), (q586, .inr (18, [.int 0, .int 0, .int 0, .int 1, .int 1, .ref z589, .ref z590, .ref z591, .int 0, .ref z592, .int (-1), .int 0, .ref z593, .ref z594, .int (-1), .int 0, .ref z595, .int (-1), .int 15, .ref z596, .ref z597, .ref z598])), (z589, .inl (cI, 65536, .inl (fun _ => 0))), (z590, .inl (cI, 16384, .inl (fun _ => 0))), (z591, .inl (cI, 16384, .inl (fun _ => 0)))]) hC hP hD hS [0, 1, 2, 3, 4, 5] [6, 7, 8, 9, 10] rfl rfl (by decide) (by decide) (tq_runSW (n := 3) (hh := [(0, 9, 12, 13)]) (As := [.ref dm, .int 2, .ref ou]) (rest := []) ⟨hx, hb, hml, hown, htw⟩ (c_hsum_2 l D cI cL B _ dm q83 q84 z87 q89 z92 z93 z94 q95 q101 q107 q116 q120 q124 ou) htw (tw_goodW (fun _ h => h) k797) rfl rfl rfl ⟨Nat.le_of_ble_eq_true rfl, Nat.le_of_ble_eq_true rfl⟩ (htw _ k237) (by decide +kernel) (htw _ k868) (htw _ k869) (wC_pre hC hP hD hS [0, 1, 2, 3, 4, 5] (by decide) rfl) rfl rfl hl.1 rfl (lv_room (Nat.le_of_ble_eq_true rfl)) d_law_687 ⟨Nat.le_of_ble_eq_true rfl, Nat.le_of_ble_eq_true rfl⟩) (fun r1750 u1748 H locs hw1749 hP hD hS => ?_)
  obtain rfl : r1750 = 0 := hw1749
  have hP : va_P D classes [(md, .inr (12, [.int 0, .int 1, .int 1, .ref q562, .ref q571, .ref q574, .ref q577, .ref q580, .ref q583, .ref q586, .int 0, .int (-1), .int 0, .int 0, .long 0, .ref q599, .ref q600, .ref q601, .ref q602])), (q586, .inr (18, [.int 0, .int 0, .int 0, .int 1, .int 1, .ref z589, .ref z590, .ref z591, .int 0, .ref z592, .int (-1), .int 0, .ref z593, .ref z594, .int (-1), .int 0, .ref z595, .int (-1), .int 15, .ref z596, .ref z597, .ref z598])), (z589, .inl (cI, 65536, .inl (fun _ => 0))), (z590, .inl (cI, 16384, .inl (fun _ => 0))), (z591, .inl (cI, 16384, .inl (fun _ => 0))), (ou, .inl (cL, 1, .inr (.inl (vp_updL (fun _ => 0) (0 : Int32).toNatClampNeg 0))))] H := hP
  have hD : va_D A [(md, .inr (12, [.int 0, .int 1, .int 1, .ref q562, .ref q571, .ref q574, .ref q577, .ref q580, .ref q583, .ref q586, .int 0, .int (-1), .int 0, .int 0, .long 0, .ref q599, .ref q600, .ref q601, .ref q602])), (q586, .inr (18, [.int 0, .int 0, .int 0, .int 1, .int 1, .ref z589, .ref z590, .ref z591, .int 0, .ref z592, .int (-1), .int 0, .ref z593, .ref z594, .int (-1), .int 0, .ref z595, .int (-1), .int 15, .ref z596, .ref z597, .ref z598])), (z589, .inl (cI, 65536, .inl (fun _ => 0))), (z590, .inl (cI, 16384, .inl (fun _ => 0))), (z591, .inl (cI, 16384, .inl (fun _ => 0))), (ou, .inl (cL, 1, .inr (.inl (vp_updL (fun _ => 0) (0 : Int32).toNatClampNeg 0))))] := hD
  refine W.widen (k := 138) (n := 124625) (by omega) (by omega) ?_
  refine lv_istore (lv' := [(5, .int 0), (4, .int 0), (3, .ref ou), (2, .ref md), (1, .ref dm), (0, .ref b)]) hx hb d_law_690 hl (by decide) rfl (fun ls hl => ?_)
  refine lv_aload_n hx hb d_law_692 rfl (lv_at hl 3 rfl) ?_
  refine lv_aload_n hx hb d_law_693 rfl (lv_at hl 5 rfl) ?_
  refine lv_iload hx hb d_law_694 (lv_at hl 1 rfl) ?_
  refine lv_iconst (v := 1) hx hb d_law_696 (by decide) ?_
  refine lv_iadd hx hb d_law_697 ?_
  refine wi_c (v := 1) (by decide) ?_
  refine va_sld hx hb hX hbl hbA hS (by unfold vp_in; decide) d_law_698 ?_
  refine wi_c (v := 2) (hx1) ?_
  refine wc_i (wr := [(ou, .inl (cL, 1, .inr (.inl (vp_updL (fun _ => 0) (0 : Int32).toNatClampNeg 0))))]) hC hP hD hS [0, 1, 2, 3, 4] [5] rfl rfl (by decide) (by decide) (va_runV (As := [.int 2]) (rest := []) ⟨hx, hb, hml, hown, htw⟩ (c_Msum_2 l D cI cL B _ md q562 q571 q574 q577 q580 q583 q586 z589 z590 z591 z592 z593 z594 z595 z596 z597 z598 q599 q600 q601 q602) (cwV 1 htw gV_law_101 rfl rfl rfl (by decide +kernel) ⟨Nat.le_of_ble_eq_true rfl, Nat.le_of_ble_eq_true rfl⟩) (wC_preV (As := [.int 2]) hC hP hD hS [0, 1, 2, 3, 4] (by decide) rfl (q0 := 0) rfl rfl) rfl rfl hl.1 rfl (lv_room (Nat.le_of_ble_eq_true rfl)) d_law_699 ⟨Nat.le_of_ble_eq_true rfl, Nat.le_of_ble_eq_true rfl⟩) (fun r1753 u1751 H locs hw1752 hP hD hS => ?_)
  obtain rfl : r1753 = 0 := hw1752
  have hP : va_P D classes [(ou, .inl (cL, 1, .inr (.inl (vp_updL (fun _ => 0) (0 : Int32).toNatClampNeg 0)))), (md, .inr (12, [.int 0, .int 1, .int 1, .ref q562, .ref q571, .ref q574, .ref q577, .ref q580, .ref q583, .ref q586, .int 0, .int (-1), .int 0, .int 0, .long 0, .ref q599, .ref q600, .ref q601, .ref q602]))] H := hP
  have hD : va_D A [(ou, .inl (cL, 1, .inr (.inl (vp_updL (fun _ => 0) (0 : Int32).toNatClampNeg 0)))), (md, .inr (12, [.int 0, .int 1, .int 1, .ref q562, .ref q571, .ref q574, .ref q577, .ref q580, .ref q583, .ref q586, .int 0, .int (-1), .int 0, .int 0, .long 0, .ref q599, .ref q600, .ref q601, .ref q602]))] := hD
  refine W.widen (k := 138) (n := 124625) (by omega) (by omega) ?_
  refine lv_istore (lv' := [(6, .int 0), (5, .int 0), (4, .int 0), (3, .ref ou), (2, .ref md), (1, .ref dm), (0, .ref b)]) hx hb d_law_702 hl (by decide) rfl (fun ls hl => ?_)
  refine lv_aload_n hx hb d_law_704 rfl (lv_at hl 4 rfl) ?_
  refine wc_i (wr := [(ou, .inl (cL, 1, .inr (.inl (vp_updL (fun _ => 0) (0 : Int32).toNatClampNeg 0))))]) hC hP hD hS [1] [0] rfl rfl (by decide) (by decide) (va_runV (As := []) (rest := []) ⟨hx, hb, hml, hown, htw⟩ (c_thrown l D cI cL B _ md 0 1 1 q562 q571 q574 q577 q580 q583 q586 0 (-1) 0 0 0 q599 q600 q601 q602) (cwV 0 htw gV_law_65 rfl rfl rfl (by decide +kernel) ⟨Nat.le_of_ble_eq_true rfl, Nat.le_of_ble_eq_true rfl⟩) (wC_preV (As := []) hC hP hD hS [1] (by decide) rfl (q0 := 1) rfl rfl) rfl rfl hl.1 rfl (lv_room (Nat.le_of_ble_eq_true rfl)) d_law_705 ⟨Nat.le_of_ble_eq_true rfl, Nat.le_of_ble_eq_true rfl⟩) (fun r1756 u1754 H locs hw1755 hP hD hS => ?_)
  obtain rfl : r1756 = 0 := hw1755
  have hP : va_P D classes [(ou, .inl (cL, 1, .inr (.inl (vp_updL (fun _ => 0) (0 : Int32).toNatClampNeg 0)))), (md, .inr (12, [.int 0, .int 1, .int 1, .ref q562, .ref q571, .ref q574, .ref q577, .ref q580, .ref q583, .ref q586, .int 0, .int (-1), .int 0, .int 0, .long 0, .ref q599, .ref q600, .ref q601, .ref q602]))] H := hP
  have hD : va_D A [(ou, .inl (cL, 1, .inr (.inl (vp_updL (fun _ => 0) (0 : Int32).toNatClampNeg 0)))), (md, .inr (12, [.int 0, .int 1, .int 1, .ref q562, .ref q571, .ref q574, .ref q577, .ref q580, .ref q583, .ref q586, .int 0, .int (-1), .int 0, .int 0, .long 0, .ref q599, .ref q600, .ref q601, .ref q602]))] := hD
  refine W.widen (k := 138) (n := 124625) (by omega) (by omega) ?_
  refine lv_iload hx hb d_law_708 (lv_at hl 1 rfl) ?_
  refine lv_icmp_eq (tgt := 715) hx hb d_law_710 (by decide) (fun c_1757 => ?_) (fun c_1757 => absurd c_1757 (by decide))
  refine lv_iload hx hb d_law_715 (lv_at hl 1 rfl) ?_
  refine lv_if_ne (tgt := 732) hx hb d_law_717 (by decide) (fun c_1758 => absurd c_1758 (by decide)) (fun c_1758 => ?_)
  refine lv_aload_n hx hb d_law_720 rfl (lv_at hl 3 rfl) ?_
  refine lv_iconst (v := 0) hx hb d_law_721 (by decide) ?_
  refine va_lald hx hb hC.1 hP 0 1 rfl rfl (by unfold vp_in; decide) d_law_722 ?_
  refine wl_c (v := 0) updL_0 ?_
  refine lv_iload hx hb d_law_723 (lv_at hl 0 rfl) ?_
  refine lv_i2l (v := 0) hx hb d_law_725 (by decide) ?_
  refine W.lcmp hx hb d_law_726 ?_
  refine wi_c (v := 0) (by decide) ?_
  refine lv_if_eq (tgt := 732) hx hb d_law_727 (by decide) (fun c_1759 => ?_) (fun c_1759 => absurd c_1759 (by decide))
  refine lv_goto (tgt := 847) hx hb d_law_732 (by decide) ?_
  refine W.widen (k := 600002) (n := 7302232) (by omega) (by omega) ?_
  exact kk _ _ _ hS (lv_sub hl [2, 6] rfl)

set_option maxHeartbeats 4000000 in
set_option maxRecDepth 100000 in
theorem lc_at_bw {p : Program} {l : Launch} {e : Env} {s : State} {m : MethodId} {args : Array Value} {below : List Frame} {meth : Method} {c : Code} {Q : State → Prop} {A : Nat → Prop} {b : Nat} {xs : Nat → Int32} {H : Heap} {locs : List Loc} {ls : Array Slot} (hfl : l.stackTraces = false) (D : va_G) (cI cL : ClassId) (B : Nat) (hx : p.tables.exec = Jvm.exec) (hb : c.code = code) (hml : c.maxLocals = 7) (hown : s.vm.findClass "DrawingMachineLaw" = some m.cls) (htw : ∀ w ∈ tw, w.before args s = true) (hC : wC D cI cL B A s) (hX : va_X b 6 xs s s.heap) (hbl : b < s.heap.size) (hbA : ¬ A b) (dm : Nat) (md : Nat) (ou : Nat) (q83 : Nat) (q84 : Nat) (q89 : Nat) (q95 : Nat) (q101 : Nat) (q107 : Nat) (q116 : Nat) (q120 : Nat) (q124 : Nat) (q562 : Nat) (q571 : Nat) (q574 : Nat) (q577 : Nat) (q580 : Nat) (q583 : Nat) (q586 : Nat) (q599 : Nat) (q600 : Nat) (q601 : Nat) (q602 : Nat) (px : Int32) (py : Int32) (x : Int32) (hbd : x < 0 ∨ 2 < x) (hx1 : xs 1 = px) (hx2 : xs 2 = py) (hx3 : xs 3 = x) (kk : ∀ (H : Heap) (locs : List Loc) (ls : Array Slot), va_S A s.heap H locs → lv_has ls 7 [(4, .int 0), (0, .ref b)] → W p l e room_1 s m args below meth c H locs 600002 7302232 Q (F0 m 847 ls [])) (hP : va_P D classes [(dm, .inr (0, [.ref q83, .ref q84, .ref q89, .ref q95, .ref q101, .ref q107, .ref q116, .ref q120, .ref q124])), (ou, .inl (cL, 1, .inr (.inl (fun _ => 0)))), (md, .inr (12, [.int 0, .int 1, .int 1, .ref q562, .ref q571, .ref q574, .ref q577, .ref q580, .ref q583, .ref q586, .int 0, .int (-1), .int 0, .int 0, .long 0, .ref q599, .ref q600, .ref q601, .ref q602]))] H) (hD : va_D A [(dm, .inr (0, [.ref q83, .ref q84, .ref q89, .ref q95, .ref q101, .ref q107, .ref q116, .ref q120, .ref q124])), (ou, .inl (cL, 1, .inr (.inl (fun _ => 0)))), (md, .inr (12, [.int 0, .int 1, .int 1, .ref q562, .ref q571, .ref q574, .ref q577, .ref q580, .ref q583, .ref q586, .int 0, .int (-1), .int 0, .int 0, .long 0, .ref q599, .ref q600, .ref q601, .ref q602]))]) (hS : va_S A s.heap H locs) (hl : lv_has ls 7 [(4, .int 0), (3, .ref ou), (2, .ref md), (1, .ref dm), (0, .ref b)]) : W p l e room_1 s m args below meth c H locs 138 124625 Q (F0 m 599 ls []) := by
  refine lv_aload_n hx hb d_law_599 rfl (lv_at hl 3 rfl) ?_
  refine lv_aload_n hx hb d_law_600 rfl (lv_at hl 4 rfl) ?_
  refine lv_iload hx hb d_law_601 (lv_at hl 0 rfl) ?_
  refine lv_iconst (v := 1) hx hb d_law_603 (by decide) ?_
  refine lv_iadd hx hb d_law_604 ?_
  refine wi_c (v := 1) (by decide) ?_
  refine va_sld hx hb hX hbl hbA hS (by unfold vp_in; decide) d_law_605 ?_
  refine wi_c (v := px) (hx1) ?_
  refine lv_aload_n hx hb d_law_606 rfl (lv_at hl 4 rfl) ?_
  refine lv_iload hx hb d_law_607 (lv_at hl 0 rfl) ?_
  refine lv_iconst (v := 2) hx hb d_law_609 (by decide) ?_
  refine lv_iadd hx hb d_law_610 ?_
  refine wi_c (v := 2) (by decide) ?_
  refine va_sld hx hb hX hbl hbA hS (by unfold vp_in; decide) d_law_611 ?_
  refine wi_c (v := py) (hx2) ?_
  refine lv_aload_n hx hb d_law_612 rfl (lv_at hl 4 rfl) ?_
  refine lv_iload hx hb d_law_613 (lv_at hl 0 rfl) ?_
  refine lv_iconst (v := 3) hx hb d_law_615 (by decide) ?_
  refine lv_iadd hx hb d_law_616 ?_
  refine wi_c (v := 3) (by decide) ?_
  refine va_sld hx hb hX hbl hbA hS (by unfold vp_in; decide) d_law_617 ?_
  refine wi_c (v := x) (hx3) ?_
  refine lv_aload_n hx hb d_law_618 rfl (lv_at hl 1 rfl) ?_
  refine wc_i (wr := [(md, .inr (12, [.int 0, .int 1, .int 1, .ref q562, .ref q571, .ref q574, .ref q577, .ref q580, .ref q583, .ref q586, .int 0, .int (-1), .int 0, .int 0, .long 0, .ref q599, .ref q600, .ref q601, .ref q602]))]) hC hP hD hS [0, 1] [2] rfl rfl (by decide) (by decide) (tq_runSW (n := 5) (hh := [(0, 12, 15, 13), (0, 12, 19, 19)]) (As := [.ref dm, .int px, .int py, .int x, .ref ou]) (rest := []) ⟨hx, hb, hml, hown, htw⟩ (c_hat_bw l hfl D cI cL B _ dm q83 q84 q89 q95 q101 q107 q116 q120 q124 px py x ou (hbd)) htw (tw_goodW (fun _ h => h) k793) rfl rfl rfl ⟨Nat.le_of_ble_eq_true rfl, Nat.le_of_ble_eq_true rfl⟩ (htw _ k237) (by decide +kernel) (htw _ k863) (htw _ k864) (wC_pre hC hP hD hS [0, 1] (by decide) rfl) rfl rfl hl.1 rfl (lv_room (Nat.le_of_ble_eq_true rfl)) d_law_619 ⟨Nat.le_of_ble_eq_true rfl, Nat.le_of_ble_eq_true rfl⟩) (fun r1762 u1760 H locs hw1761 hP hD hS => ?_)
  obtain rfl : r1762 = 1 := hw1761
  have hP : va_P D classes [(md, .inr (12, [.int 0, .int 1, .int 1, .ref q562, .ref q571, .ref q574, .ref q577, .ref q580, .ref q583, .ref q586, .int 0, .int (-1), .int 0, .int 0, .long 0, .ref q599, .ref q600, .ref q601, .ref q602]))] H := hP
  have hD : va_D A [(md, .inr (12, [.int 0, .int 1, .int 1, .ref q562, .ref q571, .ref q574, .ref q577, .ref q580, .ref q583, .ref q586, .int 0, .int (-1), .int 0, .int 0, .long 0, .ref q599, .ref q600, .ref q601, .ref q602]))] := hD
  refine W.widen (k := 139) (n := 124631) (by omega) (by omega) ?_
  refine lv_istore (lv' := [(5, .int 1), (4, .int 0), (3, .ref ou), (2, .ref md), (1, .ref dm), (0, .ref b)]) hx hb d_law_622 hl (by decide) rfl (fun ls hl => ?_)
  refine lv_aload_n hx hb d_law_624 rfl (lv_at hl 3 rfl) ?_
  refine lv_aload_n hx hb d_law_625 rfl (lv_at hl 5 rfl) ?_
  refine lv_iload hx hb d_law_626 (lv_at hl 1 rfl) ?_
  refine lv_iconst (v := 1) hx hb d_law_628 (by decide) ?_
  refine lv_iadd hx hb d_law_629 ?_
  refine wi_c (v := 1) (by decide) ?_
  refine va_sld hx hb hX hbl hbA hS (by unfold vp_in; decide) d_law_630 ?_
  refine wi_c (v := px) (hx1) ?_
  refine lv_aload_n hx hb d_law_631 rfl (lv_at hl 5 rfl) ?_
  refine lv_iload hx hb d_law_632 (lv_at hl 1 rfl) ?_
  refine lv_iconst (v := 2) hx hb d_law_634 (by decide) ?_
  refine lv_iadd hx hb d_law_635 ?_
  refine wi_c (v := 2) (by decide) ?_
  refine va_sld hx hb hX hbl hbA hS (by unfold vp_in; decide) d_law_636 ?_
  refine wi_c (v := py) (hx2) ?_
  refine lv_aload_n hx hb d_law_637 rfl (lv_at hl 5 rfl) ?_
  refine lv_iload hx hb d_law_638 (lv_at hl 1 rfl) ?_
  refine lv_iconst (v := 3) hx hb d_law_640 (by decide) ?_
  refine lv_iadd hx hb d_law_641 ?_
  refine wi_c (v := 3) (by decide) ?_
  refine va_sld hx hb hX hbl hbA hS (by unfold vp_in; decide) d_law_642 ?_
  refine wi_c (v := x) (hx3) ?_
  refine wc_i (wr := []) hC hP hD hS [0] [] rfl rfl (by decide) (by decide) (va_runV (As := [.int px, .int py, .int x]) (rest := []) ⟨hx, hb, hml, hown, htw⟩ (c_Mat_bw l D cI cL B _ md q562 q571 q574 q577 q580 q583 q586 q599 q600 q601 q602 px py x (hbd)) (cwV 3 htw gV_law_98 rfl rfl rfl (by decide +kernel) ⟨Nat.le_of_ble_eq_true rfl, Nat.le_of_ble_eq_true rfl⟩) (wC_preV (As := [.int px, .int py, .int x]) hC hP hD hS [0] (by decide) rfl (q0 := 0) rfl rfl) rfl rfl hl.1 rfl (lv_room (Nat.le_of_ble_eq_true rfl)) d_law_643 ⟨Nat.le_of_ble_eq_true rfl, Nat.le_of_ble_eq_true rfl⟩) (fun r1765 u1763 H locs hw1764 hP hD hS => ?_)
  obtain rfl : r1765 = 0 := hw1764
  have hP : va_P D classes [(md, .inr (12, [.int 1, .int 1, .int 1, .ref q562, .ref q571, .ref q574, .ref q577, .ref q580, .ref q583, .ref q586, .int 0, .int (-1), .int 0, .int 0, .long 0, .ref q599, .ref q600, .ref q601, .ref q602]))] H := hP
  have hD : va_D A [(md, .inr (12, [.int 1, .int 1, .int 1, .ref q562, .ref q571, .ref q574, .ref q577, .ref q580, .ref q583, .ref q586, .int 0, .int (-1), .int 0, .int 0, .long 0, .ref q599, .ref q600, .ref q601, .ref q602]))] := hD
  refine W.widen (k := 139) (n := 124631) (by omega) (by omega) ?_
  refine lv_istore (lv' := [(6, .int 0), (5, .int 1), (4, .int 0), (3, .ref ou), (2, .ref md), (1, .ref dm), (0, .ref b)]) hx hb d_law_646 hl (by decide) rfl (fun ls hl => ?_)
  refine lv_aload_n hx hb d_law_648 rfl (lv_at hl 4 rfl) ?_
  refine wc_i (wr := []) hC hP hD hS [0] [] rfl rfl (by decide) (by decide) (va_runV (As := []) (rest := []) ⟨hx, hb, hml, hown, htw⟩ (c_thrown l D cI cL B _ md 1 1 1 q562 q571 q574 q577 q580 q583 q586 0 (-1) 0 0 0 q599 q600 q601 q602) (cwV 0 htw gV_law_65 rfl rfl rfl (by decide +kernel) ⟨Nat.le_of_ble_eq_true rfl, Nat.le_of_ble_eq_true rfl⟩) (wC_preV (As := []) hC hP hD hS [0] (by decide) rfl (q0 := 0) rfl rfl) rfl rfl hl.1 rfl (lv_room (Nat.le_of_ble_eq_true rfl)) d_law_649 ⟨Nat.le_of_ble_eq_true rfl, Nat.le_of_ble_eq_true rfl⟩) (fun r1768 u1766 H locs hw1767 hP hD hS => ?_)
  obtain rfl : r1768 = 1 := hw1767
  have hP : va_P D classes [(md, .inr (12, [.int 1, .int 1, .int 1, .ref q562, .ref q571, .ref q574, .ref q577, .ref q580, .ref q583, .ref q586, .int 0, .int (-1), .int 0, .int 0, .long 0, .ref q599, .ref q600, .ref q601, .ref q602]))] H := hP
  have hD : va_D A [(md, .inr (12, [.int 1, .int 1, .int 1, .ref q562, .ref q571, .ref q574, .ref q577, .ref q580, .ref q583, .ref q586, .int 0, .int (-1), .int 0, .int 0, .long 0, .ref q599, .ref q600, .ref q601, .ref q602]))] := hD
  refine W.widen (k := 139) (n := 124631) (by omega) (by omega) ?_
  refine lv_iload hx hb d_law_652 (lv_at hl 1 rfl) ?_
  refine lv_icmp_eq (tgt := 659) hx hb d_law_654 (by decide) (fun c_1769 => ?_) (fun c_1769 => absurd c_1769 (by decide))
  refine lv_iload hx hb d_law_659 (lv_at hl 1 rfl) ?_
  refine lv_if_ne (tgt := 676) hx hb d_law_661 (by decide) (fun c_1770 => ?_) (fun c_1770 => absurd c_1770 (by decide))
  refine lv_goto (tgt := 847) hx hb d_law_676 (by decide) ?_
  refine W.widen (k := 600002) (n := 7302232) (by omega) (by omega) ?_
  exact kk _ _ _ hS (lv_sub hl [2, 6] rfl)

set_option maxHeartbeats 4000000 in
set_option maxRecDepth 100000 in
theorem lc_at_bp1 {p : Program} {l : Launch} {e : Env} {s : State} {m : MethodId} {args : Array Value} {below : List Frame} {meth : Method} {c : Code} {Q : State → Prop} {A : Nat → Prop} {b : Nat} {xs : Nat → Int32} {H : Heap} {locs : List Loc} {ls : Array Slot} (hfl : l.stackTraces = false) (D : va_G) (cI cL : ClassId) (B : Nat) (hx : p.tables.exec = Jvm.exec) (hb : c.code = code) (hml : c.maxLocals = 7) (hown : s.vm.findClass "DrawingMachineLaw" = some m.cls) (htw : ∀ w ∈ tw, w.before args s = true) (hC : wC D cI cL B A s) (hX : va_X b 6 xs s s.heap) (hbl : b < s.heap.size) (hbA : ¬ A b) (dm : Nat) (md : Nat) (ou : Nat) (q83 : Nat) (q84 : Nat) (z87 : Nat) (q89 : Nat) (z92 : Nat) (z93 : Nat) (z94 : Nat) (q95 : Nat) (q101 : Nat) (q107 : Nat) (q116 : Nat) (q120 : Nat) (q124 : Nat) (q562 : Nat) (q571 : Nat) (q574 : Nat) (q577 : Nat) (q580 : Nat) (q583 : Nat) (q586 : Nat) (q599 : Nat) (q600 : Nat) (q601 : Nat) (q602 : Nat) (px : Int32) (py : Int32) (x : Int32) (h1 : ¬ x < 0) (h2 : x ≤ 2) (h3 : ¬ 2 < x) (h4 : ¬ (px = 0 ∧ py = 0)) (hbd : px < 0 ∨ 0 < px) (hx1 : xs 1 = px) (hx2 : xs 2 = py) (hx3 : xs 3 = x) (kk : ∀ (H : Heap) (locs : List Loc) (ls : Array Slot), va_S A s.heap H locs → lv_has ls 7 [(4, .int 0), (0, .ref b)] → W p l e room_1 s m args below meth c H locs 600002 7302232 Q (F0 m 847 ls [])) (hP : va_P D classes [(dm, .inr (0, [.ref q83, .ref q84, .ref q89, .ref q95, .ref q101, .ref q107, .ref q116, .ref q120, .ref q124])), (q89, .inr (2, [.int 1, .int 1, .ref z92, .ref z93, .ref z94, .ref q84, .ref z87])), (ou, .inl (cL, 1, .inr (.inl (fun _ => 0)))), (md, .inr (12, [.int 0, .int 1, .int 1, .ref q562, .ref q571, .ref q574, .ref q577, .ref q580, .ref q583, .ref q586, .int 0, .int (-1), .int 0, .int 0, .long 0, .ref q599, .ref q600, .ref q601, .ref q602]))] H) (hD : va_D A [(dm, .inr (0, [.ref q83, .ref q84, .ref q89, .ref q95, .ref q101, .ref q107, .ref q116, .ref q120, .ref q124])), (q89, .inr (2, [.int 1, .int 1, .ref z92, .ref z93, .ref z94, .ref q84, .ref z87])), (ou, .inl (cL, 1, .inr (.inl (fun _ => 0)))), (md, .inr (12, [.int 0, .int 1, .int 1, .ref q562, .ref q571, .ref q574, .ref q577, .ref q580, .ref q583, .ref q586, .int 0, .int (-1), .int 0, .int 0, .long 0, .ref q599, .ref q600, .ref q601, .ref q602]))]) (hS : va_S A s.heap H locs) (hl : lv_has ls 7 [(4, .int 0), (3, .ref ou), (2, .ref md), (1, .ref dm), (0, .ref b)]) : W p l e room_1 s m args below meth c H locs 138 124625 Q (F0 m 599 ls []) := by
  refine lv_aload_n hx hb d_law_599 rfl (lv_at hl 3 rfl) ?_
  refine lv_aload_n hx hb d_law_600 rfl (lv_at hl 4 rfl) ?_
  refine lv_iload hx hb d_law_601 (lv_at hl 0 rfl) ?_
  refine lv_iconst (v := 1) hx hb d_law_603 (by decide) ?_
  refine lv_iadd hx hb d_law_604 ?_
  refine wi_c (v := 1) (by decide) ?_
  refine va_sld hx hb hX hbl hbA hS (by unfold vp_in; decide) d_law_605 ?_
  refine wi_c (v := px) (hx1) ?_
  refine lv_aload_n hx hb d_law_606 rfl (lv_at hl 4 rfl) ?_
  refine lv_iload hx hb d_law_607 (lv_at hl 0 rfl) ?_
  refine lv_iconst (v := 2) hx hb d_law_609 (by decide) ?_
  refine lv_iadd hx hb d_law_610 ?_
  refine wi_c (v := 2) (by decide) ?_
  refine va_sld hx hb hX hbl hbA hS (by unfold vp_in; decide) d_law_611 ?_
  refine wi_c (v := py) (hx2) ?_
  refine lv_aload_n hx hb d_law_612 rfl (lv_at hl 4 rfl) ?_
  refine lv_iload hx hb d_law_613 (lv_at hl 0 rfl) ?_
  refine lv_iconst (v := 3) hx hb d_law_615 (by decide) ?_
  refine lv_iadd hx hb d_law_616 ?_
  refine wi_c (v := 3) (by decide) ?_
  refine va_sld hx hb hX hbl hbA hS (by unfold vp_in; decide) d_law_617 ?_
  refine wi_c (v := x) (hx3) ?_
  refine lv_aload_n hx hb d_law_618 rfl (lv_at hl 1 rfl) ?_
  refine wc_i (wr := [(md, .inr (12, [.int 0, .int 1, .int 1, .ref q562, .ref q571, .ref q574, .ref q577, .ref q580, .ref q583, .ref q586, .int 0, .int (-1), .int 0, .int 0, .long 0, .ref q599, .ref q600, .ref q601, .ref q602]))]) hC hP hD hS [0, 1, 2] [3] rfl rfl (by decide) (by decide) (tq_runSW (n := 5) (hh := [(0, 12, 15, 13), (0, 12, 19, 19)]) (As := [.ref dm, .int px, .int py, .int x, .ref ou]) (rest := []) ⟨hx, hb, hml, hown, htw⟩ (c_hat_bp l hfl D cI cL B _ dm q83 q84 z87 q89 z92 z93 z94 q95 q101 q107 q116 q120 q124 px py x ou (h1) (h2) (h4)) htw (tw_goodW (fun _ h => h) k793) rfl rfl rfl ⟨Nat.le_of_ble_eq_true rfl, Nat.le_of_ble_eq_true rfl⟩ (htw _ k237) (by decide +kernel) (htw _ k863) (htw _ k864) (wC_pre hC hP hD hS [0, 1, 2] (by decide) rfl) rfl rfl hl.1 rfl (lv_room (Nat.le_of_ble_eq_true rfl)) d_law_619 ⟨Nat.le_of_ble_eq_true rfl, Nat.le_of_ble_eq_true rfl⟩) (fun r1773 u1771 H locs hw1772 hP hD hS => ?_)
  obtain rfl : r1773 = 2 := hw1772
  have hP : va_P D classes [(md, .inr (12, [.int 0, .int 1, .int 1, .ref q562, .ref q571, .ref q574, .ref q577, .ref q580, .ref q583, .ref q586, .int 0, .int (-1), .int 0, .int 0, .long 0, .ref q599, .ref q600, .ref q601, .ref q602]))] H := hP
  have hD : va_D A [(md, .inr (12, [.int 0, .int 1, .int 1, .ref q562, .ref q571, .ref q574, .ref q577, .ref q580, .ref q583, .ref q586, .int 0, .int (-1), .int 0, .int 0, .long 0, .ref q599, .ref q600, .ref q601, .ref q602]))] := hD
  refine W.widen (k := 139) (n := 124631) (by omega) (by omega) ?_
  refine lv_istore (lv' := [(5, .int 2), (4, .int 0), (3, .ref ou), (2, .ref md), (1, .ref dm), (0, .ref b)]) hx hb d_law_622 hl (by decide) rfl (fun ls hl => ?_)
  refine lv_aload_n hx hb d_law_624 rfl (lv_at hl 3 rfl) ?_
  refine lv_aload_n hx hb d_law_625 rfl (lv_at hl 5 rfl) ?_
  refine lv_iload hx hb d_law_626 (lv_at hl 1 rfl) ?_
  refine lv_iconst (v := 1) hx hb d_law_628 (by decide) ?_
  refine lv_iadd hx hb d_law_629 ?_
  refine wi_c (v := 1) (by decide) ?_
  refine va_sld hx hb hX hbl hbA hS (by unfold vp_in; decide) d_law_630 ?_
  refine wi_c (v := px) (hx1) ?_
  refine lv_aload_n hx hb d_law_631 rfl (lv_at hl 5 rfl) ?_
  refine lv_iload hx hb d_law_632 (lv_at hl 1 rfl) ?_
  refine lv_iconst (v := 2) hx hb d_law_634 (by decide) ?_
  refine lv_iadd hx hb d_law_635 ?_
  refine wi_c (v := 2) (by decide) ?_
  refine va_sld hx hb hX hbl hbA hS (by unfold vp_in; decide) d_law_636 ?_
  refine wi_c (v := py) (hx2) ?_
  refine lv_aload_n hx hb d_law_637 rfl (lv_at hl 5 rfl) ?_
  refine lv_iload hx hb d_law_638 (lv_at hl 1 rfl) ?_
  refine lv_iconst (v := 3) hx hb d_law_640 (by decide) ?_
  refine lv_iadd hx hb d_law_641 ?_
  refine wi_c (v := 3) (by decide) ?_
  refine va_sld hx hb hX hbl hbA hS (by unfold vp_in; decide) d_law_642 ?_
  refine wi_c (v := x) (hx3) ?_
  refine wc_i (wr := []) hC hP hD hS [0] [] rfl rfl (by decide) (by decide) (va_runV (As := [.int px, .int py, .int x]) (rest := []) ⟨hx, hb, hml, hown, htw⟩ (c_Mat_bp1 l D cI cL B _ md q562 q571 q574 q577 q580 q583 q586 q599 q600 q601 q602 px py x (h1) (h3) (hbd)) (cwV 3 htw gV_law_98 rfl rfl rfl (by decide +kernel) ⟨Nat.le_of_ble_eq_true rfl, Nat.le_of_ble_eq_true rfl⟩) (wC_preV (As := [.int px, .int py, .int x]) hC hP hD hS [0] (by decide) rfl (q0 := 0) rfl rfl) rfl rfl hl.1 rfl (lv_room (Nat.le_of_ble_eq_true rfl)) d_law_643 ⟨Nat.le_of_ble_eq_true rfl, Nat.le_of_ble_eq_true rfl⟩) (fun r1776 u1774 H locs hw1775 hP hD hS => ?_)
  obtain rfl : r1776 = 0 := hw1775
  have hP : va_P D classes [(md, .inr (12, [.int 2, .int 1, .int 1, .ref q562, .ref q571, .ref q574, .ref q577, .ref q580, .ref q583, .ref q586, .int 0, .int (-1), .int 0, .int 0, .long 0, .ref q599, .ref q600, .ref q601, .ref q602]))] H := hP
  have hD : va_D A [(md, .inr (12, [.int 2, .int 1, .int 1, .ref q562, .ref q571, .ref q574, .ref q577, .ref q580, .ref q583, .ref q586, .int 0, .int (-1), .int 0, .int 0, .long 0, .ref q599, .ref q600, .ref q601, .ref q602]))] := hD
  refine W.widen (k := 139) (n := 124631) (by omega) (by omega) ?_
  refine lv_istore (lv' := [(6, .int 0), (5, .int 2), (4, .int 0), (3, .ref ou), (2, .ref md), (1, .ref dm), (0, .ref b)]) hx hb d_law_646 hl (by decide) rfl (fun ls hl => ?_)
  refine lv_aload_n hx hb d_law_648 rfl (lv_at hl 4 rfl) ?_
  refine wc_i (wr := []) hC hP hD hS [0] [] rfl rfl (by decide) (by decide) (va_runV (As := []) (rest := []) ⟨hx, hb, hml, hown, htw⟩ (c_thrown l D cI cL B _ md 2 1 1 q562 q571 q574 q577 q580 q583 q586 0 (-1) 0 0 0 q599 q600 q601 q602) (cwV 0 htw gV_law_65 rfl rfl rfl (by decide +kernel) ⟨Nat.le_of_ble_eq_true rfl, Nat.le_of_ble_eq_true rfl⟩) (wC_preV (As := []) hC hP hD hS [0] (by decide) rfl (q0 := 0) rfl rfl) rfl rfl hl.1 rfl (lv_room (Nat.le_of_ble_eq_true rfl)) d_law_649 ⟨Nat.le_of_ble_eq_true rfl, Nat.le_of_ble_eq_true rfl⟩) (fun r1779 u1777 H locs hw1778 hP hD hS => ?_)
  obtain rfl : r1779 = 2 := hw1778
  have hP : va_P D classes [(md, .inr (12, [.int 2, .int 1, .int 1, .ref q562, .ref q571, .ref q574, .ref q577, .ref q580, .ref q583, .ref q586, .int 0, .int (-1), .int 0, .int 0, .long 0, .ref q599, .ref q600, .ref q601, .ref q602]))] H := hP
  have hD : va_D A [(md, .inr (12, [.int 2, .int 1, .int 1, .ref q562, .ref q571, .ref q574, .ref q577, .ref q580, .ref q583, .ref q586, .int 0, .int (-1), .int 0, .int 0, .long 0, .ref q599, .ref q600, .ref q601, .ref q602]))] := hD
  refine W.widen (k := 139) (n := 124631) (by omega) (by omega) ?_
  refine lv_iload hx hb d_law_652 (lv_at hl 1 rfl) ?_
  refine lv_icmp_eq (tgt := 659) hx hb d_law_654 (by decide) (fun c_1780 => ?_) (fun c_1780 => absurd c_1780 (by decide))
  refine lv_iload hx hb d_law_659 (lv_at hl 1 rfl) ?_
  refine lv_if_ne (tgt := 676) hx hb d_law_661 (by decide) (fun c_1781 => ?_) (fun c_1781 => absurd c_1781 (by decide))
  refine lv_goto (tgt := 847) hx hb d_law_676 (by decide) ?_
  refine W.widen (k := 600002) (n := 7302232) (by omega) (by omega) ?_
  exact kk _ _ _ hS (lv_sub hl [2, 6] rfl)

set_option maxHeartbeats 4000000 in
set_option maxRecDepth 100000 in
theorem lc_at_bp2 {p : Program} {l : Launch} {e : Env} {s : State} {m : MethodId} {args : Array Value} {below : List Frame} {meth : Method} {c : Code} {Q : State → Prop} {A : Nat → Prop} {b : Nat} {xs : Nat → Int32} {H : Heap} {locs : List Loc} {ls : Array Slot} (hfl : l.stackTraces = false) (D : va_G) (cI cL : ClassId) (B : Nat) (hx : p.tables.exec = Jvm.exec) (hb : c.code = code) (hml : c.maxLocals = 7) (hown : s.vm.findClass "DrawingMachineLaw" = some m.cls) (htw : ∀ w ∈ tw, w.before args s = true) (hC : wC D cI cL B A s) (hX : va_X b 6 xs s s.heap) (hbl : b < s.heap.size) (hbA : ¬ A b) (dm : Nat) (md : Nat) (ou : Nat) (q83 : Nat) (q84 : Nat) (z87 : Nat) (q89 : Nat) (z92 : Nat) (z93 : Nat) (z94 : Nat) (q95 : Nat) (q101 : Nat) (q107 : Nat) (q116 : Nat) (q120 : Nat) (q124 : Nat) (q562 : Nat) (q571 : Nat) (q574 : Nat) (q577 : Nat) (q580 : Nat) (q583 : Nat) (q586 : Nat) (q599 : Nat) (q600 : Nat) (q601 : Nat) (q602 : Nat) (py : Int32) (x : Int32) (h1 : ¬ x < 0) (h2 : x ≤ 2) (h3 : ¬ 2 < x) (h4 : ¬ ((0 : Int32) = 0 ∧ py = 0)) (hbd : py < 0 ∨ 0 < py) (hx1 : xs 1 = 0) (hx2 : xs 2 = py) (hx3 : xs 3 = x) (kk : ∀ (H : Heap) (locs : List Loc) (ls : Array Slot), va_S A s.heap H locs → lv_has ls 7 [(4, .int 0), (0, .ref b)] → W p l e room_1 s m args below meth c H locs 600002 7302232 Q (F0 m 847 ls [])) (hP : va_P D classes [(dm, .inr (0, [.ref q83, .ref q84, .ref q89, .ref q95, .ref q101, .ref q107, .ref q116, .ref q120, .ref q124])), (q89, .inr (2, [.int 1, .int 1, .ref z92, .ref z93, .ref z94, .ref q84, .ref z87])), (ou, .inl (cL, 1, .inr (.inl (fun _ => 0)))), (md, .inr (12, [.int 0, .int 1, .int 1, .ref q562, .ref q571, .ref q574, .ref q577, .ref q580, .ref q583, .ref q586, .int 0, .int (-1), .int 0, .int 0, .long 0, .ref q599, .ref q600, .ref q601, .ref q602]))] H) (hD : va_D A [(dm, .inr (0, [.ref q83, .ref q84, .ref q89, .ref q95, .ref q101, .ref q107, .ref q116, .ref q120, .ref q124])), (q89, .inr (2, [.int 1, .int 1, .ref z92, .ref z93, .ref z94, .ref q84, .ref z87])), (ou, .inl (cL, 1, .inr (.inl (fun _ => 0)))), (md, .inr (12, [.int 0, .int 1, .int 1, .ref q562, .ref q571, .ref q574, .ref q577, .ref q580, .ref q583, .ref q586, .int 0, .int (-1), .int 0, .int 0, .long 0, .ref q599, .ref q600, .ref q601, .ref q602]))]) (hS : va_S A s.heap H locs) (hl : lv_has ls 7 [(4, .int 0), (3, .ref ou), (2, .ref md), (1, .ref dm), (0, .ref b)]) : W p l e room_1 s m args below meth c H locs 138 124625 Q (F0 m 599 ls []) := by
  refine lv_aload_n hx hb d_law_599 rfl (lv_at hl 3 rfl) ?_
  refine lv_aload_n hx hb d_law_600 rfl (lv_at hl 4 rfl) ?_
  refine lv_iload hx hb d_law_601 (lv_at hl 0 rfl) ?_
  refine lv_iconst (v := 1) hx hb d_law_603 (by decide) ?_
  refine lv_iadd hx hb d_law_604 ?_
  refine wi_c (v := 1) (by decide) ?_
  refine va_sld hx hb hX hbl hbA hS (by unfold vp_in; decide) d_law_605 ?_
  refine wi_c (v := 0) (hx1) ?_
  refine lv_aload_n hx hb d_law_606 rfl (lv_at hl 4 rfl) ?_
  refine lv_iload hx hb d_law_607 (lv_at hl 0 rfl) ?_
  refine lv_iconst (v := 2) hx hb d_law_609 (by decide) ?_
  refine lv_iadd hx hb d_law_610 ?_
  refine wi_c (v := 2) (by decide) ?_
  refine va_sld hx hb hX hbl hbA hS (by unfold vp_in; decide) d_law_611 ?_
  refine wi_c (v := py) (hx2) ?_
  refine lv_aload_n hx hb d_law_612 rfl (lv_at hl 4 rfl) ?_
  refine lv_iload hx hb d_law_613 (lv_at hl 0 rfl) ?_
  refine lv_iconst (v := 3) hx hb d_law_615 (by decide) ?_
  refine lv_iadd hx hb d_law_616 ?_
  refine wi_c (v := 3) (by decide) ?_
  refine va_sld hx hb hX hbl hbA hS (by unfold vp_in; decide) d_law_617 ?_
  refine wi_c (v := x) (hx3) ?_
  refine lv_aload_n hx hb d_law_618 rfl (lv_at hl 1 rfl) ?_
  refine wc_i (wr := [(md, .inr (12, [.int 0, .int 1, .int 1, .ref q562, .ref q571, .ref q574, .ref q577, .ref q580, .ref q583, .ref q586, .int 0, .int (-1), .int 0, .int 0, .long 0, .ref q599, .ref q600, .ref q601, .ref q602]))]) hC hP hD hS [0, 1, 2] [3] rfl rfl (by decide) (by decide) (tq_runSW (n := 5) (hh := [(0, 12, 15, 13), (0, 12, 19, 19)]) (As := [.ref dm, .int 0, .int py, .int x, .ref ou]) (rest := []) ⟨hx, hb, hml, hown, htw⟩ (c_hat_bp l hfl D cI cL B _ dm q83 q84 z87 q89 z92 z93 z94 q95 q101 q107 q116 q120 q124 0 py x ou (h1) (h2) (h4)) htw (tw_goodW (fun _ h => h) k793) rfl rfl rfl ⟨Nat.le_of_ble_eq_true rfl, Nat.le_of_ble_eq_true rfl⟩ (htw _ k237) (by decide +kernel) (htw _ k863) (htw _ k864) (wC_pre hC hP hD hS [0, 1, 2] (by decide) rfl) rfl rfl hl.1 rfl (lv_room (Nat.le_of_ble_eq_true rfl)) d_law_619 ⟨Nat.le_of_ble_eq_true rfl, Nat.le_of_ble_eq_true rfl⟩) (fun r1784 u1782 H locs hw1783 hP hD hS => ?_)
  obtain rfl : r1784 = 2 := hw1783
  have hP : va_P D classes [(md, .inr (12, [.int 0, .int 1, .int 1, .ref q562, .ref q571, .ref q574, .ref q577, .ref q580, .ref q583, .ref q586, .int 0, .int (-1), .int 0, .int 0, .long 0, .ref q599, .ref q600, .ref q601, .ref q602]))] H := hP
  have hD : va_D A [(md, .inr (12, [.int 0, .int 1, .int 1, .ref q562, .ref q571, .ref q574, .ref q577, .ref q580, .ref q583, .ref q586, .int 0, .int (-1), .int 0, .int 0, .long 0, .ref q599, .ref q600, .ref q601, .ref q602]))] := hD
  refine W.widen (k := 139) (n := 124631) (by omega) (by omega) ?_
  refine lv_istore (lv' := [(5, .int 2), (4, .int 0), (3, .ref ou), (2, .ref md), (1, .ref dm), (0, .ref b)]) hx hb d_law_622 hl (by decide) rfl (fun ls hl => ?_)
  refine lv_aload_n hx hb d_law_624 rfl (lv_at hl 3 rfl) ?_
  refine lv_aload_n hx hb d_law_625 rfl (lv_at hl 5 rfl) ?_
  refine lv_iload hx hb d_law_626 (lv_at hl 1 rfl) ?_
  refine lv_iconst (v := 1) hx hb d_law_628 (by decide) ?_
  refine lv_iadd hx hb d_law_629 ?_
  refine wi_c (v := 1) (by decide) ?_
  refine va_sld hx hb hX hbl hbA hS (by unfold vp_in; decide) d_law_630 ?_
  refine wi_c (v := 0) (hx1) ?_
  refine lv_aload_n hx hb d_law_631 rfl (lv_at hl 5 rfl) ?_
  refine lv_iload hx hb d_law_632 (lv_at hl 1 rfl) ?_
  refine lv_iconst (v := 2) hx hb d_law_634 (by decide) ?_
  refine lv_iadd hx hb d_law_635 ?_
  refine wi_c (v := 2) (by decide) ?_
  refine va_sld hx hb hX hbl hbA hS (by unfold vp_in; decide) d_law_636 ?_
  refine wi_c (v := py) (hx2) ?_
  refine lv_aload_n hx hb d_law_637 rfl (lv_at hl 5 rfl) ?_
  refine lv_iload hx hb d_law_638 (lv_at hl 1 rfl) ?_
  refine lv_iconst (v := 3) hx hb d_law_640 (by decide) ?_
  refine lv_iadd hx hb d_law_641 ?_
  refine wi_c (v := 3) (by decide) ?_
  refine va_sld hx hb hX hbl hbA hS (by unfold vp_in; decide) d_law_642 ?_
  refine wi_c (v := x) (hx3) ?_
  refine wc_i (wr := []) hC hP hD hS [0] [] rfl rfl (by decide) (by decide) (va_runV (As := [.int 0, .int py, .int x]) (rest := []) ⟨hx, hb, hml, hown, htw⟩ (c_Mat_bp2 l D cI cL B _ md q562 q571 q574 q577 q580 q583 q586 q599 q600 q601 q602 py x (h1) (h3) (hbd)) (cwV 3 htw gV_law_98 rfl rfl rfl (by decide +kernel) ⟨Nat.le_of_ble_eq_true rfl, Nat.le_of_ble_eq_true rfl⟩) (wC_preV (As := [.int 0, .int py, .int x]) hC hP hD hS [0] (by decide) rfl (q0 := 0) rfl rfl) rfl rfl hl.1 rfl (lv_room (Nat.le_of_ble_eq_true rfl)) d_law_643 ⟨Nat.le_of_ble_eq_true rfl, Nat.le_of_ble_eq_true rfl⟩) (fun r1787 u1785 H locs hw1786 hP hD hS => ?_)
  obtain rfl : r1787 = 0 := hw1786
  have hP : va_P D classes [(md, .inr (12, [.int 2, .int 1, .int 1, .ref q562, .ref q571, .ref q574, .ref q577, .ref q580, .ref q583, .ref q586, .int 0, .int (-1), .int 0, .int 0, .long 0, .ref q599, .ref q600, .ref q601, .ref q602]))] H := hP
  have hD : va_D A [(md, .inr (12, [.int 2, .int 1, .int 1, .ref q562, .ref q571, .ref q574, .ref q577, .ref q580, .ref q583, .ref q586, .int 0, .int (-1), .int 0, .int 0, .long 0, .ref q599, .ref q600, .ref q601, .ref q602]))] := hD
  refine W.widen (k := 139) (n := 124631) (by omega) (by omega) ?_
  refine lv_istore (lv' := [(6, .int 0), (5, .int 2), (4, .int 0), (3, .ref ou), (2, .ref md), (1, .ref dm), (0, .ref b)]) hx hb d_law_646 hl (by decide) rfl (fun ls hl => ?_)
  refine lv_aload_n hx hb d_law_648 rfl (lv_at hl 4 rfl) ?_
  refine wc_i (wr := []) hC hP hD hS [0] [] rfl rfl (by decide) (by decide) (va_runV (As := []) (rest := []) ⟨hx, hb, hml, hown, htw⟩ (c_thrown l D cI cL B _ md 2 1 1 q562 q571 q574 q577 q580 q583 q586 0 (-1) 0 0 0 q599 q600 q601 q602) (cwV 0 htw gV_law_65 rfl rfl rfl (by decide +kernel) ⟨Nat.le_of_ble_eq_true rfl, Nat.le_of_ble_eq_true rfl⟩) (wC_preV (As := []) hC hP hD hS [0] (by decide) rfl (q0 := 0) rfl rfl) rfl rfl hl.1 rfl (lv_room (Nat.le_of_ble_eq_true rfl)) d_law_649 ⟨Nat.le_of_ble_eq_true rfl, Nat.le_of_ble_eq_true rfl⟩) (fun r1790 u1788 H locs hw1789 hP hD hS => ?_)
  obtain rfl : r1790 = 2 := hw1789
  have hP : va_P D classes [(md, .inr (12, [.int 2, .int 1, .int 1, .ref q562, .ref q571, .ref q574, .ref q577, .ref q580, .ref q583, .ref q586, .int 0, .int (-1), .int 0, .int 0, .long 0, .ref q599, .ref q600, .ref q601, .ref q602]))] H := hP
  have hD : va_D A [(md, .inr (12, [.int 2, .int 1, .int 1, .ref q562, .ref q571, .ref q574, .ref q577, .ref q580, .ref q583, .ref q586, .int 0, .int (-1), .int 0, .int 0, .long 0, .ref q599, .ref q600, .ref q601, .ref q602]))] := hD
  refine W.widen (k := 139) (n := 124631) (by omega) (by omega) ?_
  refine lv_iload hx hb d_law_652 (lv_at hl 1 rfl) ?_
  refine lv_icmp_eq (tgt := 659) hx hb d_law_654 (by decide) (fun c_1791 => ?_) (fun c_1791 => absurd c_1791 (by decide))
  refine lv_iload hx hb d_law_659 (lv_at hl 1 rfl) ?_
  refine lv_if_ne (tgt := 676) hx hb d_law_661 (by decide) (fun c_1792 => ?_) (fun c_1792 => absurd c_1792 (by decide))
  refine lv_goto (tgt := 847) hx hb d_law_676 (by decide) ?_
  refine W.widen (k := 600002) (n := 7302232) (by omega) (by omega) ?_
  exact kk _ _ _ hS (lv_sub hl [2, 6] rfl)

set_option maxHeartbeats 4000000 in
set_option maxRecDepth 100000 in
theorem lc_sum_b {p : Program} {l : Launch} {e : Env} {s : State} {m : MethodId} {args : Array Value} {below : List Frame} {meth : Method} {c : Code} {Q : State → Prop} {A : Nat → Prop} {b : Nat} {xs : Nat → Int32} {H : Heap} {locs : List Loc} {ls : Array Slot} (hfl : l.stackTraces = false) (D : va_G) (cI cL : ClassId) (B : Nat) (hx : p.tables.exec = Jvm.exec) (hb : c.code = code) (hml : c.maxLocals = 7) (hown : s.vm.findClass "DrawingMachineLaw" = some m.cls) (htw : ∀ w ∈ tw, w.before args s = true) (hC : wC D cI cL B A s) (hX : va_X b 6 xs s s.heap) (hbl : b < s.heap.size) (hbA : ¬ A b) (dm : Nat) (md : Nat) (ou : Nat) (q83 : Nat) (q84 : Nat) (q89 : Nat) (q95 : Nat) (q101 : Nat) (q107 : Nat) (q116 : Nat) (q120 : Nat) (q124 : Nat) (q562 : Nat) (q571 : Nat) (q574 : Nat) (q577 : Nat) (q580 : Nat) (q583 : Nat) (q586 : Nat) (q599 : Nat) (q600 : Nat) (q601 : Nat) (q602 : Nat) (x : Int32) (hbd : x < 0 ∨ 2 < x) (hx1 : xs 1 = x) (kk : ∀ (H : Heap) (locs : List Loc) (ls : Array Slot), va_S A s.heap H locs → lv_has ls 7 [(4, .int 0), (0, .ref b)] → W p l e room_1 s m args below meth c H locs 600002 7302232 Q (F0 m 847 ls [])) (hP : va_P D classes [(dm, .inr (0, [.ref q83, .ref q84, .ref q89, .ref q95, .ref q101, .ref q107, .ref q116, .ref q120, .ref q124])), (ou, .inl (cL, 1, .inr (.inl (fun _ => 0)))), (md, .inr (12, [.int 0, .int 1, .int 1, .ref q562, .ref q571, .ref q574, .ref q577, .ref q580, .ref q583, .ref q586, .int 0, .int (-1), .int 0, .int 0, .long 0, .ref q599, .ref q600, .ref q601, .ref q602]))] H) (hD : va_D A [(dm, .inr (0, [.ref q83, .ref q84, .ref q89, .ref q95, .ref q101, .ref q107, .ref q116, .ref q120, .ref q124])), (ou, .inl (cL, 1, .inr (.inl (fun _ => 0)))), (md, .inr (12, [.int 0, .int 1, .int 1, .ref q562, .ref q571, .ref q574, .ref q577, .ref q580, .ref q583, .ref q586, .int 0, .int (-1), .int 0, .int 0, .long 0, .ref q599, .ref q600, .ref q601, .ref q602]))]) (hS : va_S A s.heap H locs) (hl : lv_has ls 7 [(4, .int 0), (3, .ref ou), (2, .ref md), (1, .ref dm), (0, .ref b)]) : W p l e room_1 s m args below meth c H locs 138 124625 Q (F0 m 679 ls []) := by
  refine lv_aload_n hx hb d_law_679 rfl (lv_at hl 3 rfl) ?_
  refine lv_aload_n hx hb d_law_680 rfl (lv_at hl 4 rfl) ?_
  refine lv_iload hx hb d_law_681 (lv_at hl 0 rfl) ?_
  refine lv_iconst (v := 1) hx hb d_law_683 (by decide) ?_
  refine lv_iadd hx hb d_law_684 ?_
  refine wi_c (v := 1) (by decide) ?_
  refine va_sld hx hb hX hbl hbA hS (by unfold vp_in; decide) d_law_685 ?_
  refine wi_c (v := x) (hx1) ?_
  refine lv_aload_n hx hb d_law_686 rfl (lv_at hl 1 rfl) ?_
  refine wc_i (wr := [(md, .inr (12, [.int 0, .int 1, .int 1, .ref q562, .ref q571, .ref q574, .ref q577, .ref q580, .ref q583, .ref q586, .int 0, .int (-1), .int 0, .int 0, .long 0, .ref q599, .ref q600, .ref q601, .ref q602]))]) hC hP hD hS [0, 1] [2] rfl rfl (by decide) (by decide) (tq_runSW (n := 3) (hh := [(0, 9, 12, 13)]) (As := [.ref dm, .int x, .ref ou]) (rest := []) ⟨hx, hb, hml, hown, htw⟩ (c_hsum_b l hfl D cI cL B _ dm q83 q84 q89 q95 q101 q107 q116 q120 q124 x ou (hbd)) htw (tw_goodW (fun _ h => h) k797) rfl rfl rfl ⟨Nat.le_of_ble_eq_true rfl, Nat.le_of_ble_eq_true rfl⟩ (htw _ k237) (by decide +kernel) (htw _ k868) (htw _ k869) (wC_pre hC hP hD hS [0, 1] (by decide) rfl) rfl rfl hl.1 rfl (lv_room (Nat.le_of_ble_eq_true rfl)) d_law_687 ⟨Nat.le_of_ble_eq_true rfl, Nat.le_of_ble_eq_true rfl⟩) (fun r1795 u1793 H locs hw1794 hP hD hS => ?_)
  obtain rfl : r1795 = 1 := hw1794
  have hP : va_P D classes [(md, .inr (12, [.int 0, .int 1, .int 1, .ref q562, .ref q571, .ref q574, .ref q577, .ref q580, .ref q583, .ref q586, .int 0, .int (-1), .int 0, .int 0, .long 0, .ref q599, .ref q600, .ref q601, .ref q602]))] H := hP
  have hD : va_D A [(md, .inr (12, [.int 0, .int 1, .int 1, .ref q562, .ref q571, .ref q574, .ref q577, .ref q580, .ref q583, .ref q586, .int 0, .int (-1), .int 0, .int 0, .long 0, .ref q599, .ref q600, .ref q601, .ref q602]))] := hD
  refine W.widen (k := 139) (n := 124631) (by omega) (by omega) ?_
  refine lv_istore (lv' := [(5, .int 1), (4, .int 0), (3, .ref ou), (2, .ref md), (1, .ref dm), (0, .ref b)]) hx hb d_law_690 hl (by decide) rfl (fun ls hl => ?_)
  refine lv_aload_n hx hb d_law_692 rfl (lv_at hl 3 rfl) ?_
  refine lv_aload_n hx hb d_law_693 rfl (lv_at hl 5 rfl) ?_
  refine lv_iload hx hb d_law_694 (lv_at hl 1 rfl) ?_
  refine lv_iconst (v := 1) hx hb d_law_696 (by decide) ?_
  refine lv_iadd hx hb d_law_697 ?_
  refine wi_c (v := 1) (by decide) ?_
  refine va_sld hx hb hX hbl hbA hS (by unfold vp_in; decide) d_law_698 ?_
  refine wi_c (v := x) (hx1) ?_
  refine wc_i (wr := []) hC hP hD hS [0] [] rfl rfl (by decide) (by decide) (va_runV (As := [.int x]) (rest := []) ⟨hx, hb, hml, hown, htw⟩ (c_Msum_b l D cI cL B _ md q562 q571 q574 q577 q580 q583 q586 q599 q600 q601 q602 x (hbd)) (cwV 1 htw gV_law_101 rfl rfl rfl (by decide +kernel) ⟨Nat.le_of_ble_eq_true rfl, Nat.le_of_ble_eq_true rfl⟩) (wC_preV (As := [.int x]) hC hP hD hS [0] (by decide) rfl (q0 := 0) rfl rfl) rfl rfl hl.1 rfl (lv_room (Nat.le_of_ble_eq_true rfl)) d_law_699 ⟨Nat.le_of_ble_eq_true rfl, Nat.le_of_ble_eq_true rfl⟩) (fun r1798 u1796 H locs hw1797 hP hD hS => ?_)
  obtain rfl : r1798 = 0 := hw1797
  have hP : va_P D classes [(md, .inr (12, [.int 1, .int 1, .int 1, .ref q562, .ref q571, .ref q574, .ref q577, .ref q580, .ref q583, .ref q586, .int 0, .int (-1), .int 0, .int 0, .long 0, .ref q599, .ref q600, .ref q601, .ref q602]))] H := hP
  have hD : va_D A [(md, .inr (12, [.int 1, .int 1, .int 1, .ref q562, .ref q571, .ref q574, .ref q577, .ref q580, .ref q583, .ref q586, .int 0, .int (-1), .int 0, .int 0, .long 0, .ref q599, .ref q600, .ref q601, .ref q602]))] := hD
  refine W.widen (k := 139) (n := 124631) (by omega) (by omega) ?_
  refine lv_istore (lv' := [(6, .int 0), (5, .int 1), (4, .int 0), (3, .ref ou), (2, .ref md), (1, .ref dm), (0, .ref b)]) hx hb d_law_702 hl (by decide) rfl (fun ls hl => ?_)
  refine lv_aload_n hx hb d_law_704 rfl (lv_at hl 4 rfl) ?_
  refine wc_i (wr := []) hC hP hD hS [0] [] rfl rfl (by decide) (by decide) (va_runV (As := []) (rest := []) ⟨hx, hb, hml, hown, htw⟩ (c_thrown l D cI cL B _ md 1 1 1 q562 q571 q574 q577 q580 q583 q586 0 (-1) 0 0 0 q599 q600 q601 q602) (cwV 0 htw gV_law_65 rfl rfl rfl (by decide +kernel) ⟨Nat.le_of_ble_eq_true rfl, Nat.le_of_ble_eq_true rfl⟩) (wC_preV (As := []) hC hP hD hS [0] (by decide) rfl (q0 := 0) rfl rfl) rfl rfl hl.1 rfl (lv_room (Nat.le_of_ble_eq_true rfl)) d_law_705 ⟨Nat.le_of_ble_eq_true rfl, Nat.le_of_ble_eq_true rfl⟩) (fun r1801 u1799 H locs hw1800 hP hD hS => ?_)
  obtain rfl : r1801 = 1 := hw1800
  have hP : va_P D classes [(md, .inr (12, [.int 1, .int 1, .int 1, .ref q562, .ref q571, .ref q574, .ref q577, .ref q580, .ref q583, .ref q586, .int 0, .int (-1), .int 0, .int 0, .long 0, .ref q599, .ref q600, .ref q601, .ref q602]))] H := hP
  have hD : va_D A [(md, .inr (12, [.int 1, .int 1, .int 1, .ref q562, .ref q571, .ref q574, .ref q577, .ref q580, .ref q583, .ref q586, .int 0, .int (-1), .int 0, .int 0, .long 0, .ref q599, .ref q600, .ref q601, .ref q602]))] := hD
  refine W.widen (k := 139) (n := 124631) (by omega) (by omega) ?_
  refine lv_iload hx hb d_law_708 (lv_at hl 1 rfl) ?_
  refine lv_icmp_eq (tgt := 715) hx hb d_law_710 (by decide) (fun c_1802 => ?_) (fun c_1802 => absurd c_1802 (by decide))
  refine lv_iload hx hb d_law_715 (lv_at hl 1 rfl) ?_
  refine lv_if_ne (tgt := 732) hx hb d_law_717 (by decide) (fun c_1803 => ?_) (fun c_1803 => absurd c_1803 (by decide))
  refine lv_goto (tgt := 847) hx hb d_law_732 (by decide) ?_
  refine W.widen (k := 600002) (n := 7302232) (by omega) (by omega) ?_
  exact kk _ _ _ hS (lv_sub hl [2, 6] rfl)

theorem d_law_735 : decode code 735 = .ok (.aload_n 1, 1) := by decide +kernel
theorem d_law_736 : decode code 736 = .ok (.aload_n 0, 1) := by decide +kernel
theorem d_law_737 : decode code 737 = .ok (.iload 4, 2) := by decide +kernel
theorem d_law_739 : decode code 739 = .ok (.iconst 1, 1) := by decide +kernel
theorem d_law_740 : decode code 740 = .ok (.iadd, 1) := by decide +kernel
theorem d_law_741 : decode code 741 = .ok (.iaload, 1) := by decide +kernel
theorem d_law_742 : decode code 742 = .ok (.aload_n 3, 1) := by decide +kernel
theorem d_law_743 : decode code 743 = .ok (.invokestatic 102, 3) := by decide +kernel
theorem d_law_746 : decode code 746 = .ok (.istore 5, 2) := by decide +kernel
theorem d_law_748 : decode code 748 = .ok (.aload_n 2, 1) := by decide +kernel
theorem d_law_749 : decode code 749 = .ok (.aload_n 0, 1) := by decide +kernel
theorem d_law_750 : decode code 750 = .ok (.iload 4, 2) := by decide +kernel
theorem d_law_752 : decode code 752 = .ok (.iconst 1, 1) := by decide +kernel
theorem d_law_753 : decode code 753 = .ok (.iadd, 1) := by decide +kernel
theorem d_law_754 : decode code 754 = .ok (.iaload, 1) := by decide +kernel
theorem d_law_755 : decode code 755 = .ok (.invokevirtual 104, 3) := by decide +kernel
theorem d_law_758 : decode code 758 = .ok (.istore 6, 2) := by decide +kernel
theorem d_law_760 : decode code 760 = .ok (.aload_n 2, 1) := by decide +kernel
theorem d_law_761 : decode code 761 = .ok (.invokevirtual 65, 3) := by decide +kernel
theorem d_law_764 : decode code 764 = .ok (.iload 5, 2) := by decide +kernel
theorem d_law_766 : decode code 766 = .ok (.if_icmp .eq 5, 3) := by decide +kernel
theorem d_law_771 : decode code 771 = .ok (.iload 5, 2) := by decide +kernel
theorem d_law_773 : decode code 773 = .ok (.ifCond .ne 15, 3) := by decide +kernel
theorem d_law_776 : decode code 776 = .ok (.aload_n 3, 1) := by decide +kernel
theorem d_law_777 : decode code 777 = .ok (.iconst 0, 1) := by decide +kernel
theorem d_law_778 : decode code 778 = .ok (.laload, 1) := by decide +kernel
theorem d_law_779 : decode code 779 = .ok (.iload 6, 2) := by decide +kernel
theorem d_law_781 : decode code 781 = .ok (.i2l, 1) := by decide +kernel
theorem d_law_782 : decode code 782 = .ok (.lcmp, 1) := by decide +kernel
theorem d_law_783 : decode code 783 = .ok (.ifCond .eq 5, 3) := by decide +kernel
theorem d_law_788 : decode code 788 = .ok (.goto 59, 3) := by decide +kernel
theorem gV_law_104 : GoodIn tw (wsV "DrawingMachineLaw" 104 "DrawingMachineModel" y_Mod_query ((Cond.code y_Mod_query prog_14_method_31_code 2 (some .int)) :: tw)) := tw_pre (fun _ h => h) (tw_good (fun _ h => h) k698) (List.forall_mem_cons.mpr ⟨k875, List.forall_mem_cons.mpr ⟨k876, List.forall_mem_cons.mpr ⟨k877, List.forall_mem_cons.mpr ⟨k116, fun _ h => absurd h List.not_mem_nil⟩⟩⟩⟩)
set_option maxHeartbeats 4000000 in
set_option maxRecDepth 100000 in
theorem lc_query_g {p : Program} {l : Launch} {e : Env} {s : State} {m : MethodId} {args : Array Value} {below : List Frame} {meth : Method} {c : Code} {Q : State → Prop} {A : Nat → Prop} {b : Nat} {xs : Nat → Int32} {H : Heap} {locs : List Loc} {ls : Array Slot} (hfl : l.stackTraces = false) (D : va_G) (cI cL : ClassId) (B : Nat) (hx : p.tables.exec = Jvm.exec) (hb : c.code = code) (hml : c.maxLocals = 7) (hown : s.vm.findClass "DrawingMachineLaw" = some m.cls) (htw : ∀ w ∈ tw, w.before args s = true) (hC : wC D cI cL B A s) (hX : va_X b 6 xs s s.heap) (hbl : b < s.heap.size) (hbA : ¬ A b) (dm : Nat) (md : Nat) (ou : Nat) (q83 : Nat) (q84 : Nat) (z87 : Nat) (q89 : Nat) (q95 : Nat) (q101 : Nat) (q107 : Nat) (z110 : Nat) (z111 : Nat) (z112 : Nat) (z113 : Nat) (z114 : Nat) (z115 : Nat) (q116 : Nat) (q120 : Nat) (q124 : Nat) (q562 : Nat) (q571 : Nat) (q574 : Nat) (q577 : Nat) (q580 : Nat) (q583 : Nat) (q586 : Nat) (q599 : Nat) (q600 : Nat) (q601 : Nat) (q602 : Nat) (j : Nat) (hj : j < 8) (hx1 : xs 1 = (nI j)) (kk : ∀ (H : Heap) (locs : List Loc) (ls : Array Slot), va_S A s.heap H locs → lv_has ls 7 [(4, .int 0), (0, .ref b)] → W p l e room_1 s m args below meth c H locs 600002 7302232 Q (F0 m 847 ls [])) (hP : va_P D classes [(dm, .inr (0, [.ref q83, .ref q84, .ref q89, .ref q95, .ref q101, .ref q107, .ref q116, .ref q120, .ref q124])), (q107, .inr (5, [.ref z110, .ref z111, .int (-1), .ref z87, .ref q89, .ref z112, .ref z113, .ref z114, .ref z115])), (z111, .inl (cI, 8, .inl (fun _ => 0))), (ou, .inl (cL, 1, .inr (.inl (fun _ => 0)))), (md, .inr (12, [.int 0, .int 1, .int 1, .ref q562, .ref q571, .ref q574, .ref q577, .ref q580, .ref q583, .ref q586, .int 0, .int (-1), .int 0, .int 0, .long 0, .ref q599, .ref q600, .ref q601, .ref q602])), (q599, .inl (cI, 8, .inl (fun _ => 0)))] H) (hD : va_D A [(dm, .inr (0, [.ref q83, .ref q84, .ref q89, .ref q95, .ref q101, .ref q107, .ref q116, .ref q120, .ref q124])), (q107, .inr (5, [.ref z110, .ref z111, .int (-1), .ref z87, .ref q89, .ref z112, .ref z113, .ref z114, .ref z115])), (z111, .inl (cI, 8, .inl (fun _ => 0))), (ou, .inl (cL, 1, .inr (.inl (fun _ => 0)))), (md, .inr (12, [.int 0, .int 1, .int 1, .ref q562, .ref q571, .ref q574, .ref q577, .ref q580, .ref q583, .ref q586, .int 0, .int (-1), .int 0, .int 0, .long 0, .ref q599, .ref q600, .ref q601, .ref q602])), (q599, .inl (cI, 8, .inl (fun _ => 0)))]) (hS : va_S A s.heap H locs) (hl : lv_has ls 7 [(4, .int 0), (3, .ref ou), (2, .ref md), (1, .ref dm), (0, .ref b)]) : W p l e room_1 s m args below meth c H locs 138 124625 Q (F0 m 735 ls []) := by
  refine lv_aload_n hx hb d_law_735 rfl (lv_at hl 3 rfl) ?_
  refine lv_aload_n hx hb d_law_736 rfl (lv_at hl 4 rfl) ?_
  refine lv_iload hx hb d_law_737 (lv_at hl 0 rfl) ?_
  refine lv_iconst (v := 1) hx hb d_law_739 (by decide) ?_
  refine lv_iadd hx hb d_law_740 ?_
  refine wi_c (v := 1) (by decide) ?_
  refine va_sld hx hb hX hbl hbA hS (by unfold vp_in; decide) d_law_741 ?_
  refine wi_c (v := (nI j)) (hx1) ?_
  refine lv_aload_n hx hb d_law_742 rfl (lv_at hl 1 rfl) ?_
  refine wc_i (wr := [(md, .inr (12, [.int 0, .int 1, .int 1, .ref q562, .ref q571, .ref q574, .ref q577, .ref q580, .ref q583, .ref q586, .int 0, .int (-1), .int 0, .int 0, .long 0, .ref q599, .ref q600, .ref q601, .ref q602])), (q599, .inl (cI, 8, .inl (fun _ => 0)))]) hC hP hD hS [0, 1, 2, 3] [4, 5] rfl rfl (by decide) (by decide) (tq_runSW (n := 3) (hh := [(0, 9, 12, 13)]) (As := [.ref dm, .int (nI j), .ref ou]) (rest := []) ⟨hx, hb, hml, hown, htw⟩ (c_hquery_g l D cI cL B _ dm q83 q84 z87 q89 q95 q101 q107 z110 z111 z112 z113 z114 z115 q116 q120 q124 j ou (hj)) htw (tw_goodW (fun _ h => h) k801) rfl rfl rfl ⟨Nat.le_of_ble_eq_true rfl, Nat.le_of_ble_eq_true rfl⟩ (htw _ k237) (by decide +kernel) (htw _ k873) (htw _ k874) (wC_pre hC hP hD hS [0, 1, 2, 3] (by decide) rfl) rfl rfl hl.1 rfl (lv_room (Nat.le_of_ble_eq_true rfl)) d_law_743 ⟨Nat.le_of_ble_eq_true rfl, Nat.le_of_ble_eq_true rfl⟩) (fun r1806 u1804 H locs hw1805 hP hD hS => ?_)
  obtain rfl : r1806 = 0 := hw1805
  have hP : va_P D classes [(md, .inr (12, [.int 0, .int 1, .int 1, .ref q562, .ref q571, .ref q574, .ref q577, .ref q580, .ref q583, .ref q586, .int 0, .int (-1), .int 0, .int 0, .long 0, .ref q599, .ref q600, .ref q601, .ref q602])), (q599, .inl (cI, 8, .inl (fun _ => 0))), (ou, .inl (cL, 1, .inr (.inl (vp_updL (fun _ => 0) (0 : Int32).toNatClampNeg 0))))] H := hP
  have hD : va_D A [(md, .inr (12, [.int 0, .int 1, .int 1, .ref q562, .ref q571, .ref q574, .ref q577, .ref q580, .ref q583, .ref q586, .int 0, .int (-1), .int 0, .int 0, .long 0, .ref q599, .ref q600, .ref q601, .ref q602])), (q599, .inl (cI, 8, .inl (fun _ => 0))), (ou, .inl (cL, 1, .inr (.inl (vp_updL (fun _ => 0) (0 : Int32).toNatClampNeg 0))))] := hD
  refine W.widen (k := 138) (n := 124625) (by omega) (by omega) ?_
  refine lv_istore (lv' := [(5, .int 0), (4, .int 0), (3, .ref ou), (2, .ref md), (1, .ref dm), (0, .ref b)]) hx hb d_law_746 hl (by decide) rfl (fun ls hl => ?_)
  refine lv_aload_n hx hb d_law_748 rfl (lv_at hl 3 rfl) ?_
  refine lv_aload_n hx hb d_law_749 rfl (lv_at hl 5 rfl) ?_
  refine lv_iload hx hb d_law_750 (lv_at hl 1 rfl) ?_
  refine lv_iconst (v := 1) hx hb d_law_752 (by decide) ?_
  refine lv_iadd hx hb d_law_753 ?_
  refine wi_c (v := 1) (by decide) ?_
  refine va_sld hx hb hX hbl hbA hS (by unfold vp_in; decide) d_law_754 ?_
  refine wi_c (v := (nI j)) (hx1) ?_
  refine wc_i (wr := [(ou, .inl (cL, 1, .inr (.inl (vp_updL (fun _ => 0) (0 : Int32).toNatClampNeg 0))))]) hC hP hD hS [0, 1] [2] rfl rfl (by decide) (by decide) (va_runV (As := [.int (nI j)]) (rest := []) ⟨hx, hb, hml, hown, htw⟩ (c_Mquery_g l D cI cL B _ md q562 q571 q574 q577 q580 q583 q586 q599 q600 q601 q602 j (hj)) (cwV 1 htw gV_law_104 rfl rfl rfl (by decide +kernel) ⟨Nat.le_of_ble_eq_true rfl, Nat.le_of_ble_eq_true rfl⟩) (wC_preV (As := [.int (nI j)]) hC hP hD hS [0, 1] (by decide) rfl (q0 := 0) rfl rfl) rfl rfl hl.1 rfl (lv_room (Nat.le_of_ble_eq_true rfl)) d_law_755 ⟨Nat.le_of_ble_eq_true rfl, Nat.le_of_ble_eq_true rfl⟩) (fun r1809 u1807 H locs hw1808 hP hD hS => ?_)
  obtain rfl : r1809 = 0 := hw1808
  have hP : va_P D classes [(ou, .inl (cL, 1, .inr (.inl (vp_updL (fun _ => 0) (0 : Int32).toNatClampNeg 0)))), (md, .inr (12, [.int 0, .int 1, .int 1, .ref q562, .ref q571, .ref q574, .ref q577, .ref q580, .ref q583, .ref q586, .int 0, .int (-1), .int 0, .int 0, .long 0, .ref q599, .ref q600, .ref q601, .ref q602]))] H := hP
  have hD : va_D A [(ou, .inl (cL, 1, .inr (.inl (vp_updL (fun _ => 0) (0 : Int32).toNatClampNeg 0)))), (md, .inr (12, [.int 0, .int 1, .int 1, .ref q562, .ref q571, .ref q574, .ref q577, .ref q580, .ref q583, .ref q586, .int 0, .int (-1), .int 0, .int 0, .long 0, .ref q599, .ref q600, .ref q601, .ref q602]))] := hD
  refine W.widen (k := 138) (n := 124625) (by omega) (by omega) ?_
  refine lv_istore (lv' := [(6, .int 0), (5, .int 0), (4, .int 0), (3, .ref ou), (2, .ref md), (1, .ref dm), (0, .ref b)]) hx hb d_law_758 hl (by decide) rfl (fun ls hl => ?_)
  refine lv_aload_n hx hb d_law_760 rfl (lv_at hl 4 rfl) ?_
  refine wc_i (wr := [(ou, .inl (cL, 1, .inr (.inl (vp_updL (fun _ => 0) (0 : Int32).toNatClampNeg 0))))]) hC hP hD hS [1] [0] rfl rfl (by decide) (by decide) (va_runV (As := []) (rest := []) ⟨hx, hb, hml, hown, htw⟩ (c_thrown l D cI cL B _ md 0 1 1 q562 q571 q574 q577 q580 q583 q586 0 (-1) 0 0 0 q599 q600 q601 q602) (cwV 0 htw gV_law_65 rfl rfl rfl (by decide +kernel) ⟨Nat.le_of_ble_eq_true rfl, Nat.le_of_ble_eq_true rfl⟩) (wC_preV (As := []) hC hP hD hS [1] (by decide) rfl (q0 := 1) rfl rfl) rfl rfl hl.1 rfl (lv_room (Nat.le_of_ble_eq_true rfl)) d_law_761 ⟨Nat.le_of_ble_eq_true rfl, Nat.le_of_ble_eq_true rfl⟩) (fun r1812 u1810 H locs hw1811 hP hD hS => ?_)
  obtain rfl : r1812 = 0 := hw1811
  have hP : va_P D classes [(ou, .inl (cL, 1, .inr (.inl (vp_updL (fun _ => 0) (0 : Int32).toNatClampNeg 0)))), (md, .inr (12, [.int 0, .int 1, .int 1, .ref q562, .ref q571, .ref q574, .ref q577, .ref q580, .ref q583, .ref q586, .int 0, .int (-1), .int 0, .int 0, .long 0, .ref q599, .ref q600, .ref q601, .ref q602]))] H := hP
  have hD : va_D A [(ou, .inl (cL, 1, .inr (.inl (vp_updL (fun _ => 0) (0 : Int32).toNatClampNeg 0)))), (md, .inr (12, [.int 0, .int 1, .int 1, .ref q562, .ref q571, .ref q574, .ref q577, .ref q580, .ref q583, .ref q586, .int 0, .int (-1), .int 0, .int 0, .long 0, .ref q599, .ref q600, .ref q601, .ref q602]))] := hD
  refine W.widen (k := 138) (n := 124625) (by omega) (by omega) ?_
  refine lv_iload hx hb d_law_764 (lv_at hl 1 rfl) ?_
  refine lv_icmp_eq (tgt := 771) hx hb d_law_766 (by decide) (fun c_1813 => ?_) (fun c_1813 => absurd c_1813 (by decide))
  refine lv_iload hx hb d_law_771 (lv_at hl 1 rfl) ?_
  refine lv_if_ne (tgt := 788) hx hb d_law_773 (by decide) (fun c_1814 => absurd c_1814 (by decide)) (fun c_1814 => ?_)
  refine lv_aload_n hx hb d_law_776 rfl (lv_at hl 3 rfl) ?_
  refine lv_iconst (v := 0) hx hb d_law_777 (by decide) ?_
  refine va_lald hx hb hC.1 hP 0 1 rfl rfl (by unfold vp_in; decide) d_law_778 ?_
  refine wl_c (v := 0) updL_0 ?_
  refine lv_iload hx hb d_law_779 (lv_at hl 0 rfl) ?_
  refine lv_i2l (v := 0) hx hb d_law_781 (by decide) ?_
  refine W.lcmp hx hb d_law_782 ?_
  refine wi_c (v := 0) (by decide) ?_
  refine lv_if_eq (tgt := 788) hx hb d_law_783 (by decide) (fun c_1815 => ?_) (fun c_1815 => absurd c_1815 (by decide))
  refine lv_goto (tgt := 847) hx hb d_law_788 (by decide) ?_
  refine W.widen (k := 600002) (n := 7302232) (by omega) (by omega) ?_
  exact kk _ _ _ hS (lv_sub hl [2, 6] rfl)

set_option maxHeartbeats 4000000 in
set_option maxRecDepth 100000 in
theorem lc_query_b {p : Program} {l : Launch} {e : Env} {s : State} {m : MethodId} {args : Array Value} {below : List Frame} {meth : Method} {c : Code} {Q : State → Prop} {A : Nat → Prop} {b : Nat} {xs : Nat → Int32} {H : Heap} {locs : List Loc} {ls : Array Slot} (hfl : l.stackTraces = false) (D : va_G) (cI cL : ClassId) (B : Nat) (hx : p.tables.exec = Jvm.exec) (hb : c.code = code) (hml : c.maxLocals = 7) (hown : s.vm.findClass "DrawingMachineLaw" = some m.cls) (htw : ∀ w ∈ tw, w.before args s = true) (hC : wC D cI cL B A s) (hX : va_X b 6 xs s s.heap) (hbl : b < s.heap.size) (hbA : ¬ A b) (dm : Nat) (md : Nat) (ou : Nat) (q83 : Nat) (q84 : Nat) (q89 : Nat) (q95 : Nat) (q101 : Nat) (q107 : Nat) (q116 : Nat) (q120 : Nat) (q124 : Nat) (q562 : Nat) (q571 : Nat) (q574 : Nat) (q577 : Nat) (q580 : Nat) (q583 : Nat) (q586 : Nat) (q599 : Nat) (q600 : Nat) (q601 : Nat) (q602 : Nat) (x : Int32) (h1 : x < 0 ∨ 8 ≤ x) (h2 : x < 0 ∨ 7 < x) (hx1 : xs 1 = x) (kk : ∀ (H : Heap) (locs : List Loc) (ls : Array Slot), va_S A s.heap H locs → lv_has ls 7 [(4, .int 0), (0, .ref b)] → W p l e room_1 s m args below meth c H locs 600002 7302232 Q (F0 m 847 ls [])) (hP : va_P D classes [(dm, .inr (0, [.ref q83, .ref q84, .ref q89, .ref q95, .ref q101, .ref q107, .ref q116, .ref q120, .ref q124])), (ou, .inl (cL, 1, .inr (.inl (fun _ => 0)))), (md, .inr (12, [.int 0, .int 1, .int 1, .ref q562, .ref q571, .ref q574, .ref q577, .ref q580, .ref q583, .ref q586, .int 0, .int (-1), .int 0, .int 0, .long 0, .ref q599, .ref q600, .ref q601, .ref q602]))] H) (hD : va_D A [(dm, .inr (0, [.ref q83, .ref q84, .ref q89, .ref q95, .ref q101, .ref q107, .ref q116, .ref q120, .ref q124])), (ou, .inl (cL, 1, .inr (.inl (fun _ => 0)))), (md, .inr (12, [.int 0, .int 1, .int 1, .ref q562, .ref q571, .ref q574, .ref q577, .ref q580, .ref q583, .ref q586, .int 0, .int (-1), .int 0, .int 0, .long 0, .ref q599, .ref q600, .ref q601, .ref q602]))]) (hS : va_S A s.heap H locs) (hl : lv_has ls 7 [(4, .int 0), (3, .ref ou), (2, .ref md), (1, .ref dm), (0, .ref b)]) : W p l e room_1 s m args below meth c H locs 138 124625 Q (F0 m 735 ls []) := by
  refine lv_aload_n hx hb d_law_735 rfl (lv_at hl 3 rfl) ?_
  refine lv_aload_n hx hb d_law_736 rfl (lv_at hl 4 rfl) ?_
  refine lv_iload hx hb d_law_737 (lv_at hl 0 rfl) ?_
  refine lv_iconst (v := 1) hx hb d_law_739 (by decide) ?_
  refine lv_iadd hx hb d_law_740 ?_
  refine wi_c (v := 1) (by decide) ?_
  refine va_sld hx hb hX hbl hbA hS (by unfold vp_in; decide) d_law_741 ?_
  refine wi_c (v := x) (hx1) ?_
  refine lv_aload_n hx hb d_law_742 rfl (lv_at hl 1 rfl) ?_
  refine wc_i (wr := [(md, .inr (12, [.int 0, .int 1, .int 1, .ref q562, .ref q571, .ref q574, .ref q577, .ref q580, .ref q583, .ref q586, .int 0, .int (-1), .int 0, .int 0, .long 0, .ref q599, .ref q600, .ref q601, .ref q602]))]) hC hP hD hS [0, 1] [2] rfl rfl (by decide) (by decide) (tq_runSW (n := 3) (hh := [(0, 9, 12, 13)]) (As := [.ref dm, .int x, .ref ou]) (rest := []) ⟨hx, hb, hml, hown, htw⟩ (c_hquery_b l hfl D cI cL B _ dm q83 q84 q89 q95 q101 q107 q116 q120 q124 x ou (h1)) htw (tw_goodW (fun _ h => h) k801) rfl rfl rfl ⟨Nat.le_of_ble_eq_true rfl, Nat.le_of_ble_eq_true rfl⟩ (htw _ k237) (by decide +kernel) (htw _ k873) (htw _ k874) (wC_pre hC hP hD hS [0, 1] (by decide) rfl) rfl rfl hl.1 rfl (lv_room (Nat.le_of_ble_eq_true rfl)) d_law_743 ⟨Nat.le_of_ble_eq_true rfl, Nat.le_of_ble_eq_true rfl⟩) (fun r1818 u1816 H locs hw1817 hP hD hS => ?_)
  obtain rfl : r1818 = 1 := hw1817
  have hP : va_P D classes [(md, .inr (12, [.int 0, .int 1, .int 1, .ref q562, .ref q571, .ref q574, .ref q577, .ref q580, .ref q583, .ref q586, .int 0, .int (-1), .int 0, .int 0, .long 0, .ref q599, .ref q600, .ref q601, .ref q602]))] H := hP
  have hD : va_D A [(md, .inr (12, [.int 0, .int 1, .int 1, .ref q562, .ref q571, .ref q574, .ref q577, .ref q580, .ref q583, .ref q586, .int 0, .int (-1), .int 0, .int 0, .long 0, .ref q599, .ref q600, .ref q601, .ref q602]))] := hD
  refine W.widen (k := 139) (n := 124631) (by omega) (by omega) ?_
  refine lv_istore (lv' := [(5, .int 1), (4, .int 0), (3, .ref ou), (2, .ref md), (1, .ref dm), (0, .ref b)]) hx hb d_law_746 hl (by decide) rfl (fun ls hl => ?_)
  refine lv_aload_n hx hb d_law_748 rfl (lv_at hl 3 rfl) ?_
  refine lv_aload_n hx hb d_law_749 rfl (lv_at hl 5 rfl) ?_
  refine lv_iload hx hb d_law_750 (lv_at hl 1 rfl) ?_
  refine lv_iconst (v := 1) hx hb d_law_752 (by decide) ?_
  refine lv_iadd hx hb d_law_753 ?_
  refine wi_c (v := 1) (by decide) ?_
  refine va_sld hx hb hX hbl hbA hS (by unfold vp_in; decide) d_law_754 ?_
  refine wi_c (v := x) (hx1) ?_
  refine wc_i (wr := []) hC hP hD hS [0] [] rfl rfl (by decide) (by decide) (va_runV (As := [.int x]) (rest := []) ⟨hx, hb, hml, hown, htw⟩ (c_Mquery_b l D cI cL B _ md q562 q571 q574 q577 q580 q583 q586 q599 q600 q601 q602 x (h2)) (cwV 1 htw gV_law_104 rfl rfl rfl (by decide +kernel) ⟨Nat.le_of_ble_eq_true rfl, Nat.le_of_ble_eq_true rfl⟩) (wC_preV (As := [.int x]) hC hP hD hS [0] (by decide) rfl (q0 := 0) rfl rfl) rfl rfl hl.1 rfl (lv_room (Nat.le_of_ble_eq_true rfl)) d_law_755 ⟨Nat.le_of_ble_eq_true rfl, Nat.le_of_ble_eq_true rfl⟩) (fun r1821 u1819 H locs hw1820 hP hD hS => ?_)
  obtain rfl : r1821 = 0 := hw1820
  have hP : va_P D classes [(md, .inr (12, [.int 1, .int 1, .int 1, .ref q562, .ref q571, .ref q574, .ref q577, .ref q580, .ref q583, .ref q586, .int 0, .int (-1), .int 0, .int 0, .long 0, .ref q599, .ref q600, .ref q601, .ref q602]))] H := hP
  have hD : va_D A [(md, .inr (12, [.int 1, .int 1, .int 1, .ref q562, .ref q571, .ref q574, .ref q577, .ref q580, .ref q583, .ref q586, .int 0, .int (-1), .int 0, .int 0, .long 0, .ref q599, .ref q600, .ref q601, .ref q602]))] := hD
  refine W.widen (k := 139) (n := 124631) (by omega) (by omega) ?_
  refine lv_istore (lv' := [(6, .int 0), (5, .int 1), (4, .int 0), (3, .ref ou), (2, .ref md), (1, .ref dm), (0, .ref b)]) hx hb d_law_758 hl (by decide) rfl (fun ls hl => ?_)
  refine lv_aload_n hx hb d_law_760 rfl (lv_at hl 4 rfl) ?_
  refine wc_i (wr := []) hC hP hD hS [0] [] rfl rfl (by decide) (by decide) (va_runV (As := []) (rest := []) ⟨hx, hb, hml, hown, htw⟩ (c_thrown l D cI cL B _ md 1 1 1 q562 q571 q574 q577 q580 q583 q586 0 (-1) 0 0 0 q599 q600 q601 q602) (cwV 0 htw gV_law_65 rfl rfl rfl (by decide +kernel) ⟨Nat.le_of_ble_eq_true rfl, Nat.le_of_ble_eq_true rfl⟩) (wC_preV (As := []) hC hP hD hS [0] (by decide) rfl (q0 := 0) rfl rfl) rfl rfl hl.1 rfl (lv_room (Nat.le_of_ble_eq_true rfl)) d_law_761 ⟨Nat.le_of_ble_eq_true rfl, Nat.le_of_ble_eq_true rfl⟩) (fun r1824 u1822 H locs hw1823 hP hD hS => ?_)
  obtain rfl : r1824 = 1 := hw1823
  have hP : va_P D classes [(md, .inr (12, [.int 1, .int 1, .int 1, .ref q562, .ref q571, .ref q574, .ref q577, .ref q580, .ref q583, .ref q586, .int 0, .int (-1), .int 0, .int 0, .long 0, .ref q599, .ref q600, .ref q601, .ref q602]))] H := hP
  have hD : va_D A [(md, .inr (12, [.int 1, .int 1, .int 1, .ref q562, .ref q571, .ref q574, .ref q577, .ref q580, .ref q583, .ref q586, .int 0, .int (-1), .int 0, .int 0, .long 0, .ref q599, .ref q600, .ref q601, .ref q602]))] := hD
  refine W.widen (k := 139) (n := 124631) (by omega) (by omega) ?_
  refine lv_iload hx hb d_law_764 (lv_at hl 1 rfl) ?_
  refine lv_icmp_eq (tgt := 771) hx hb d_law_766 (by decide) (fun c_1825 => ?_) (fun c_1825 => absurd c_1825 (by decide))
  refine lv_iload hx hb d_law_771 (lv_at hl 1 rfl) ?_
  refine lv_if_ne (tgt := 788) hx hb d_law_773 (by decide) (fun c_1826 => ?_) (fun c_1826 => absurd c_1826 (by decide))
  refine lv_goto (tgt := 847) hx hb d_law_788 (by decide) ?_
  refine W.widen (k := 600002) (n := 7302232) (by omega) (by omega) ?_
  exact kk _ _ _ hS (lv_sub hl [2, 6] rfl)

theorem d_law_791 : decode code 791 = .ok (.aload_n 1, 1) := by decide +kernel
theorem d_law_792 : decode code 792 = .ok (.aload_n 0, 1) := by decide +kernel
theorem d_law_793 : decode code 793 = .ok (.iload 4, 2) := by decide +kernel
theorem d_law_795 : decode code 795 = .ok (.iconst 1, 1) := by decide +kernel
theorem d_law_796 : decode code 796 = .ok (.iadd, 1) := by decide +kernel
theorem d_law_797 : decode code 797 = .ok (.iaload, 1) := by decide +kernel
theorem d_law_798 : decode code 798 = .ok (.aload_n 3, 1) := by decide +kernel
theorem d_law_799 : decode code 799 = .ok (.invokestatic 105, 3) := by decide +kernel
theorem d_law_802 : decode code 802 = .ok (.istore 5, 2) := by decide +kernel
theorem d_law_804 : decode code 804 = .ok (.aload_n 2, 1) := by decide +kernel
theorem d_law_805 : decode code 805 = .ok (.aload_n 0, 1) := by decide +kernel
theorem d_law_806 : decode code 806 = .ok (.iload 4, 2) := by decide +kernel
theorem d_law_808 : decode code 808 = .ok (.iconst 1, 1) := by decide +kernel
theorem d_law_809 : decode code 809 = .ok (.iadd, 1) := by decide +kernel
theorem d_law_810 : decode code 810 = .ok (.iaload, 1) := by decide +kernel
theorem d_law_811 : decode code 811 = .ok (.invokevirtual 107, 3) := by decide +kernel
theorem d_law_814 : decode code 814 = .ok (.istore 6, 2) := by decide +kernel
theorem d_law_816 : decode code 816 = .ok (.aload_n 2, 1) := by decide +kernel
theorem d_law_817 : decode code 817 = .ok (.invokevirtual 65, 3) := by decide +kernel
theorem d_law_820 : decode code 820 = .ok (.iload 5, 2) := by decide +kernel
theorem d_law_822 : decode code 822 = .ok (.if_icmp .eq 5, 3) := by decide +kernel
theorem d_law_827 : decode code 827 = .ok (.iload 5, 2) := by decide +kernel
theorem d_law_829 : decode code 829 = .ok (.ifCond .ne 15, 3) := by decide +kernel
theorem d_law_832 : decode code 832 = .ok (.aload_n 3, 1) := by decide +kernel
theorem d_law_833 : decode code 833 = .ok (.iconst 0, 1) := by decide +kernel
theorem d_law_834 : decode code 834 = .ok (.laload, 1) := by decide +kernel
theorem d_law_835 : decode code 835 = .ok (.iload 6, 2) := by decide +kernel
theorem d_law_837 : decode code 837 = .ok (.i2l, 1) := by decide +kernel
theorem d_law_838 : decode code 838 = .ok (.lcmp, 1) := by decide +kernel
theorem d_law_839 : decode code 839 = .ok (.ifCond .eq 5, 3) := by decide +kernel
theorem d_law_844 : decode code 844 = .ok (.goto 3, 3) := by decide +kernel
theorem gV_law_107 : GoodIn tw (wsV "DrawingMachineLaw" 107 "DrawingMachineModel" y_Mod_count ((Cond.code y_Mod_count prog_14_method_32_code 2 (some .int)) :: tw)) := tw_pre (fun _ h => h) (tw_good (fun _ h => h) k700) (List.forall_mem_cons.mpr ⟨k880, List.forall_mem_cons.mpr ⟨k881, List.forall_mem_cons.mpr ⟨k882, List.forall_mem_cons.mpr ⟨k116, fun _ h => absurd h List.not_mem_nil⟩⟩⟩⟩)
set_option maxHeartbeats 4000000 in
set_option maxRecDepth 100000 in
theorem lc_count_g {p : Program} {l : Launch} {e : Env} {s : State} {m : MethodId} {args : Array Value} {below : List Frame} {meth : Method} {c : Code} {Q : State → Prop} {A : Nat → Prop} {b : Nat} {xs : Nat → Int32} {H : Heap} {locs : List Loc} {ls : Array Slot} (hfl : l.stackTraces = false) (D : va_G) (cI cL : ClassId) (B : Nat) (hx : p.tables.exec = Jvm.exec) (hb : c.code = code) (hml : c.maxLocals = 7) (hown : s.vm.findClass "DrawingMachineLaw" = some m.cls) (htw : ∀ w ∈ tw, w.before args s = true) (hC : wC D cI cL B A s) (hX : va_X b 6 xs s s.heap) (hbl : b < s.heap.size) (hbA : ¬ A b) (dm : Nat) (md : Nat) (ou : Nat) (q83 : Nat) (q84 : Nat) (z87 : Nat) (q89 : Nat) (q95 : Nat) (q101 : Nat) (q107 : Nat) (z110 : Nat) (z111 : Nat) (z112 : Nat) (z113 : Nat) (z114 : Nat) (z115 : Nat) (q116 : Nat) (q120 : Nat) (q124 : Nat) (q562 : Nat) (q571 : Nat) (q574 : Nat) (q577 : Nat) (q580 : Nat) (q583 : Nat) (q586 : Nat) (q599 : Nat) (q600 : Nat) (q601 : Nat) (q602 : Nat) (j : Nat) (hj : j < 9) (hx1 : xs 1 = (nI j)) (kk : ∀ (H : Heap) (locs : List Loc) (ls : Array Slot), va_S A s.heap H locs → lv_has ls 7 [(4, .int 0), (0, .ref b)] → W p l e room_1 s m args below meth c H locs 600002 7302232 Q (F0 m 847 ls [])) (hP : va_P D classes [(dm, .inr (0, [.ref q83, .ref q84, .ref q89, .ref q95, .ref q101, .ref q107, .ref q116, .ref q120, .ref q124])), (q107, .inr (5, [.ref z110, .ref z111, .int (-1), .ref z87, .ref q89, .ref z112, .ref z113, .ref z114, .ref z115])), (z110, .inl (cI, 9, .inl (fun _ => 0))), (ou, .inl (cL, 1, .inr (.inl (fun _ => 0)))), (md, .inr (12, [.int 0, .int 1, .int 1, .ref q562, .ref q571, .ref q574, .ref q577, .ref q580, .ref q583, .ref q586, .int 0, .int (-1), .int 0, .int 0, .long 0, .ref q599, .ref q600, .ref q601, .ref q602])), (q600, .inl (cI, 9, .inl (fun _ => 0)))] H) (hD : va_D A [(dm, .inr (0, [.ref q83, .ref q84, .ref q89, .ref q95, .ref q101, .ref q107, .ref q116, .ref q120, .ref q124])), (q107, .inr (5, [.ref z110, .ref z111, .int (-1), .ref z87, .ref q89, .ref z112, .ref z113, .ref z114, .ref z115])), (z110, .inl (cI, 9, .inl (fun _ => 0))), (ou, .inl (cL, 1, .inr (.inl (fun _ => 0)))), (md, .inr (12, [.int 0, .int 1, .int 1, .ref q562, .ref q571, .ref q574, .ref q577, .ref q580, .ref q583, .ref q586, .int 0, .int (-1), .int 0, .int 0, .long 0, .ref q599, .ref q600, .ref q601, .ref q602])), (q600, .inl (cI, 9, .inl (fun _ => 0)))]) (hS : va_S A s.heap H locs) (hl : lv_has ls 7 [(4, .int 0), (3, .ref ou), (2, .ref md), (1, .ref dm), (0, .ref b)]) : W p l e room_1 s m args below meth c H locs 138 124625 Q (F0 m 791 ls []) := by
  refine lv_aload_n hx hb d_law_791 rfl (lv_at hl 3 rfl) ?_
  refine lv_aload_n hx hb d_law_792 rfl (lv_at hl 4 rfl) ?_
  refine lv_iload hx hb d_law_793 (lv_at hl 0 rfl) ?_
  refine lv_iconst (v := 1) hx hb d_law_795 (by decide) ?_
  refine lv_iadd hx hb d_law_796 ?_
  refine wi_c (v := 1) (by decide) ?_
  refine va_sld hx hb hX hbl hbA hS (by unfold vp_in; decide) d_law_797 ?_
  refine wi_c (v := (nI j)) (hx1) ?_
  refine lv_aload_n hx hb d_law_798 rfl (lv_at hl 1 rfl) ?_
  refine wc_i (wr := [(md, .inr (12, [.int 0, .int 1, .int 1, .ref q562, .ref q571, .ref q574, .ref q577, .ref q580, .ref q583, .ref q586, .int 0, .int (-1), .int 0, .int 0, .long 0, .ref q599, .ref q600, .ref q601, .ref q602])), (q600, .inl (cI, 9, .inl (fun _ => 0)))]) hC hP hD hS [0, 1, 2, 3] [4, 5] rfl rfl (by decide) (by decide) (tq_runSW (n := 3) (hh := [(0, 9, 12, 13)]) (As := [.ref dm, .int (nI j), .ref ou]) (rest := []) ⟨hx, hb, hml, hown, htw⟩ (c_hcount_g l D cI cL B _ dm q83 q84 z87 q89 q95 q101 q107 z110 z111 z112 z113 z114 z115 q116 q120 q124 j ou (hj)) htw (tw_goodW (fun _ h => h) k805) rfl rfl rfl ⟨Nat.le_of_ble_eq_true rfl, Nat.le_of_ble_eq_true rfl⟩ (htw _ k237) (by decide +kernel) (htw _ k878) (htw _ k879) (wC_pre hC hP hD hS [0, 1, 2, 3] (by decide) rfl) rfl rfl hl.1 rfl (lv_room (Nat.le_of_ble_eq_true rfl)) d_law_799 ⟨Nat.le_of_ble_eq_true rfl, Nat.le_of_ble_eq_true rfl⟩) (fun r1829 u1827 H locs hw1828 hP hD hS => ?_)
  obtain rfl : r1829 = 0 := hw1828
  have hP : va_P D classes [(md, .inr (12, [.int 0, .int 1, .int 1, .ref q562, .ref q571, .ref q574, .ref q577, .ref q580, .ref q583, .ref q586, .int 0, .int (-1), .int 0, .int 0, .long 0, .ref q599, .ref q600, .ref q601, .ref q602])), (q600, .inl (cI, 9, .inl (fun _ => 0))), (ou, .inl (cL, 1, .inr (.inl (vp_updL (fun _ => 0) (0 : Int32).toNatClampNeg 0))))] H := hP
  have hD : va_D A [(md, .inr (12, [.int 0, .int 1, .int 1, .ref q562, .ref q571, .ref q574, .ref q577, .ref q580, .ref q583, .ref q586, .int 0, .int (-1), .int 0, .int 0, .long 0, .ref q599, .ref q600, .ref q601, .ref q602])), (q600, .inl (cI, 9, .inl (fun _ => 0))), (ou, .inl (cL, 1, .inr (.inl (vp_updL (fun _ => 0) (0 : Int32).toNatClampNeg 0))))] := hD
  refine W.widen (k := 138) (n := 124625) (by omega) (by omega) ?_
  refine lv_istore (lv' := [(5, .int 0), (4, .int 0), (3, .ref ou), (2, .ref md), (1, .ref dm), (0, .ref b)]) hx hb d_law_802 hl (by decide) rfl (fun ls hl => ?_)
  refine lv_aload_n hx hb d_law_804 rfl (lv_at hl 3 rfl) ?_
  refine lv_aload_n hx hb d_law_805 rfl (lv_at hl 5 rfl) ?_
  refine lv_iload hx hb d_law_806 (lv_at hl 1 rfl) ?_
  refine lv_iconst (v := 1) hx hb d_law_808 (by decide) ?_
  refine lv_iadd hx hb d_law_809 ?_
  refine wi_c (v := 1) (by decide) ?_
  refine va_sld hx hb hX hbl hbA hS (by unfold vp_in; decide) d_law_810 ?_
  refine wi_c (v := (nI j)) (hx1) ?_
  refine wc_i (wr := [(ou, .inl (cL, 1, .inr (.inl (vp_updL (fun _ => 0) (0 : Int32).toNatClampNeg 0))))]) hC hP hD hS [0, 1] [2] rfl rfl (by decide) (by decide) (va_runV (As := [.int (nI j)]) (rest := []) ⟨hx, hb, hml, hown, htw⟩ (c_Mcount_g l D cI cL B _ md q562 q571 q574 q577 q580 q583 q586 q599 q600 q601 q602 j (hj)) (cwV 1 htw gV_law_107 rfl rfl rfl (by decide +kernel) ⟨Nat.le_of_ble_eq_true rfl, Nat.le_of_ble_eq_true rfl⟩) (wC_preV (As := [.int (nI j)]) hC hP hD hS [0, 1] (by decide) rfl (q0 := 0) rfl rfl) rfl rfl hl.1 rfl (lv_room (Nat.le_of_ble_eq_true rfl)) d_law_811 ⟨Nat.le_of_ble_eq_true rfl, Nat.le_of_ble_eq_true rfl⟩) (fun r1832 u1830 H locs hw1831 hP hD hS => ?_)
  obtain rfl : r1832 = 0 := hw1831
  have hP : va_P D classes [(ou, .inl (cL, 1, .inr (.inl (vp_updL (fun _ => 0) (0 : Int32).toNatClampNeg 0)))), (md, .inr (12, [.int 0, .int 1, .int 1, .ref q562, .ref q571, .ref q574, .ref q577, .ref q580, .ref q583, .ref q586, .int 0, .int (-1), .int 0, .int 0, .long 0, .ref q599, .ref q600, .ref q601, .ref q602]))] H := hP
  have hD : va_D A [(ou, .inl (cL, 1, .inr (.inl (vp_updL (fun _ => 0) (0 : Int32).toNatClampNeg 0)))), (md, .inr (12, [.int 0, .int 1, .int 1, .ref q562, .ref q571, .ref q574, .ref q577, .ref q580, .ref q583, .ref q586, .int 0, .int (-1), .int 0, .int 0, .long 0, .ref q599, .ref q600, .ref q601, .ref q602]))] := hD
  refine W.widen (k := 138) (n := 124625) (by omega) (by omega) ?_
  refine lv_istore (lv' := [(6, .int 0), (5, .int 0), (4, .int 0), (3, .ref ou), (2, .ref md), (1, .ref dm), (0, .ref b)]) hx hb d_law_814 hl (by decide) rfl (fun ls hl => ?_)
  refine lv_aload_n hx hb d_law_816 rfl (lv_at hl 4 rfl) ?_
  refine wc_i (wr := [(ou, .inl (cL, 1, .inr (.inl (vp_updL (fun _ => 0) (0 : Int32).toNatClampNeg 0))))]) hC hP hD hS [1] [0] rfl rfl (by decide) (by decide) (va_runV (As := []) (rest := []) ⟨hx, hb, hml, hown, htw⟩ (c_thrown l D cI cL B _ md 0 1 1 q562 q571 q574 q577 q580 q583 q586 0 (-1) 0 0 0 q599 q600 q601 q602) (cwV 0 htw gV_law_65 rfl rfl rfl (by decide +kernel) ⟨Nat.le_of_ble_eq_true rfl, Nat.le_of_ble_eq_true rfl⟩) (wC_preV (As := []) hC hP hD hS [1] (by decide) rfl (q0 := 1) rfl rfl) rfl rfl hl.1 rfl (lv_room (Nat.le_of_ble_eq_true rfl)) d_law_817 ⟨Nat.le_of_ble_eq_true rfl, Nat.le_of_ble_eq_true rfl⟩) (fun r1835 u1833 H locs hw1834 hP hD hS => ?_)
  obtain rfl : r1835 = 0 := hw1834
  have hP : va_P D classes [(ou, .inl (cL, 1, .inr (.inl (vp_updL (fun _ => 0) (0 : Int32).toNatClampNeg 0)))), (md, .inr (12, [.int 0, .int 1, .int 1, .ref q562, .ref q571, .ref q574, .ref q577, .ref q580, .ref q583, .ref q586, .int 0, .int (-1), .int 0, .int 0, .long 0, .ref q599, .ref q600, .ref q601, .ref q602]))] H := hP
  have hD : va_D A [(ou, .inl (cL, 1, .inr (.inl (vp_updL (fun _ => 0) (0 : Int32).toNatClampNeg 0)))), (md, .inr (12, [.int 0, .int 1, .int 1, .ref q562, .ref q571, .ref q574, .ref q577, .ref q580, .ref q583, .ref q586, .int 0, .int (-1), .int 0, .int 0, .long 0, .ref q599, .ref q600, .ref q601, .ref q602]))] := hD
  refine W.widen (k := 138) (n := 124625) (by omega) (by omega) ?_
  refine lv_iload hx hb d_law_820 (lv_at hl 1 rfl) ?_
  refine lv_icmp_eq (tgt := 827) hx hb d_law_822 (by decide) (fun c_1836 => ?_) (fun c_1836 => absurd c_1836 (by decide))
  refine lv_iload hx hb d_law_827 (lv_at hl 1 rfl) ?_
  refine lv_if_ne (tgt := 844) hx hb d_law_829 (by decide) (fun c_1837 => absurd c_1837 (by decide)) (fun c_1837 => ?_)
  refine lv_aload_n hx hb d_law_832 rfl (lv_at hl 3 rfl) ?_
  refine lv_iconst (v := 0) hx hb d_law_833 (by decide) ?_
  refine va_lald hx hb hC.1 hP 0 1 rfl rfl (by unfold vp_in; decide) d_law_834 ?_
  refine wl_c (v := 0) updL_0 ?_
  refine lv_iload hx hb d_law_835 (lv_at hl 0 rfl) ?_
  refine lv_i2l (v := 0) hx hb d_law_837 (by decide) ?_
  refine W.lcmp hx hb d_law_838 ?_
  refine wi_c (v := 0) (by decide) ?_
  refine lv_if_eq (tgt := 844) hx hb d_law_839 (by decide) (fun c_1838 => ?_) (fun c_1838 => absurd c_1838 (by decide))
  refine lv_goto (tgt := 847) hx hb d_law_844 (by decide) ?_
  refine W.widen (k := 600002) (n := 7302232) (by omega) (by omega) ?_
  exact kk _ _ _ hS (lv_sub hl [2, 6] rfl)

set_option maxHeartbeats 4000000 in
set_option maxRecDepth 100000 in
theorem lc_count_b {p : Program} {l : Launch} {e : Env} {s : State} {m : MethodId} {args : Array Value} {below : List Frame} {meth : Method} {c : Code} {Q : State → Prop} {A : Nat → Prop} {b : Nat} {xs : Nat → Int32} {H : Heap} {locs : List Loc} {ls : Array Slot} (hfl : l.stackTraces = false) (D : va_G) (cI cL : ClassId) (B : Nat) (hx : p.tables.exec = Jvm.exec) (hb : c.code = code) (hml : c.maxLocals = 7) (hown : s.vm.findClass "DrawingMachineLaw" = some m.cls) (htw : ∀ w ∈ tw, w.before args s = true) (hC : wC D cI cL B A s) (hX : va_X b 6 xs s s.heap) (hbl : b < s.heap.size) (hbA : ¬ A b) (dm : Nat) (md : Nat) (ou : Nat) (q83 : Nat) (q84 : Nat) (q89 : Nat) (q95 : Nat) (q101 : Nat) (q107 : Nat) (q116 : Nat) (q120 : Nat) (q124 : Nat) (q562 : Nat) (q571 : Nat) (q574 : Nat) (q577 : Nat) (q580 : Nat) (q583 : Nat) (q586 : Nat) (q599 : Nat) (q600 : Nat) (q601 : Nat) (q602 : Nat) (x : Int32) (h1 : x < 0 ∨ 9 ≤ x) (h2 : x < 0 ∨ 8 < x) (hx1 : xs 1 = x) (kk : ∀ (H : Heap) (locs : List Loc) (ls : Array Slot), va_S A s.heap H locs → lv_has ls 7 [(4, .int 0), (0, .ref b)] → W p l e room_1 s m args below meth c H locs 600002 7302232 Q (F0 m 847 ls [])) (hP : va_P D classes [(dm, .inr (0, [.ref q83, .ref q84, .ref q89, .ref q95, .ref q101, .ref q107, .ref q116, .ref q120, .ref q124])), (ou, .inl (cL, 1, .inr (.inl (fun _ => 0)))), (md, .inr (12, [.int 0, .int 1, .int 1, .ref q562, .ref q571, .ref q574, .ref q577, .ref q580, .ref q583, .ref q586, .int 0, .int (-1), .int 0, .int 0, .long 0, .ref q599, .ref q600, .ref q601, .ref q602]))] H) (hD : va_D A [(dm, .inr (0, [.ref q83, .ref q84, .ref q89, .ref q95, .ref q101, .ref q107, .ref q116, .ref q120, .ref q124])), (ou, .inl (cL, 1, .inr (.inl (fun _ => 0)))), (md, .inr (12, [.int 0, .int 1, .int 1, .ref q562, .ref q571, .ref q574, .ref q577, .ref q580, .ref q583, .ref q586, .int 0, .int (-1), .int 0, .int 0, .long 0, .ref q599, .ref q600, .ref q601, .ref q602]))]) (hS : va_S A s.heap H locs) (hl : lv_has ls 7 [(4, .int 0), (3, .ref ou), (2, .ref md), (1, .ref dm), (0, .ref b)]) : W p l e room_1 s m args below meth c H locs 138 124625 Q (F0 m 791 ls []) := by
  refine lv_aload_n hx hb d_law_791 rfl (lv_at hl 3 rfl) ?_
  refine lv_aload_n hx hb d_law_792 rfl (lv_at hl 4 rfl) ?_
  refine lv_iload hx hb d_law_793 (lv_at hl 0 rfl) ?_
  refine lv_iconst (v := 1) hx hb d_law_795 (by decide) ?_
  refine lv_iadd hx hb d_law_796 ?_
  refine wi_c (v := 1) (by decide) ?_
  refine va_sld hx hb hX hbl hbA hS (by unfold vp_in; decide) d_law_797 ?_
  refine wi_c (v := x) (hx1) ?_
  refine lv_aload_n hx hb d_law_798 rfl (lv_at hl 1 rfl) ?_
  refine wc_i (wr := [(md, .inr (12, [.int 0, .int 1, .int 1, .ref q562, .ref q571, .ref q574, .ref q577, .ref q580, .ref q583, .ref q586, .int 0, .int (-1), .int 0, .int 0, .long 0, .ref q599, .ref q600, .ref q601, .ref q602]))]) hC hP hD hS [0, 1] [2] rfl rfl (by decide) (by decide) (tq_runSW (n := 3) (hh := [(0, 9, 12, 13)]) (As := [.ref dm, .int x, .ref ou]) (rest := []) ⟨hx, hb, hml, hown, htw⟩ (c_hcount_b l hfl D cI cL B _ dm q83 q84 q89 q95 q101 q107 q116 q120 q124 x ou (h1)) htw (tw_goodW (fun _ h => h) k805) rfl rfl rfl ⟨Nat.le_of_ble_eq_true rfl, Nat.le_of_ble_eq_true rfl⟩ (htw _ k237) (by decide +kernel) (htw _ k878) (htw _ k879) (wC_pre hC hP hD hS [0, 1] (by decide) rfl) rfl rfl hl.1 rfl (lv_room (Nat.le_of_ble_eq_true rfl)) d_law_799 ⟨Nat.le_of_ble_eq_true rfl, Nat.le_of_ble_eq_true rfl⟩) (fun r1841 u1839 H locs hw1840 hP hD hS => ?_)
  obtain rfl : r1841 = 1 := hw1840
  have hP : va_P D classes [(md, .inr (12, [.int 0, .int 1, .int 1, .ref q562, .ref q571, .ref q574, .ref q577, .ref q580, .ref q583, .ref q586, .int 0, .int (-1), .int 0, .int 0, .long 0, .ref q599, .ref q600, .ref q601, .ref q602]))] H := hP
  have hD : va_D A [(md, .inr (12, [.int 0, .int 1, .int 1, .ref q562, .ref q571, .ref q574, .ref q577, .ref q580, .ref q583, .ref q586, .int 0, .int (-1), .int 0, .int 0, .long 0, .ref q599, .ref q600, .ref q601, .ref q602]))] := hD
  refine W.widen (k := 139) (n := 124631) (by omega) (by omega) ?_
  refine lv_istore (lv' := [(5, .int 1), (4, .int 0), (3, .ref ou), (2, .ref md), (1, .ref dm), (0, .ref b)]) hx hb d_law_802 hl (by decide) rfl (fun ls hl => ?_)
  refine lv_aload_n hx hb d_law_804 rfl (lv_at hl 3 rfl) ?_
  refine lv_aload_n hx hb d_law_805 rfl (lv_at hl 5 rfl) ?_
  refine lv_iload hx hb d_law_806 (lv_at hl 1 rfl) ?_
  refine lv_iconst (v := 1) hx hb d_law_808 (by decide) ?_
  refine lv_iadd hx hb d_law_809 ?_
  refine wi_c (v := 1) (by decide) ?_
  refine va_sld hx hb hX hbl hbA hS (by unfold vp_in; decide) d_law_810 ?_
  refine wi_c (v := x) (hx1) ?_
  refine wc_i (wr := []) hC hP hD hS [0] [] rfl rfl (by decide) (by decide) (va_runV (As := [.int x]) (rest := []) ⟨hx, hb, hml, hown, htw⟩ (c_Mcount_b l D cI cL B _ md q562 q571 q574 q577 q580 q583 q586 q599 q600 q601 q602 x (h2)) (cwV 1 htw gV_law_107 rfl rfl rfl (by decide +kernel) ⟨Nat.le_of_ble_eq_true rfl, Nat.le_of_ble_eq_true rfl⟩) (wC_preV (As := [.int x]) hC hP hD hS [0] (by decide) rfl (q0 := 0) rfl rfl) rfl rfl hl.1 rfl (lv_room (Nat.le_of_ble_eq_true rfl)) d_law_811 ⟨Nat.le_of_ble_eq_true rfl, Nat.le_of_ble_eq_true rfl⟩) (fun r1844 u1842 H locs hw1843 hP hD hS => ?_)
  obtain rfl : r1844 = 0 := hw1843
  have hP : va_P D classes [(md, .inr (12, [.int 1, .int 1, .int 1, .ref q562, .ref q571, .ref q574, .ref q577, .ref q580, .ref q583, .ref q586, .int 0, .int (-1), .int 0, .int 0, .long 0, .ref q599, .ref q600, .ref q601, .ref q602]))] H := hP
  have hD : va_D A [(md, .inr (12, [.int 1, .int 1, .int 1, .ref q562, .ref q571, .ref q574, .ref q577, .ref q580, .ref q583, .ref q586, .int 0, .int (-1), .int 0, .int 0, .long 0, .ref q599, .ref q600, .ref q601, .ref q602]))] := hD
  refine W.widen (k := 139) (n := 124631) (by omega) (by omega) ?_
  refine lv_istore (lv' := [(6, .int 0), (5, .int 1), (4, .int 0), (3, .ref ou), (2, .ref md), (1, .ref dm), (0, .ref b)]) hx hb d_law_814 hl (by decide) rfl (fun ls hl => ?_)
  refine lv_aload_n hx hb d_law_816 rfl (lv_at hl 4 rfl) ?_
  refine wc_i (wr := []) hC hP hD hS [0] [] rfl rfl (by decide) (by decide) (va_runV (As := []) (rest := []) ⟨hx, hb, hml, hown, htw⟩ (c_thrown l D cI cL B _ md 1 1 1 q562 q571 q574 q577 q580 q583 q586 0 (-1) 0 0 0 q599 q600 q601 q602) (cwV 0 htw gV_law_65 rfl rfl rfl (by decide +kernel) ⟨Nat.le_of_ble_eq_true rfl, Nat.le_of_ble_eq_true rfl⟩) (wC_preV (As := []) hC hP hD hS [0] (by decide) rfl (q0 := 0) rfl rfl) rfl rfl hl.1 rfl (lv_room (Nat.le_of_ble_eq_true rfl)) d_law_817 ⟨Nat.le_of_ble_eq_true rfl, Nat.le_of_ble_eq_true rfl⟩) (fun r1847 u1845 H locs hw1846 hP hD hS => ?_)
  obtain rfl : r1847 = 1 := hw1846
  have hP : va_P D classes [(md, .inr (12, [.int 1, .int 1, .int 1, .ref q562, .ref q571, .ref q574, .ref q577, .ref q580, .ref q583, .ref q586, .int 0, .int (-1), .int 0, .int 0, .long 0, .ref q599, .ref q600, .ref q601, .ref q602]))] H := hP
  have hD : va_D A [(md, .inr (12, [.int 1, .int 1, .int 1, .ref q562, .ref q571, .ref q574, .ref q577, .ref q580, .ref q583, .ref q586, .int 0, .int (-1), .int 0, .int 0, .long 0, .ref q599, .ref q600, .ref q601, .ref q602]))] := hD
  refine W.widen (k := 139) (n := 124631) (by omega) (by omega) ?_
  refine lv_iload hx hb d_law_820 (lv_at hl 1 rfl) ?_
  refine lv_icmp_eq (tgt := 827) hx hb d_law_822 (by decide) (fun c_1848 => ?_) (fun c_1848 => absurd c_1848 (by decide))
  refine lv_iload hx hb d_law_827 (lv_at hl 1 rfl) ?_
  refine lv_if_ne (tgt := 844) hx hb d_law_829 (by decide) (fun c_1849 => ?_) (fun c_1849 => absurd c_1849 (by decide))
  refine lv_goto (tgt := 847) hx hb d_law_844 (by decide) ?_
  refine W.widen (k := 600002) (n := 7302232) (by omega) (by omega) ?_
  exact kk _ _ _ hS (lv_sub hl [2, 6] rfl)

theorem d_law_104 : decode code 104 = .ok (.aload_n 1, 1) := by decide +kernel
theorem d_law_105 : decode code 105 = .ok (.aload_n 0, 1) := by decide +kernel
theorem d_law_106 : decode code 106 = .ok (.iload 4, 2) := by decide +kernel
theorem d_law_108 : decode code 108 = .ok (.iconst 1, 1) := by decide +kernel
theorem d_law_109 : decode code 109 = .ok (.iadd, 1) := by decide +kernel
theorem d_law_110 : decode code 110 = .ok (.iaload, 1) := by decide +kernel
theorem d_law_111 : decode code 111 = .ok (.aload_n 0, 1) := by decide +kernel
theorem d_law_112 : decode code 112 = .ok (.iload 4, 2) := by decide +kernel
theorem d_law_114 : decode code 114 = .ok (.iconst 2, 1) := by decide +kernel
theorem d_law_115 : decode code 115 = .ok (.iadd, 1) := by decide +kernel
theorem d_law_116 : decode code 116 = .ok (.iaload, 1) := by decide +kernel
theorem d_law_117 : decode code 117 = .ok (.aload_n 0, 1) := by decide +kernel
theorem d_law_118 : decode code 118 = .ok (.iload 4, 2) := by decide +kernel
theorem d_law_120 : decode code 120 = .ok (.iconst 3, 1) := by decide +kernel
theorem d_law_121 : decode code 121 = .ok (.iadd, 1) := by decide +kernel
theorem d_law_122 : decode code 122 = .ok (.iaload, 1) := by decide +kernel
theorem d_law_123 : decode code 123 = .ok (.aload_n 3, 1) := by decide +kernel
theorem d_law_124 : decode code 124 = .ok (.invokestatic 59, 3) := by decide +kernel
theorem d_law_127 : decode code 127 = .ok (.istore 5, 2) := by decide +kernel
theorem d_law_129 : decode code 129 = .ok (.aload_n 2, 1) := by decide +kernel
theorem d_law_130 : decode code 130 = .ok (.aload_n 0, 1) := by decide +kernel
theorem d_law_131 : decode code 131 = .ok (.iload 4, 2) := by decide +kernel
theorem d_law_133 : decode code 133 = .ok (.iconst 1, 1) := by decide +kernel
theorem d_law_134 : decode code 134 = .ok (.iadd, 1) := by decide +kernel
theorem d_law_135 : decode code 135 = .ok (.iaload, 1) := by decide +kernel
theorem d_law_136 : decode code 136 = .ok (.aload_n 0, 1) := by decide +kernel
theorem d_law_137 : decode code 137 = .ok (.iload 4, 2) := by decide +kernel
theorem d_law_139 : decode code 139 = .ok (.iconst 2, 1) := by decide +kernel
theorem d_law_140 : decode code 140 = .ok (.iadd, 1) := by decide +kernel
theorem d_law_141 : decode code 141 = .ok (.iaload, 1) := by decide +kernel
theorem d_law_142 : decode code 142 = .ok (.aload_n 0, 1) := by decide +kernel
theorem d_law_143 : decode code 143 = .ok (.iload 4, 2) := by decide +kernel
theorem d_law_145 : decode code 145 = .ok (.iconst 3, 1) := by decide +kernel
theorem d_law_146 : decode code 146 = .ok (.iadd, 1) := by decide +kernel
theorem d_law_147 : decode code 147 = .ok (.iaload, 1) := by decide +kernel
theorem d_law_148 : decode code 148 = .ok (.invokevirtual 64, 3) := by decide +kernel
theorem d_law_151 : decode code 151 = .ok (.istore 6, 2) := by decide +kernel
theorem d_law_153 : decode code 153 = .ok (.aload_n 2, 1) := by decide +kernel
theorem d_law_154 : decode code 154 = .ok (.invokevirtual 65, 3) := by decide +kernel
theorem d_law_157 : decode code 157 = .ok (.iload 5, 2) := by decide +kernel
theorem d_law_159 : decode code 159 = .ok (.if_icmp .eq 5, 3) := by decide +kernel
theorem d_law_164 : decode code 164 = .ok (.iload 5, 2) := by decide +kernel
theorem d_law_166 : decode code 166 = .ok (.ifCond .ne 15, 3) := by decide +kernel
theorem d_law_169 : decode code 169 = .ok (.aload_n 3, 1) := by decide +kernel
theorem d_law_170 : decode code 170 = .ok (.iconst 0, 1) := by decide +kernel
theorem d_law_171 : decode code 171 = .ok (.laload, 1) := by decide +kernel
theorem d_law_172 : decode code 172 = .ok (.iload 6, 2) := by decide +kernel
theorem d_law_174 : decode code 174 = .ok (.i2l, 1) := by decide +kernel
theorem d_law_175 : decode code 175 = .ok (.lcmp, 1) := by decide +kernel
theorem d_law_176 : decode code 176 = .ok (.ifCond .eq 5, 3) := by decide +kernel
theorem d_law_181 : decode code 181 = .ok (.goto 666, 3) := by decide +kernel
theorem gV_law_64 : GoodIn tw (wsV "DrawingMachineLaw" 64 "DrawingMachineModel" y_Mod_frame ((Cond.code y_Mod_frame prog_14_method_5_code 5 (some .int)) :: tw)) := tw_pre (fun _ h => h) (tw_good (fun _ h => h) k629) (List.forall_mem_cons.mpr ⟨k821, List.forall_mem_cons.mpr ⟨k822, List.forall_mem_cons.mpr ⟨k823, List.forall_mem_cons.mpr ⟨k116, fun _ h => absurd h List.not_mem_nil⟩⟩⟩⟩)
set_option maxHeartbeats 4000000 in
set_option maxRecDepth 100000 in
theorem lc_frame_1 {p : Program} {l : Launch} {e : Env} {s : State} {m : MethodId} {args : Array Value} {below : List Frame} {meth : Method} {c : Code} {Q : State → Prop} {A : Nat → Prop} {b : Nat} {xs : Nat → Int32} {H : Heap} {locs : List Loc} {ls : Array Slot} (hfl : l.stackTraces = false) (D : va_G) (cI cL : ClassId) (B : Nat) (hx : p.tables.exec = Jvm.exec) (hb : c.code = code) (hml : c.maxLocals = 7) (hown : s.vm.findClass "DrawingMachineLaw" = some m.cls) (htw : ∀ w ∈ tw, w.before args s = true) (hC : wC D cI cL B A s) (hX : va_X b 6 xs s s.heap) (hbl : b < s.heap.size) (hbA : ¬ A b) (dm : Nat) (md : Nat) (ou : Nat) (q83 : Nat) (q84 : Nat) (z87 : Nat) (q89 : Nat) (z92 : Nat) (z93 : Nat) (z94 : Nat) (q95 : Nat) (q101 : Nat) (q107 : Nat) (q116 : Nat) (q120 : Nat) (q124 : Nat) (q562 : Nat) (z565 : Nat) (z566 : Nat) (z567 : Nat) (z568 : Nat) (z569 : Nat) (q571 : Nat) (q574 : Nat) (q577 : Nat) (q580 : Nat) (q583 : Nat) (q586 : Nat) (z589 : Nat) (z590 : Nat) (z591 : Nat) (z592 : Nat) (z593 : Nat) (z594 : Nat) (z595 : Nat) (z596 : Nat) (z597 : Nat) (z598 : Nat) (q599 : Nat) (q600 : Nat) (q601 : Nat) (q602 : Nat) (sd : Int32) (hs : sd = 8 ∨ sd = 16 ∨ sd = 32 ∨ sd = 64) (hx1 : xs 1 = 1) (hx2 : xs 2 = 1) (hx3 : xs 3 = sd) (kk : ∀ (H : Heap) (locs : List Loc) (ls : Array Slot), va_S A s.heap H locs → lv_has ls 7 [(4, .int 0), (0, .ref b)] → W p l e room_1 s m args below meth c H locs 600002 7302232 Q (F0 m 847 ls [])) (hP : va_P D classes [(dm, .inr (0, [.ref q83, .ref q84, .ref q89, .ref q95, .ref q101, .ref q107, .ref q116, .ref q120, .ref q124])), (q89, .inr (2, [.int 1, .int 1, .ref z92, .ref z93, .ref z94, .ref q84, .ref z87])), (z92, .inl (cI, 1, .inl (fun _ => 0))), (z93, .inl (cI, 1, .inl (fun _ => 0))), (z94, .inl (cI, 1, .inl (fun _ => 0))), (ou, .inl (cL, 1, .inr (.inl (fun _ => 0)))), (md, .inr (12, [.int 0, .int 1, .int 1, .ref q562, .ref q571, .ref q574, .ref q577, .ref q580, .ref q583, .ref q586, .int 0, .int (-1), .int 0, .int 0, .long 0, .ref q599, .ref q600, .ref q601, .ref q602])), (q562, .inr (13, [.int 0, .ref z565, .int 1, .int 1, .ref z566, .int 0, .int 0, .int 0, .ref z567, .int 0, .int 0, .int (-1), .int (-1), .int 0, .int (-1), .int 0, .ref z568, .ref z569])), (q586, .inr (18, [.int 0, .int 0, .int 0, .int 1, .int 1, .ref z589, .ref z590, .ref z591, .int 0, .ref z592, .int (-1), .int 0, .ref z593, .ref z594, .int (-1), .int 0, .ref z595, .int (-1), .int 15, .ref z596, .ref z597, .ref z598])), (z589, .inl (cI, 65536, .inl (fun _ => 0))), (z590, .inl (cI, 16384, .inl (fun _ => 0))), (z591, .inl (cI, 16384, .inl (fun _ => 0)))] H) (hD : va_D A [(dm, .inr (0, [.ref q83, .ref q84, .ref q89, .ref q95, .ref q101, .ref q107, .ref q116, .ref q120, .ref q124])), (q89, .inr (2, [.int 1, .int 1, .ref z92, .ref z93, .ref z94, .ref q84, .ref z87])), (z92, .inl (cI, 1, .inl (fun _ => 0))), (z93, .inl (cI, 1, .inl (fun _ => 0))), (z94, .inl (cI, 1, .inl (fun _ => 0))), (ou, .inl (cL, 1, .inr (.inl (fun _ => 0)))), (md, .inr (12, [.int 0, .int 1, .int 1, .ref q562, .ref q571, .ref q574, .ref q577, .ref q580, .ref q583, .ref q586, .int 0, .int (-1), .int 0, .int 0, .long 0, .ref q599, .ref q600, .ref q601, .ref q602])), (q562, .inr (13, [.int 0, .ref z565, .int 1, .int 1, .ref z566, .int 0, .int 0, .int 0, .ref z567, .int 0, .int 0, .int (-1), .int (-1), .int 0, .int (-1), .int 0, .ref z568, .ref z569])), (q586, .inr (18, [.int 0, .int 0, .int 0, .int 1, .int 1, .ref z589, .ref z590, .ref z591, .int 0, .ref z592, .int (-1), .int 0, .ref z593, .ref z594, .int (-1), .int 0, .ref z595, .int (-1), .int 15, .ref z596, .ref z597, .ref z598])), (z589, .inl (cI, 65536, .inl (fun _ => 0))), (z590, .inl (cI, 16384, .inl (fun _ => 0))), (z591, .inl (cI, 16384, .inl (fun _ => 0)))]) (hS : va_S A s.heap H locs) (hl : lv_has ls 7 [(4, .int 0), (3, .ref ou), (2, .ref md), (1, .ref dm), (0, .ref b)]) : W p l e room_1 s m args below meth c H locs 138 124625 Q (F0 m 104 ls []) := by
  refine lv_aload_n hx hb d_law_104 rfl (lv_at hl 3 rfl) ?_
  refine lv_aload_n hx hb d_law_105 rfl (lv_at hl 4 rfl) ?_
  refine lv_iload hx hb d_law_106 (lv_at hl 0 rfl) ?_
  refine lv_iconst (v := 1) hx hb d_law_108 (by decide) ?_
  refine lv_iadd hx hb d_law_109 ?_
  refine wi_c (v := 1) (by decide) ?_
  refine va_sld hx hb hX hbl hbA hS (by unfold vp_in; decide) d_law_110 ?_
  refine wi_c (v := 1) (hx1) ?_
  refine lv_aload_n hx hb d_law_111 rfl (lv_at hl 4 rfl) ?_
  refine lv_iload hx hb d_law_112 (lv_at hl 0 rfl) ?_
  refine lv_iconst (v := 2) hx hb d_law_114 (by decide) ?_
  refine lv_iadd hx hb d_law_115 ?_
  refine wi_c (v := 2) (by decide) ?_
  refine va_sld hx hb hX hbl hbA hS (by unfold vp_in; decide) d_law_116 ?_
  refine wi_c (v := 1) (hx2) ?_
  refine lv_aload_n hx hb d_law_117 rfl (lv_at hl 4 rfl) ?_
  refine lv_iload hx hb d_law_118 (lv_at hl 0 rfl) ?_
  refine lv_iconst (v := 3) hx hb d_law_120 (by decide) ?_
  refine lv_iadd hx hb d_law_121 ?_
  refine wi_c (v := 3) (by decide) ?_
  refine va_sld hx hb hX hbl hbA hS (by unfold vp_in; decide) d_law_122 ?_
  refine wi_c (v := sd) (hx3) ?_
  refine lv_aload_n hx hb d_law_123 rfl (lv_at hl 1 rfl) ?_
  refine wc_i (wr := [(md, .inr (12, [.int 0, .int 1, .int 1, .ref q562, .ref q571, .ref q574, .ref q577, .ref q580, .ref q583, .ref q586, .int 0, .int (-1), .int 0, .int 0, .long 0, .ref q599, .ref q600, .ref q601, .ref q602])), (q562, .inr (13, [.int 0, .ref z565, .int 1, .int 1, .ref z566, .int 0, .int 0, .int 0, .ref z567, .int 0, .int 0, .int (-1), .int (-1), .int 0, .int (-1), .int 0, .ref z568, .ref z569])), (q586, .inr (18, [.int 0, .int 0, .int 0, .int 1, .int 1, .ref z589, .ref z590, .ref z591, .int 0, .ref z592, .int (-1), .int 0, .ref z593, .ref z594, .int (-1), .int 0, .ref z595, .int (-1), .int 15, .ref z596, .ref z597, .ref z598])), (z589, .inl (cI, 65536, .inl (fun _ => 0))), (z590, .inl (cI, 16384, .inl (fun _ => 0))), (z591, .inl (cI, 16384, .inl (fun _ => 0)))]) hC hP hD hS [0, 1, 2, 3, 4, 5] [6, 7, 8, 9, 10, 11] rfl rfl (by decide) (by decide) (tq_runSW (n := 5) (hh := [(0, 12, 15, 13)]) (As := [.ref dm, .int 1, .int 1, .int sd, .ref ou]) (rest := []) ⟨hx, hb, hml, hown, htw⟩ (c_hframe_1 l D cI cL B _ dm q83 q84 z87 q89 z92 z93 z94 q95 q101 q107 q116 q120 q124 sd ou (hs)) htw (tw_goodW (fun _ h => h) k765) rfl rfl rfl ⟨Nat.le_of_ble_eq_true rfl, Nat.le_of_ble_eq_true rfl⟩ (htw _ k237) (by decide +kernel) (htw _ k819) (htw _ k820) (wC_pre hC hP hD hS [0, 1, 2, 3, 4, 5] (by decide) rfl) rfl rfl hl.1 rfl (lv_room (Nat.le_of_ble_eq_true rfl)) d_law_124 ⟨Nat.le_of_ble_eq_true rfl, Nat.le_of_ble_eq_true rfl⟩) (fun r1852 u1850 H locs hw1851 hP hD hS => ?_)
  obtain rfl : r1852 = 0 := hw1851
  have hP : va_P D classes [(md, .inr (12, [.int 0, .int 1, .int 1, .ref q562, .ref q571, .ref q574, .ref q577, .ref q580, .ref q583, .ref q586, .int 0, .int (-1), .int 0, .int 0, .long 0, .ref q599, .ref q600, .ref q601, .ref q602])), (q562, .inr (13, [.int 0, .ref z565, .int 1, .int 1, .ref z566, .int 0, .int 0, .int 0, .ref z567, .int 0, .int 0, .int (-1), .int (-1), .int 0, .int (-1), .int 0, .ref z568, .ref z569])), (q586, .inr (18, [.int 0, .int 0, .int 0, .int 1, .int 1, .ref z589, .ref z590, .ref z591, .int 0, .ref z592, .int (-1), .int 0, .ref z593, .ref z594, .int (-1), .int 0, .ref z595, .int (-1), .int 15, .ref z596, .ref z597, .ref z598])), (z589, .inl (cI, 65536, .inl (fun _ => 0))), (z590, .inl (cI, 16384, .inl (fun _ => 0))), (z591, .inl (cI, 16384, .inl (fun _ => 0))), (ou, .inl (cL, 1, .inr (.inl (vp_updL (fun _ => 0) (0 : Int32).toNatClampNeg (((((1 + sd) - 1) / sd) * (((1 + sd) - 1) / sd)).toInt64)))))] H := hP
  have hD : va_D A [(md, .inr (12, [.int 0, .int 1, .int 1, .ref q562, .ref q571, .ref q574, .ref q577, .ref q580, .ref q583, .ref q586, .int 0, .int (-1), .int 0, .int 0, .long 0, .ref q599, .ref q600, .ref q601, .ref q602])), (q562, .inr (13, [.int 0, .ref z565, .int 1, .int 1, .ref z566, .int 0, .int 0, .int 0, .ref z567, .int 0, .int 0, .int (-1), .int (-1), .int 0, .int (-1), .int 0, .ref z568, .ref z569])), (q586, .inr (18, [.int 0, .int 0, .int 0, .int 1, .int 1, .ref z589, .ref z590, .ref z591, .int 0, .ref z592, .int (-1), .int 0, .ref z593, .ref z594, .int (-1), .int 0, .ref z595, .int (-1), .int 15, .ref z596, .ref z597, .ref z598])), (z589, .inl (cI, 65536, .inl (fun _ => 0))), (z590, .inl (cI, 16384, .inl (fun _ => 0))), (z591, .inl (cI, 16384, .inl (fun _ => 0))), (ou, .inl (cL, 1, .inr (.inl (vp_updL (fun _ => 0) (0 : Int32).toNatClampNeg (((((1 + sd) - 1) / sd) * (((1 + sd) - 1) / sd)).toInt64)))))] := hD
  refine W.widen (k := 138) (n := 124625) (by omega) (by omega) ?_
  refine lv_istore (lv' := [(5, .int 0), (4, .int 0), (3, .ref ou), (2, .ref md), (1, .ref dm), (0, .ref b)]) hx hb d_law_127 hl (by decide) rfl (fun ls hl => ?_)
  refine lv_aload_n hx hb d_law_129 rfl (lv_at hl 3 rfl) ?_
  refine lv_aload_n hx hb d_law_130 rfl (lv_at hl 5 rfl) ?_
  refine lv_iload hx hb d_law_131 (lv_at hl 1 rfl) ?_
  refine lv_iconst (v := 1) hx hb d_law_133 (by decide) ?_
  refine lv_iadd hx hb d_law_134 ?_
  refine wi_c (v := 1) (by decide) ?_
  refine va_sld hx hb hX hbl hbA hS (by unfold vp_in; decide) d_law_135 ?_
  refine wi_c (v := 1) (hx1) ?_
  refine lv_aload_n hx hb d_law_136 rfl (lv_at hl 5 rfl) ?_
  refine lv_iload hx hb d_law_137 (lv_at hl 1 rfl) ?_
  refine lv_iconst (v := 2) hx hb d_law_139 (by decide) ?_
  refine lv_iadd hx hb d_law_140 ?_
  refine wi_c (v := 2) (by decide) ?_
  refine va_sld hx hb hX hbl hbA hS (by unfold vp_in; decide) d_law_141 ?_
  refine wi_c (v := 1) (hx2) ?_
  refine lv_aload_n hx hb d_law_142 rfl (lv_at hl 5 rfl) ?_
  refine lv_iload hx hb d_law_143 (lv_at hl 1 rfl) ?_
  refine lv_iconst (v := 3) hx hb d_law_145 (by decide) ?_
  refine lv_iadd hx hb d_law_146 ?_
  refine wi_c (v := 3) (by decide) ?_
  refine va_sld hx hb hX hbl hbA hS (by unfold vp_in; decide) d_law_147 ?_
  refine wi_c (v := sd) (hx3) ?_
  refine wc_i (wr := [(ou, .inl (cL, 1, .inr (.inl (vp_updL (fun _ => 0) (0 : Int32).toNatClampNeg (((((1 + sd) - 1) / sd) * (((1 + sd) - 1) / sd)).toInt64)))))]) hC hP hD hS [0, 1, 2, 3, 4, 5] [6] rfl rfl (by decide) (by decide) (va_runV (As := [.int 1, .int 1, .int sd]) (rest := []) ⟨hx, hb, hml, hown, htw⟩ (c_Mframe_g l D cI cL B _ md q562 z565 z566 z567 z568 z569 q571 q574 q577 q580 q583 q586 z589 z590 z591 z592 z593 z594 z595 z596 z597 z598 q599 q600 q601 q602 1 1 sd (by decide) (by decide) (by decide) (by decide) (hs)) (cwV 3 htw gV_law_64 rfl rfl rfl (by decide +kernel) ⟨Nat.le_of_ble_eq_true rfl, Nat.le_of_ble_eq_true rfl⟩) (wC_preV (As := [.int 1, .int 1, .int sd]) hC hP hD hS [0, 1, 2, 3, 4, 5] (by decide) rfl (q0 := 0) rfl rfl) rfl rfl hl.1 rfl (lv_room (Nat.le_of_ble_eq_true rfl)) d_law_148 ⟨Nat.le_of_ble_eq_true rfl, Nat.le_of_ble_eq_true rfl⟩) (fun r1855 u1853 H locs hw1854 hP hD hS => ?_)
  obtain rfl : r1855 = ((((1 + sd) - 1) / sd) * (((1 + sd) - 1) / sd)) := hw1854
  have hP : va_P D classes [(ou, .inl (cL, 1, .inr (.inl (vp_updL (fun _ => 0) (0 : Int32).toNatClampNeg (((((1 + sd) - 1) / sd) * (((1 + sd) - 1) / sd)).toInt64))))), (md, .inr (12, [.int 0, .int 1, .int 1, .ref q562, .ref q571, .ref q574, .ref q577, .ref q580, .ref q583, .ref q586, .int 0, .int (-1), .int 0, .int 0, .long 0, .ref q599, .ref q600, .ref q601, .ref q602]))] H := hP
  have hD : va_D A [(ou, .inl (cL, 1, .inr (.inl (vp_updL (fun _ => 0) (0 : Int32).toNatClampNeg (((((1 + sd) - 1) / sd) * (((1 + sd) - 1) / sd)).toInt64))))), (md, .inr (12, [.int 0, .int 1, .int 1, .ref q562, .ref q571, .ref q574, .ref q577, .ref q580, .ref q583, .ref q586, .int 0, .int (-1), .int 0, .int 0, .long 0, .ref q599, .ref q600, .ref q601, .ref q602]))] := hD
  refine W.widen (k := 138) (n := 124625) (by omega) (by omega) ?_
  refine lv_istore (lv' := [(6, .int ((((1 + sd) - 1) / sd) * (((1 + sd) - 1) / sd))), (5, .int 0), (4, .int 0), (3, .ref ou), (2, .ref md), (1, .ref dm), (0, .ref b)]) hx hb d_law_151 hl (by decide) rfl (fun ls hl => ?_)
  refine lv_aload_n hx hb d_law_153 rfl (lv_at hl 4 rfl) ?_
  refine wc_i (wr := [(ou, .inl (cL, 1, .inr (.inl (vp_updL (fun _ => 0) (0 : Int32).toNatClampNeg (((((1 + sd) - 1) / sd) * (((1 + sd) - 1) / sd)).toInt64)))))]) hC hP hD hS [1] [0] rfl rfl (by decide) (by decide) (va_runV (As := []) (rest := []) ⟨hx, hb, hml, hown, htw⟩ (c_thrown l D cI cL B _ md 0 1 1 q562 q571 q574 q577 q580 q583 q586 0 (-1) 0 0 0 q599 q600 q601 q602) (cwV 0 htw gV_law_65 rfl rfl rfl (by decide +kernel) ⟨Nat.le_of_ble_eq_true rfl, Nat.le_of_ble_eq_true rfl⟩) (wC_preV (As := []) hC hP hD hS [1] (by decide) rfl (q0 := 1) rfl rfl) rfl rfl hl.1 rfl (lv_room (Nat.le_of_ble_eq_true rfl)) d_law_154 ⟨Nat.le_of_ble_eq_true rfl, Nat.le_of_ble_eq_true rfl⟩) (fun r1858 u1856 H locs hw1857 hP hD hS => ?_)
  obtain rfl : r1858 = 0 := hw1857
  have hP : va_P D classes [(ou, .inl (cL, 1, .inr (.inl (vp_updL (fun _ => 0) (0 : Int32).toNatClampNeg (((((1 + sd) - 1) / sd) * (((1 + sd) - 1) / sd)).toInt64))))), (md, .inr (12, [.int 0, .int 1, .int 1, .ref q562, .ref q571, .ref q574, .ref q577, .ref q580, .ref q583, .ref q586, .int 0, .int (-1), .int 0, .int 0, .long 0, .ref q599, .ref q600, .ref q601, .ref q602]))] H := hP
  have hD : va_D A [(ou, .inl (cL, 1, .inr (.inl (vp_updL (fun _ => 0) (0 : Int32).toNatClampNeg (((((1 + sd) - 1) / sd) * (((1 + sd) - 1) / sd)).toInt64))))), (md, .inr (12, [.int 0, .int 1, .int 1, .ref q562, .ref q571, .ref q574, .ref q577, .ref q580, .ref q583, .ref q586, .int 0, .int (-1), .int 0, .int 0, .long 0, .ref q599, .ref q600, .ref q601, .ref q602]))] := hD
  refine W.widen (k := 138) (n := 124625) (by omega) (by omega) ?_
  refine lv_iload hx hb d_law_157 (lv_at hl 1 rfl) ?_
  refine lv_icmp_eq (tgt := 164) hx hb d_law_159 (by decide) (fun c_1859 => ?_) (fun c_1859 => absurd c_1859 (by decide))
  refine lv_iload hx hb d_law_164 (lv_at hl 1 rfl) ?_
  refine lv_if_ne (tgt := 181) hx hb d_law_166 (by decide) (fun c_1860 => absurd c_1860 (by decide)) (fun c_1860 => ?_)
  refine lv_aload_n hx hb d_law_169 rfl (lv_at hl 3 rfl) ?_
  refine lv_iconst (v := 0) hx hb d_law_170 (by decide) ?_
  refine va_lald hx hb hC.1 hP 0 1 rfl rfl (by unfold vp_in; decide) d_law_171 ?_
  refine wl_c (v := (((((1 + sd) - 1) / sd) * (((1 + sd) - 1) / sd)).toInt64)) updL_0 ?_
  refine lv_iload hx hb d_law_172 (lv_at hl 0 rfl) ?_
  refine lv_i2l (v := ((((1 + sd) - 1) / sd) * (((1 + sd) - 1) / sd)).toInt64) hx hb d_law_174 rfl ?_
  refine W.lcmp hx hb d_law_175 ?_
  refine wi_c (v := 0) lgc_eq ?_
  refine lv_if_eq (tgt := 181) hx hb d_law_176 (by decide) (fun c_1861 => ?_) (fun c_1861 => absurd c_1861 (by decide))
  refine lv_goto (tgt := 847) hx hb d_law_181 (by decide) ?_
  refine W.widen (k := 600002) (n := 7302232) (by omega) (by omega) ?_
  exact kk _ _ _ hS (lv_sub hl [2, 6] rfl)

set_option maxHeartbeats 4000000 in
set_option maxRecDepth 100000 in
theorem lc_frame_n {p : Program} {l : Launch} {e : Env} {s : State} {m : MethodId} {args : Array Value} {below : List Frame} {meth : Method} {c : Code} {Q : State → Prop} {A : Nat → Prop} {b : Nat} {xs : Nat → Int32} {H : Heap} {locs : List Loc} {ls : Array Slot} (hfl : l.stackTraces = false) (D : va_G) (cI cL : ClassId) (B : Nat) (hx : p.tables.exec = Jvm.exec) (hb : c.code = code) (hml : c.maxLocals = 7) (hown : s.vm.findClass "DrawingMachineLaw" = some m.cls) (htw : ∀ w ∈ tw, w.before args s = true) (hC : wC D cI cL B A s) (hX : va_X b 6 xs s s.heap) (hbl : b < s.heap.size) (hbA : ¬ A b) (dm : Nat) (md : Nat) (ou : Nat) (q83 : Nat) (q84 : Nat) (z87 : Nat) (q89 : Nat) (z92 : Nat) (z93 : Nat) (z94 : Nat) (q95 : Nat) (q101 : Nat) (q107 : Nat) (q116 : Nat) (q120 : Nat) (q124 : Nat) (q562 : Nat) (z565 : Nat) (z566 : Nat) (z567 : Nat) (z568 : Nat) (z569 : Nat) (q571 : Nat) (q574 : Nat) (q577 : Nat) (q580 : Nat) (q583 : Nat) (q586 : Nat) (z589 : Nat) (z590 : Nat) (z591 : Nat) (z592 : Nat) (z593 : Nat) (z594 : Nat) (z595 : Nat) (z596 : Nat) (z597 : Nat) (z598 : Nat) (q599 : Nat) (q600 : Nat) (q601 : Nat) (q602 : Nat) (wa : Nat) (wb : Nat) (sd : Int32) (ha1 : 1 ≤ wa) (ha2 : wa ≤ 128) (hb1 : 1 ≤ wb) (hb2 : wb ≤ 128) (hab2 : 2 ≤ wa * wb) (hab : wa * wb ≤ 16384) (h1 : ¬ nI wa < 1) (h2 : ¬ 128 < nI wa) (h3 : ¬ nI wb < 1) (h4 : ¬ 128 < nI wb) (hs : sd = 8 ∨ sd = 16 ∨ sd = 32 ∨ sd = 64) (hx1 : xs 1 = (nI wa)) (hx2 : xs 2 = (nI wb)) (hx3 : xs 3 = sd) (kk : ∀ (H : Heap) (locs : List Loc) (ls : Array Slot), va_S A s.heap H locs → lv_has ls 7 [(4, .int 0), (0, .ref b)] → W p l e room_1 s m args below meth c H locs 600002 7302232 Q (F0 m 847 ls [])) (hP : va_P D classes [(dm, .inr (0, [.ref q83, .ref q84, .ref q89, .ref q95, .ref q101, .ref q107, .ref q116, .ref q120, .ref q124])), (q89, .inr (2, [.int 1, .int 1, .ref z92, .ref z93, .ref z94, .ref q84, .ref z87])), (z92, .inl (cI, 1, .inl (fun _ => 0))), (z93, .inl (cI, 1, .inl (fun _ => 0))), (z94, .inl (cI, 1, .inl (fun _ => 0))), (ou, .inl (cL, 1, .inr (.inl (fun _ => 0)))), (md, .inr (12, [.int 0, .int 1, .int 1, .ref q562, .ref q571, .ref q574, .ref q577, .ref q580, .ref q583, .ref q586, .int 0, .int (-1), .int 0, .int 0, .long 0, .ref q599, .ref q600, .ref q601, .ref q602])), (q562, .inr (13, [.int 0, .ref z565, .int 1, .int 1, .ref z566, .int 0, .int 0, .int 0, .ref z567, .int 0, .int 0, .int (-1), .int (-1), .int 0, .int (-1), .int 0, .ref z568, .ref z569])), (q586, .inr (18, [.int 0, .int 0, .int 0, .int 1, .int 1, .ref z589, .ref z590, .ref z591, .int 0, .ref z592, .int (-1), .int 0, .ref z593, .ref z594, .int (-1), .int 0, .ref z595, .int (-1), .int 15, .ref z596, .ref z597, .ref z598])), (z589, .inl (cI, 65536, .inl (fun _ => 0))), (z590, .inl (cI, 16384, .inl (fun _ => 0))), (z591, .inl (cI, 16384, .inl (fun _ => 0)))] H) (hD : va_D A [(dm, .inr (0, [.ref q83, .ref q84, .ref q89, .ref q95, .ref q101, .ref q107, .ref q116, .ref q120, .ref q124])), (q89, .inr (2, [.int 1, .int 1, .ref z92, .ref z93, .ref z94, .ref q84, .ref z87])), (z92, .inl (cI, 1, .inl (fun _ => 0))), (z93, .inl (cI, 1, .inl (fun _ => 0))), (z94, .inl (cI, 1, .inl (fun _ => 0))), (ou, .inl (cL, 1, .inr (.inl (fun _ => 0)))), (md, .inr (12, [.int 0, .int 1, .int 1, .ref q562, .ref q571, .ref q574, .ref q577, .ref q580, .ref q583, .ref q586, .int 0, .int (-1), .int 0, .int 0, .long 0, .ref q599, .ref q600, .ref q601, .ref q602])), (q562, .inr (13, [.int 0, .ref z565, .int 1, .int 1, .ref z566, .int 0, .int 0, .int 0, .ref z567, .int 0, .int 0, .int (-1), .int (-1), .int 0, .int (-1), .int 0, .ref z568, .ref z569])), (q586, .inr (18, [.int 0, .int 0, .int 0, .int 1, .int 1, .ref z589, .ref z590, .ref z591, .int 0, .ref z592, .int (-1), .int 0, .ref z593, .ref z594, .int (-1), .int 0, .ref z595, .int (-1), .int 15, .ref z596, .ref z597, .ref z598])), (z589, .inl (cI, 65536, .inl (fun _ => 0))), (z590, .inl (cI, 16384, .inl (fun _ => 0))), (z591, .inl (cI, 16384, .inl (fun _ => 0)))]) (hS : va_S A s.heap H locs) (hl : lv_has ls 7 [(4, .int 0), (3, .ref ou), (2, .ref md), (1, .ref dm), (0, .ref b)]) : W p l e room_1 s m args below meth c H locs 138 124625 Q (F0 m 104 ls []) := by
  refine lv_aload_n hx hb d_law_104 rfl (lv_at hl 3 rfl) ?_
  refine lv_aload_n hx hb d_law_105 rfl (lv_at hl 4 rfl) ?_
  refine lv_iload hx hb d_law_106 (lv_at hl 0 rfl) ?_
  refine lv_iconst (v := 1) hx hb d_law_108 (by decide) ?_
  refine lv_iadd hx hb d_law_109 ?_
  refine wi_c (v := 1) (by decide) ?_
  refine va_sld hx hb hX hbl hbA hS (by unfold vp_in; decide) d_law_110 ?_
  refine wi_c (v := (nI wa)) (hx1) ?_
  refine lv_aload_n hx hb d_law_111 rfl (lv_at hl 4 rfl) ?_
  refine lv_iload hx hb d_law_112 (lv_at hl 0 rfl) ?_
  refine lv_iconst (v := 2) hx hb d_law_114 (by decide) ?_
  refine lv_iadd hx hb d_law_115 ?_
  refine wi_c (v := 2) (by decide) ?_
  refine va_sld hx hb hX hbl hbA hS (by unfold vp_in; decide) d_law_116 ?_
  refine wi_c (v := (nI wb)) (hx2) ?_
  refine lv_aload_n hx hb d_law_117 rfl (lv_at hl 4 rfl) ?_
  refine lv_iload hx hb d_law_118 (lv_at hl 0 rfl) ?_
  refine lv_iconst (v := 3) hx hb d_law_120 (by decide) ?_
  refine lv_iadd hx hb d_law_121 ?_
  refine wi_c (v := 3) (by decide) ?_
  refine va_sld hx hb hX hbl hbA hS (by unfold vp_in; decide) d_law_122 ?_
  refine wi_c (v := sd) (hx3) ?_
  refine lv_aload_n hx hb d_law_123 rfl (lv_at hl 1 rfl) ?_
  refine wc_i (wr := [(md, .inr (12, [.int 0, .int 1, .int 1, .ref q562, .ref q571, .ref q574, .ref q577, .ref q580, .ref q583, .ref q586, .int 0, .int (-1), .int 0, .int 0, .long 0, .ref q599, .ref q600, .ref q601, .ref q602])), (q562, .inr (13, [.int 0, .ref z565, .int 1, .int 1, .ref z566, .int 0, .int 0, .int 0, .ref z567, .int 0, .int 0, .int (-1), .int (-1), .int 0, .int (-1), .int 0, .ref z568, .ref z569])), (q586, .inr (18, [.int 0, .int 0, .int 0, .int 1, .int 1, .ref z589, .ref z590, .ref z591, .int 0, .ref z592, .int (-1), .int 0, .ref z593, .ref z594, .int (-1), .int 0, .ref z595, .int (-1), .int 15, .ref z596, .ref z597, .ref z598])), (z589, .inl (cI, 65536, .inl (fun _ => 0))), (z590, .inl (cI, 16384, .inl (fun _ => 0))), (z591, .inl (cI, 16384, .inl (fun _ => 0)))]) hC hP hD hS [0, 1, 2, 3, 4, 5] [6, 7, 8, 9, 10, 11] rfl rfl (by decide) (by decide) (tq_runSW (n := 5) (hh := [(0, 12, 15, 13)]) (As := [.ref dm, .int (nI wa), .int (nI wb), .int sd, .ref ou]) (rest := []) ⟨hx, hb, hml, hown, htw⟩ (c_hframe_n l D cI cL B _ dm q83 q84 z87 q89 z92 z93 z94 q95 q101 q107 q116 q120 q124 wa wb sd ou (ha1) (ha2) (hb1) (hb2) (hab2) (hab) (hs)) htw (tw_goodW (fun _ h => h) k765) rfl rfl rfl ⟨Nat.le_of_ble_eq_true rfl, Nat.le_of_ble_eq_true rfl⟩ (htw _ k237) (by decide +kernel) (htw _ k819) (htw _ k820) (wC_pre hC hP hD hS [0, 1, 2, 3, 4, 5] (by decide) rfl) rfl rfl hl.1 rfl (lv_room (Nat.le_of_ble_eq_true rfl)) d_law_124 ⟨Nat.le_of_ble_eq_true rfl, Nat.le_of_ble_eq_true rfl⟩) (fun r1864 u1862 H locs hw1863 hP hD hS => ?_)
  obtain rfl : r1864 = 0 := hw1863
  have hP : va_P D classes [(md, .inr (12, [.int 0, .int 1, .int 1, .ref q562, .ref q571, .ref q574, .ref q577, .ref q580, .ref q583, .ref q586, .int 0, .int (-1), .int 0, .int 0, .long 0, .ref q599, .ref q600, .ref q601, .ref q602])), (q562, .inr (13, [.int 0, .ref z565, .int 1, .int 1, .ref z566, .int 0, .int 0, .int 0, .ref z567, .int 0, .int 0, .int (-1), .int (-1), .int 0, .int (-1), .int 0, .ref z568, .ref z569])), (q586, .inr (18, [.int 0, .int 0, .int 0, .int 1, .int 1, .ref z589, .ref z590, .ref z591, .int 0, .ref z592, .int (-1), .int 0, .ref z593, .ref z594, .int (-1), .int 0, .ref z595, .int (-1), .int 15, .ref z596, .ref z597, .ref z598])), (z589, .inl (cI, 65536, .inl (fun _ => 0))), (z590, .inl (cI, 16384, .inl (fun _ => 0))), (z591, .inl (cI, 16384, .inl (fun _ => 0))), (ou, .inl (cL, 1, .inr (.inl (vp_updL (fun _ => 0) (0 : Int32).toNatClampNeg ((((((nI wa) + sd) - 1) / sd) * ((((nI wb) + sd) - 1) / sd)).toInt64)))))] H := hP
  have hD : va_D A [(md, .inr (12, [.int 0, .int 1, .int 1, .ref q562, .ref q571, .ref q574, .ref q577, .ref q580, .ref q583, .ref q586, .int 0, .int (-1), .int 0, .int 0, .long 0, .ref q599, .ref q600, .ref q601, .ref q602])), (q562, .inr (13, [.int 0, .ref z565, .int 1, .int 1, .ref z566, .int 0, .int 0, .int 0, .ref z567, .int 0, .int 0, .int (-1), .int (-1), .int 0, .int (-1), .int 0, .ref z568, .ref z569])), (q586, .inr (18, [.int 0, .int 0, .int 0, .int 1, .int 1, .ref z589, .ref z590, .ref z591, .int 0, .ref z592, .int (-1), .int 0, .ref z593, .ref z594, .int (-1), .int 0, .ref z595, .int (-1), .int 15, .ref z596, .ref z597, .ref z598])), (z589, .inl (cI, 65536, .inl (fun _ => 0))), (z590, .inl (cI, 16384, .inl (fun _ => 0))), (z591, .inl (cI, 16384, .inl (fun _ => 0))), (ou, .inl (cL, 1, .inr (.inl (vp_updL (fun _ => 0) (0 : Int32).toNatClampNeg ((((((nI wa) + sd) - 1) / sd) * ((((nI wb) + sd) - 1) / sd)).toInt64)))))] := hD
  refine W.widen (k := 141) (n := 173777) (by omega) (by omega) ?_
  refine lv_istore (lv' := [(5, .int 0), (4, .int 0), (3, .ref ou), (2, .ref md), (1, .ref dm), (0, .ref b)]) hx hb d_law_127 hl (by decide) rfl (fun ls hl => ?_)
  refine lv_aload_n hx hb d_law_129 rfl (lv_at hl 3 rfl) ?_
  refine lv_aload_n hx hb d_law_130 rfl (lv_at hl 5 rfl) ?_
  refine lv_iload hx hb d_law_131 (lv_at hl 1 rfl) ?_
  refine lv_iconst (v := 1) hx hb d_law_133 (by decide) ?_
  refine lv_iadd hx hb d_law_134 ?_
  refine wi_c (v := 1) (by decide) ?_
  refine va_sld hx hb hX hbl hbA hS (by unfold vp_in; decide) d_law_135 ?_
  refine wi_c (v := (nI wa)) (hx1) ?_
  refine lv_aload_n hx hb d_law_136 rfl (lv_at hl 5 rfl) ?_
  refine lv_iload hx hb d_law_137 (lv_at hl 1 rfl) ?_
  refine lv_iconst (v := 2) hx hb d_law_139 (by decide) ?_
  refine lv_iadd hx hb d_law_140 ?_
  refine wi_c (v := 2) (by decide) ?_
  refine va_sld hx hb hX hbl hbA hS (by unfold vp_in; decide) d_law_141 ?_
  refine wi_c (v := (nI wb)) (hx2) ?_
  refine lv_aload_n hx hb d_law_142 rfl (lv_at hl 5 rfl) ?_
  refine lv_iload hx hb d_law_143 (lv_at hl 1 rfl) ?_
  refine lv_iconst (v := 3) hx hb d_law_145 (by decide) ?_
  refine lv_iadd hx hb d_law_146 ?_
  refine wi_c (v := 3) (by decide) ?_
  refine va_sld hx hb hX hbl hbA hS (by unfold vp_in; decide) d_law_147 ?_
  refine wi_c (v := sd) (hx3) ?_
  refine wc_i (wr := [(ou, .inl (cL, 1, .inr (.inl (vp_updL (fun _ => 0) (0 : Int32).toNatClampNeg ((((((nI wa) + sd) - 1) / sd) * ((((nI wb) + sd) - 1) / sd)).toInt64)))))]) hC hP hD hS [0, 1, 2, 3, 4, 5] [6] rfl rfl (by decide) (by decide) (va_runV (As := [.int (nI wa), .int (nI wb), .int sd]) (rest := []) ⟨hx, hb, hml, hown, htw⟩ (c_Mframe_g l D cI cL B _ md q562 z565 z566 z567 z568 z569 q571 q574 q577 q580 q583 q586 z589 z590 z591 z592 z593 z594 z595 z596 z597 z598 q599 q600 q601 q602 (nI wa) (nI wb) sd (h1) (h2) (h3) (h4) (hs)) (cwV 3 htw gV_law_64 rfl rfl rfl (by decide +kernel) ⟨Nat.le_of_ble_eq_true rfl, Nat.le_of_ble_eq_true rfl⟩) (wC_preV (As := [.int (nI wa), .int (nI wb), .int sd]) hC hP hD hS [0, 1, 2, 3, 4, 5] (by decide) rfl (q0 := 0) rfl rfl) rfl rfl hl.1 rfl (lv_room (Nat.le_of_ble_eq_true rfl)) d_law_148 ⟨Nat.le_of_ble_eq_true rfl, Nat.le_of_ble_eq_true rfl⟩) (fun r1867 u1865 H locs hw1866 hP hD hS => ?_)
  obtain rfl : r1867 = (((((nI wa) + sd) - 1) / sd) * ((((nI wb) + sd) - 1) / sd)) := hw1866
  have hP : va_P D classes [(ou, .inl (cL, 1, .inr (.inl (vp_updL (fun _ => 0) (0 : Int32).toNatClampNeg ((((((nI wa) + sd) - 1) / sd) * ((((nI wb) + sd) - 1) / sd)).toInt64))))), (md, .inr (12, [.int 0, .int (nI wa), .int (nI wb), .ref q562, .ref q571, .ref q574, .ref q577, .ref q580, .ref q583, .ref q586, .int 0, .int (-1), .int 0, .int 0, .long 0, .ref q599, .ref q600, .ref q601, .ref q602]))] H := hP
  have hD : va_D A [(ou, .inl (cL, 1, .inr (.inl (vp_updL (fun _ => 0) (0 : Int32).toNatClampNeg ((((((nI wa) + sd) - 1) / sd) * ((((nI wb) + sd) - 1) / sd)).toInt64))))), (md, .inr (12, [.int 0, .int (nI wa), .int (nI wb), .ref q562, .ref q571, .ref q574, .ref q577, .ref q580, .ref q583, .ref q586, .int 0, .int (-1), .int 0, .int 0, .long 0, .ref q599, .ref q600, .ref q601, .ref q602]))] := hD
  refine W.widen (k := 141) (n := 173777) (by omega) (by omega) ?_
  refine lv_istore (lv' := [(6, .int (((((nI wa) + sd) - 1) / sd) * ((((nI wb) + sd) - 1) / sd))), (5, .int 0), (4, .int 0), (3, .ref ou), (2, .ref md), (1, .ref dm), (0, .ref b)]) hx hb d_law_151 hl (by decide) rfl (fun ls hl => ?_)
  refine lv_aload_n hx hb d_law_153 rfl (lv_at hl 4 rfl) ?_
  refine wc_i (wr := [(ou, .inl (cL, 1, .inr (.inl (vp_updL (fun _ => 0) (0 : Int32).toNatClampNeg ((((((nI wa) + sd) - 1) / sd) * ((((nI wb) + sd) - 1) / sd)).toInt64)))))]) hC hP hD hS [1] [0] rfl rfl (by decide) (by decide) (va_runV (As := []) (rest := []) ⟨hx, hb, hml, hown, htw⟩ (c_thrown l D cI cL B _ md 0 (nI wa) (nI wb) q562 q571 q574 q577 q580 q583 q586 0 (-1) 0 0 0 q599 q600 q601 q602) (cwV 0 htw gV_law_65 rfl rfl rfl (by decide +kernel) ⟨Nat.le_of_ble_eq_true rfl, Nat.le_of_ble_eq_true rfl⟩) (wC_preV (As := []) hC hP hD hS [1] (by decide) rfl (q0 := 1) rfl rfl) rfl rfl hl.1 rfl (lv_room (Nat.le_of_ble_eq_true rfl)) d_law_154 ⟨Nat.le_of_ble_eq_true rfl, Nat.le_of_ble_eq_true rfl⟩) (fun r1870 u1868 H locs hw1869 hP hD hS => ?_)
  obtain rfl : r1870 = 0 := hw1869
  have hP : va_P D classes [(ou, .inl (cL, 1, .inr (.inl (vp_updL (fun _ => 0) (0 : Int32).toNatClampNeg ((((((nI wa) + sd) - 1) / sd) * ((((nI wb) + sd) - 1) / sd)).toInt64))))), (md, .inr (12, [.int 0, .int (nI wa), .int (nI wb), .ref q562, .ref q571, .ref q574, .ref q577, .ref q580, .ref q583, .ref q586, .int 0, .int (-1), .int 0, .int 0, .long 0, .ref q599, .ref q600, .ref q601, .ref q602]))] H := hP
  have hD : va_D A [(ou, .inl (cL, 1, .inr (.inl (vp_updL (fun _ => 0) (0 : Int32).toNatClampNeg ((((((nI wa) + sd) - 1) / sd) * ((((nI wb) + sd) - 1) / sd)).toInt64))))), (md, .inr (12, [.int 0, .int (nI wa), .int (nI wb), .ref q562, .ref q571, .ref q574, .ref q577, .ref q580, .ref q583, .ref q586, .int 0, .int (-1), .int 0, .int 0, .long 0, .ref q599, .ref q600, .ref q601, .ref q602]))] := hD
  refine W.widen (k := 141) (n := 173777) (by omega) (by omega) ?_
  refine lv_iload hx hb d_law_157 (lv_at hl 1 rfl) ?_
  refine lv_icmp_eq (tgt := 164) hx hb d_law_159 (by decide) (fun c_1871 => ?_) (fun c_1871 => absurd c_1871 (by decide))
  refine lv_iload hx hb d_law_164 (lv_at hl 1 rfl) ?_
  refine lv_if_ne (tgt := 181) hx hb d_law_166 (by decide) (fun c_1872 => absurd c_1872 (by decide)) (fun c_1872 => ?_)
  refine lv_aload_n hx hb d_law_169 rfl (lv_at hl 3 rfl) ?_
  refine lv_iconst (v := 0) hx hb d_law_170 (by decide) ?_
  refine va_lald hx hb hC.1 hP 0 1 rfl rfl (by unfold vp_in; decide) d_law_171 ?_
  refine wl_c (v := ((((((nI wa) + sd) - 1) / sd) * ((((nI wb) + sd) - 1) / sd)).toInt64)) updL_0 ?_
  refine lv_iload hx hb d_law_172 (lv_at hl 0 rfl) ?_
  refine lv_i2l (v := (((((nI wa) + sd) - 1) / sd) * ((((nI wb) + sd) - 1) / sd)).toInt64) hx hb d_law_174 rfl ?_
  refine W.lcmp hx hb d_law_175 ?_
  refine wi_c (v := 0) lgc_eq ?_
  refine lv_if_eq (tgt := 181) hx hb d_law_176 (by decide) (fun c_1873 => ?_) (fun c_1873 => absurd c_1873 (by decide))
  refine lv_goto (tgt := 847) hx hb d_law_181 (by decide) ?_
  refine W.widen (k := 600002) (n := 7302232) (by omega) (by omega) ?_
  exact kk _ _ _ hS (lv_sub hl [2, 6] rfl)

set_option maxHeartbeats 4000000 in
set_option maxRecDepth 100000 in
theorem lc_frame_b1 {p : Program} {l : Launch} {e : Env} {s : State} {m : MethodId} {args : Array Value} {below : List Frame} {meth : Method} {c : Code} {Q : State → Prop} {A : Nat → Prop} {b : Nat} {xs : Nat → Int32} {H : Heap} {locs : List Loc} {ls : Array Slot} (hfl : l.stackTraces = false) (D : va_G) (cI cL : ClassId) (B : Nat) (hx : p.tables.exec = Jvm.exec) (hb : c.code = code) (hml : c.maxLocals = 7) (hown : s.vm.findClass "DrawingMachineLaw" = some m.cls) (htw : ∀ w ∈ tw, w.before args s = true) (hC : wC D cI cL B A s) (hX : va_X b 6 xs s s.heap) (hbl : b < s.heap.size) (hbA : ¬ A b) (dm : Nat) (md : Nat) (ou : Nat) (q83 : Nat) (q84 : Nat) (q89 : Nat) (q95 : Nat) (q101 : Nat) (q107 : Nat) (q116 : Nat) (q120 : Nat) (q124 : Nat) (q562 : Nat) (q571 : Nat) (q574 : Nat) (q577 : Nat) (q580 : Nat) (q583 : Nat) (q586 : Nat) (q599 : Nat) (q600 : Nat) (q601 : Nat) (q602 : Nat) (w : Int32) (h : Int32) (sd : Int32) (hbd : w < 1 ∨ 128 < w) (hx1 : xs 1 = w) (hx2 : xs 2 = h) (hx3 : xs 3 = sd) (kk : ∀ (H : Heap) (locs : List Loc) (ls : Array Slot), va_S A s.heap H locs → lv_has ls 7 [(4, .int 0), (0, .ref b)] → W p l e room_1 s m args below meth c H locs 600002 7302232 Q (F0 m 847 ls [])) (hP : va_P D classes [(dm, .inr (0, [.ref q83, .ref q84, .ref q89, .ref q95, .ref q101, .ref q107, .ref q116, .ref q120, .ref q124])), (ou, .inl (cL, 1, .inr (.inl (fun _ => 0)))), (md, .inr (12, [.int 0, .int 1, .int 1, .ref q562, .ref q571, .ref q574, .ref q577, .ref q580, .ref q583, .ref q586, .int 0, .int (-1), .int 0, .int 0, .long 0, .ref q599, .ref q600, .ref q601, .ref q602]))] H) (hD : va_D A [(dm, .inr (0, [.ref q83, .ref q84, .ref q89, .ref q95, .ref q101, .ref q107, .ref q116, .ref q120, .ref q124])), (ou, .inl (cL, 1, .inr (.inl (fun _ => 0)))), (md, .inr (12, [.int 0, .int 1, .int 1, .ref q562, .ref q571, .ref q574, .ref q577, .ref q580, .ref q583, .ref q586, .int 0, .int (-1), .int 0, .int 0, .long 0, .ref q599, .ref q600, .ref q601, .ref q602]))]) (hS : va_S A s.heap H locs) (hl : lv_has ls 7 [(4, .int 0), (3, .ref ou), (2, .ref md), (1, .ref dm), (0, .ref b)]) : W p l e room_1 s m args below meth c H locs 138 124625 Q (F0 m 104 ls []) := by
  refine lv_aload_n hx hb d_law_104 rfl (lv_at hl 3 rfl) ?_
  refine lv_aload_n hx hb d_law_105 rfl (lv_at hl 4 rfl) ?_
  refine lv_iload hx hb d_law_106 (lv_at hl 0 rfl) ?_
  refine lv_iconst (v := 1) hx hb d_law_108 (by decide) ?_
  refine lv_iadd hx hb d_law_109 ?_
  refine wi_c (v := 1) (by decide) ?_
  refine va_sld hx hb hX hbl hbA hS (by unfold vp_in; decide) d_law_110 ?_
  refine wi_c (v := w) (hx1) ?_
  refine lv_aload_n hx hb d_law_111 rfl (lv_at hl 4 rfl) ?_
  refine lv_iload hx hb d_law_112 (lv_at hl 0 rfl) ?_
  refine lv_iconst (v := 2) hx hb d_law_114 (by decide) ?_
  refine lv_iadd hx hb d_law_115 ?_
  refine wi_c (v := 2) (by decide) ?_
  refine va_sld hx hb hX hbl hbA hS (by unfold vp_in; decide) d_law_116 ?_
  refine wi_c (v := h) (hx2) ?_
  refine lv_aload_n hx hb d_law_117 rfl (lv_at hl 4 rfl) ?_
  refine lv_iload hx hb d_law_118 (lv_at hl 0 rfl) ?_
  refine lv_iconst (v := 3) hx hb d_law_120 (by decide) ?_
  refine lv_iadd hx hb d_law_121 ?_
  refine wi_c (v := 3) (by decide) ?_
  refine va_sld hx hb hX hbl hbA hS (by unfold vp_in; decide) d_law_122 ?_
  refine wi_c (v := sd) (hx3) ?_
  refine lv_aload_n hx hb d_law_123 rfl (lv_at hl 1 rfl) ?_
  refine wc_i (wr := [(md, .inr (12, [.int 0, .int 1, .int 1, .ref q562, .ref q571, .ref q574, .ref q577, .ref q580, .ref q583, .ref q586, .int 0, .int (-1), .int 0, .int 0, .long 0, .ref q599, .ref q600, .ref q601, .ref q602]))]) hC hP hD hS [0, 1] [2] rfl rfl (by decide) (by decide) (tq_runSW (n := 5) (hh := [(0, 12, 15, 13)]) (As := [.ref dm, .int w, .int h, .int sd, .ref ou]) (rest := []) ⟨hx, hb, hml, hown, htw⟩ (c_hframe_b1 l hfl D cI cL B _ dm q83 q84 q89 q95 q101 q107 q116 q120 q124 w h sd ou (hbd)) htw (tw_goodW (fun _ h => h) k765) rfl rfl rfl ⟨Nat.le_of_ble_eq_true rfl, Nat.le_of_ble_eq_true rfl⟩ (htw _ k237) (by decide +kernel) (htw _ k819) (htw _ k820) (wC_pre hC hP hD hS [0, 1] (by decide) rfl) rfl rfl hl.1 rfl (lv_room (Nat.le_of_ble_eq_true rfl)) d_law_124 ⟨Nat.le_of_ble_eq_true rfl, Nat.le_of_ble_eq_true rfl⟩) (fun r1876 u1874 H locs hw1875 hP hD hS => ?_)
  obtain rfl : r1876 = 1 := hw1875
  have hP : va_P D classes [(md, .inr (12, [.int 0, .int 1, .int 1, .ref q562, .ref q571, .ref q574, .ref q577, .ref q580, .ref q583, .ref q586, .int 0, .int (-1), .int 0, .int 0, .long 0, .ref q599, .ref q600, .ref q601, .ref q602]))] H := hP
  have hD : va_D A [(md, .inr (12, [.int 0, .int 1, .int 1, .ref q562, .ref q571, .ref q574, .ref q577, .ref q580, .ref q583, .ref q586, .int 0, .int (-1), .int 0, .int 0, .long 0, .ref q599, .ref q600, .ref q601, .ref q602]))] := hD
  refine W.widen (k := 139) (n := 124631) (by omega) (by omega) ?_
  refine lv_istore (lv' := [(5, .int 1), (4, .int 0), (3, .ref ou), (2, .ref md), (1, .ref dm), (0, .ref b)]) hx hb d_law_127 hl (by decide) rfl (fun ls hl => ?_)
  refine lv_aload_n hx hb d_law_129 rfl (lv_at hl 3 rfl) ?_
  refine lv_aload_n hx hb d_law_130 rfl (lv_at hl 5 rfl) ?_
  refine lv_iload hx hb d_law_131 (lv_at hl 1 rfl) ?_
  refine lv_iconst (v := 1) hx hb d_law_133 (by decide) ?_
  refine lv_iadd hx hb d_law_134 ?_
  refine wi_c (v := 1) (by decide) ?_
  refine va_sld hx hb hX hbl hbA hS (by unfold vp_in; decide) d_law_135 ?_
  refine wi_c (v := w) (hx1) ?_
  refine lv_aload_n hx hb d_law_136 rfl (lv_at hl 5 rfl) ?_
  refine lv_iload hx hb d_law_137 (lv_at hl 1 rfl) ?_
  refine lv_iconst (v := 2) hx hb d_law_139 (by decide) ?_
  refine lv_iadd hx hb d_law_140 ?_
  refine wi_c (v := 2) (by decide) ?_
  refine va_sld hx hb hX hbl hbA hS (by unfold vp_in; decide) d_law_141 ?_
  refine wi_c (v := h) (hx2) ?_
  refine lv_aload_n hx hb d_law_142 rfl (lv_at hl 5 rfl) ?_
  refine lv_iload hx hb d_law_143 (lv_at hl 1 rfl) ?_
  refine lv_iconst (v := 3) hx hb d_law_145 (by decide) ?_
  refine lv_iadd hx hb d_law_146 ?_
  refine wi_c (v := 3) (by decide) ?_
  refine va_sld hx hb hX hbl hbA hS (by unfold vp_in; decide) d_law_147 ?_
  refine wi_c (v := sd) (hx3) ?_
  refine wc_i (wr := []) hC hP hD hS [0] [] rfl rfl (by decide) (by decide) (va_runV (As := [.int w, .int h, .int sd]) (rest := []) ⟨hx, hb, hml, hown, htw⟩ (c_Mframe_b1 l D cI cL B _ md q562 q571 q574 q577 q580 q583 q586 q599 q600 q601 q602 w h sd (hbd)) (cwV 3 htw gV_law_64 rfl rfl rfl (by decide +kernel) ⟨Nat.le_of_ble_eq_true rfl, Nat.le_of_ble_eq_true rfl⟩) (wC_preV (As := [.int w, .int h, .int sd]) hC hP hD hS [0] (by decide) rfl (q0 := 0) rfl rfl) rfl rfl hl.1 rfl (lv_room (Nat.le_of_ble_eq_true rfl)) d_law_148 ⟨Nat.le_of_ble_eq_true rfl, Nat.le_of_ble_eq_true rfl⟩) (fun r1879 u1877 H locs hw1878 hP hD hS => ?_)
  obtain rfl : r1879 = 0 := hw1878
  have hP : va_P D classes [(md, .inr (12, [.int 1, .int 1, .int 1, .ref q562, .ref q571, .ref q574, .ref q577, .ref q580, .ref q583, .ref q586, .int 0, .int (-1), .int 0, .int 0, .long 0, .ref q599, .ref q600, .ref q601, .ref q602]))] H := hP
  have hD : va_D A [(md, .inr (12, [.int 1, .int 1, .int 1, .ref q562, .ref q571, .ref q574, .ref q577, .ref q580, .ref q583, .ref q586, .int 0, .int (-1), .int 0, .int 0, .long 0, .ref q599, .ref q600, .ref q601, .ref q602]))] := hD
  refine W.widen (k := 139) (n := 124631) (by omega) (by omega) ?_
  refine lv_istore (lv' := [(6, .int 0), (5, .int 1), (4, .int 0), (3, .ref ou), (2, .ref md), (1, .ref dm), (0, .ref b)]) hx hb d_law_151 hl (by decide) rfl (fun ls hl => ?_)
  refine lv_aload_n hx hb d_law_153 rfl (lv_at hl 4 rfl) ?_
  refine wc_i (wr := []) hC hP hD hS [0] [] rfl rfl (by decide) (by decide) (va_runV (As := []) (rest := []) ⟨hx, hb, hml, hown, htw⟩ (c_thrown l D cI cL B _ md 1 1 1 q562 q571 q574 q577 q580 q583 q586 0 (-1) 0 0 0 q599 q600 q601 q602) (cwV 0 htw gV_law_65 rfl rfl rfl (by decide +kernel) ⟨Nat.le_of_ble_eq_true rfl, Nat.le_of_ble_eq_true rfl⟩) (wC_preV (As := []) hC hP hD hS [0] (by decide) rfl (q0 := 0) rfl rfl) rfl rfl hl.1 rfl (lv_room (Nat.le_of_ble_eq_true rfl)) d_law_154 ⟨Nat.le_of_ble_eq_true rfl, Nat.le_of_ble_eq_true rfl⟩) (fun r1882 u1880 H locs hw1881 hP hD hS => ?_)
  obtain rfl : r1882 = 1 := hw1881
  have hP : va_P D classes [(md, .inr (12, [.int 1, .int 1, .int 1, .ref q562, .ref q571, .ref q574, .ref q577, .ref q580, .ref q583, .ref q586, .int 0, .int (-1), .int 0, .int 0, .long 0, .ref q599, .ref q600, .ref q601, .ref q602]))] H := hP
  have hD : va_D A [(md, .inr (12, [.int 1, .int 1, .int 1, .ref q562, .ref q571, .ref q574, .ref q577, .ref q580, .ref q583, .ref q586, .int 0, .int (-1), .int 0, .int 0, .long 0, .ref q599, .ref q600, .ref q601, .ref q602]))] := hD
  refine W.widen (k := 139) (n := 124631) (by omega) (by omega) ?_
  refine lv_iload hx hb d_law_157 (lv_at hl 1 rfl) ?_
  refine lv_icmp_eq (tgt := 164) hx hb d_law_159 (by decide) (fun c_1883 => ?_) (fun c_1883 => absurd c_1883 (by decide))
  refine lv_iload hx hb d_law_164 (lv_at hl 1 rfl) ?_
  refine lv_if_ne (tgt := 181) hx hb d_law_166 (by decide) (fun c_1884 => ?_) (fun c_1884 => absurd c_1884 (by decide))
  refine lv_goto (tgt := 847) hx hb d_law_181 (by decide) ?_
  refine W.widen (k := 600002) (n := 7302232) (by omega) (by omega) ?_
  exact kk _ _ _ hS (lv_sub hl [2, 6] rfl)

set_option maxHeartbeats 4000000 in
set_option maxRecDepth 100000 in
theorem lc_frame_b2 {p : Program} {l : Launch} {e : Env} {s : State} {m : MethodId} {args : Array Value} {below : List Frame} {meth : Method} {c : Code} {Q : State → Prop} {A : Nat → Prop} {b : Nat} {xs : Nat → Int32} {H : Heap} {locs : List Loc} {ls : Array Slot} (hfl : l.stackTraces = false) (D : va_G) (cI cL : ClassId) (B : Nat) (hx : p.tables.exec = Jvm.exec) (hb : c.code = code) (hml : c.maxLocals = 7) (hown : s.vm.findClass "DrawingMachineLaw" = some m.cls) (htw : ∀ w ∈ tw, w.before args s = true) (hC : wC D cI cL B A s) (hX : va_X b 6 xs s s.heap) (hbl : b < s.heap.size) (hbA : ¬ A b) (dm : Nat) (md : Nat) (ou : Nat) (q83 : Nat) (q84 : Nat) (q89 : Nat) (q95 : Nat) (q101 : Nat) (q107 : Nat) (q116 : Nat) (q120 : Nat) (q124 : Nat) (q562 : Nat) (q571 : Nat) (q574 : Nat) (q577 : Nat) (q580 : Nat) (q583 : Nat) (q586 : Nat) (q599 : Nat) (q600 : Nat) (q601 : Nat) (q602 : Nat) (w : Int32) (h : Int32) (sd : Int32) (h1 : ¬ w < 1) (h2 : ¬ 128 < w) (hbd : h < 1 ∨ 128 < h) (hx1 : xs 1 = w) (hx2 : xs 2 = h) (hx3 : xs 3 = sd) (kk : ∀ (H : Heap) (locs : List Loc) (ls : Array Slot), va_S A s.heap H locs → lv_has ls 7 [(4, .int 0), (0, .ref b)] → W p l e room_1 s m args below meth c H locs 600002 7302232 Q (F0 m 847 ls [])) (hP : va_P D classes [(dm, .inr (0, [.ref q83, .ref q84, .ref q89, .ref q95, .ref q101, .ref q107, .ref q116, .ref q120, .ref q124])), (ou, .inl (cL, 1, .inr (.inl (fun _ => 0)))), (md, .inr (12, [.int 0, .int 1, .int 1, .ref q562, .ref q571, .ref q574, .ref q577, .ref q580, .ref q583, .ref q586, .int 0, .int (-1), .int 0, .int 0, .long 0, .ref q599, .ref q600, .ref q601, .ref q602]))] H) (hD : va_D A [(dm, .inr (0, [.ref q83, .ref q84, .ref q89, .ref q95, .ref q101, .ref q107, .ref q116, .ref q120, .ref q124])), (ou, .inl (cL, 1, .inr (.inl (fun _ => 0)))), (md, .inr (12, [.int 0, .int 1, .int 1, .ref q562, .ref q571, .ref q574, .ref q577, .ref q580, .ref q583, .ref q586, .int 0, .int (-1), .int 0, .int 0, .long 0, .ref q599, .ref q600, .ref q601, .ref q602]))]) (hS : va_S A s.heap H locs) (hl : lv_has ls 7 [(4, .int 0), (3, .ref ou), (2, .ref md), (1, .ref dm), (0, .ref b)]) : W p l e room_1 s m args below meth c H locs 138 124625 Q (F0 m 104 ls []) := by
  refine lv_aload_n hx hb d_law_104 rfl (lv_at hl 3 rfl) ?_
  refine lv_aload_n hx hb d_law_105 rfl (lv_at hl 4 rfl) ?_
  refine lv_iload hx hb d_law_106 (lv_at hl 0 rfl) ?_
  refine lv_iconst (v := 1) hx hb d_law_108 (by decide) ?_
  refine lv_iadd hx hb d_law_109 ?_
  refine wi_c (v := 1) (by decide) ?_
  refine va_sld hx hb hX hbl hbA hS (by unfold vp_in; decide) d_law_110 ?_
  refine wi_c (v := w) (hx1) ?_
  refine lv_aload_n hx hb d_law_111 rfl (lv_at hl 4 rfl) ?_
  refine lv_iload hx hb d_law_112 (lv_at hl 0 rfl) ?_
  refine lv_iconst (v := 2) hx hb d_law_114 (by decide) ?_
  refine lv_iadd hx hb d_law_115 ?_
  refine wi_c (v := 2) (by decide) ?_
  refine va_sld hx hb hX hbl hbA hS (by unfold vp_in; decide) d_law_116 ?_
  refine wi_c (v := h) (hx2) ?_
  refine lv_aload_n hx hb d_law_117 rfl (lv_at hl 4 rfl) ?_
  refine lv_iload hx hb d_law_118 (lv_at hl 0 rfl) ?_
  refine lv_iconst (v := 3) hx hb d_law_120 (by decide) ?_
  refine lv_iadd hx hb d_law_121 ?_
  refine wi_c (v := 3) (by decide) ?_
  refine va_sld hx hb hX hbl hbA hS (by unfold vp_in; decide) d_law_122 ?_
  refine wi_c (v := sd) (hx3) ?_
  refine lv_aload_n hx hb d_law_123 rfl (lv_at hl 1 rfl) ?_
  refine wc_i (wr := [(md, .inr (12, [.int 0, .int 1, .int 1, .ref q562, .ref q571, .ref q574, .ref q577, .ref q580, .ref q583, .ref q586, .int 0, .int (-1), .int 0, .int 0, .long 0, .ref q599, .ref q600, .ref q601, .ref q602]))]) hC hP hD hS [0, 1] [2] rfl rfl (by decide) (by decide) (tq_runSW (n := 5) (hh := [(0, 12, 15, 13)]) (As := [.ref dm, .int w, .int h, .int sd, .ref ou]) (rest := []) ⟨hx, hb, hml, hown, htw⟩ (c_hframe_b2 l hfl D cI cL B _ dm q83 q84 q89 q95 q101 q107 q116 q120 q124 w h sd ou (h1) (h2) (hbd)) htw (tw_goodW (fun _ h => h) k765) rfl rfl rfl ⟨Nat.le_of_ble_eq_true rfl, Nat.le_of_ble_eq_true rfl⟩ (htw _ k237) (by decide +kernel) (htw _ k819) (htw _ k820) (wC_pre hC hP hD hS [0, 1] (by decide) rfl) rfl rfl hl.1 rfl (lv_room (Nat.le_of_ble_eq_true rfl)) d_law_124 ⟨Nat.le_of_ble_eq_true rfl, Nat.le_of_ble_eq_true rfl⟩) (fun r1887 u1885 H locs hw1886 hP hD hS => ?_)
  obtain rfl : r1887 = 1 := hw1886
  have hP : va_P D classes [(md, .inr (12, [.int 0, .int 1, .int 1, .ref q562, .ref q571, .ref q574, .ref q577, .ref q580, .ref q583, .ref q586, .int 0, .int (-1), .int 0, .int 0, .long 0, .ref q599, .ref q600, .ref q601, .ref q602]))] H := hP
  have hD : va_D A [(md, .inr (12, [.int 0, .int 1, .int 1, .ref q562, .ref q571, .ref q574, .ref q577, .ref q580, .ref q583, .ref q586, .int 0, .int (-1), .int 0, .int 0, .long 0, .ref q599, .ref q600, .ref q601, .ref q602]))] := hD
  refine W.widen (k := 139) (n := 124631) (by omega) (by omega) ?_
  refine lv_istore (lv' := [(5, .int 1), (4, .int 0), (3, .ref ou), (2, .ref md), (1, .ref dm), (0, .ref b)]) hx hb d_law_127 hl (by decide) rfl (fun ls hl => ?_)
  refine lv_aload_n hx hb d_law_129 rfl (lv_at hl 3 rfl) ?_
  refine lv_aload_n hx hb d_law_130 rfl (lv_at hl 5 rfl) ?_
  refine lv_iload hx hb d_law_131 (lv_at hl 1 rfl) ?_
  refine lv_iconst (v := 1) hx hb d_law_133 (by decide) ?_
  refine lv_iadd hx hb d_law_134 ?_
  refine wi_c (v := 1) (by decide) ?_
  refine va_sld hx hb hX hbl hbA hS (by unfold vp_in; decide) d_law_135 ?_
  refine wi_c (v := w) (hx1) ?_
  refine lv_aload_n hx hb d_law_136 rfl (lv_at hl 5 rfl) ?_
  refine lv_iload hx hb d_law_137 (lv_at hl 1 rfl) ?_
  refine lv_iconst (v := 2) hx hb d_law_139 (by decide) ?_
  refine lv_iadd hx hb d_law_140 ?_
  refine wi_c (v := 2) (by decide) ?_
  refine va_sld hx hb hX hbl hbA hS (by unfold vp_in; decide) d_law_141 ?_
  refine wi_c (v := h) (hx2) ?_
  refine lv_aload_n hx hb d_law_142 rfl (lv_at hl 5 rfl) ?_
  refine lv_iload hx hb d_law_143 (lv_at hl 1 rfl) ?_
  refine lv_iconst (v := 3) hx hb d_law_145 (by decide) ?_
  refine lv_iadd hx hb d_law_146 ?_
  refine wi_c (v := 3) (by decide) ?_
  refine va_sld hx hb hX hbl hbA hS (by unfold vp_in; decide) d_law_147 ?_
  refine wi_c (v := sd) (hx3) ?_
  refine wc_i (wr := []) hC hP hD hS [0] [] rfl rfl (by decide) (by decide) (va_runV (As := [.int w, .int h, .int sd]) (rest := []) ⟨hx, hb, hml, hown, htw⟩ (c_Mframe_b2 l D cI cL B _ md q562 q571 q574 q577 q580 q583 q586 q599 q600 q601 q602 w h sd (h1) (h2) (hbd)) (cwV 3 htw gV_law_64 rfl rfl rfl (by decide +kernel) ⟨Nat.le_of_ble_eq_true rfl, Nat.le_of_ble_eq_true rfl⟩) (wC_preV (As := [.int w, .int h, .int sd]) hC hP hD hS [0] (by decide) rfl (q0 := 0) rfl rfl) rfl rfl hl.1 rfl (lv_room (Nat.le_of_ble_eq_true rfl)) d_law_148 ⟨Nat.le_of_ble_eq_true rfl, Nat.le_of_ble_eq_true rfl⟩) (fun r1890 u1888 H locs hw1889 hP hD hS => ?_)
  obtain rfl : r1890 = 0 := hw1889
  have hP : va_P D classes [(md, .inr (12, [.int 1, .int 1, .int 1, .ref q562, .ref q571, .ref q574, .ref q577, .ref q580, .ref q583, .ref q586, .int 0, .int (-1), .int 0, .int 0, .long 0, .ref q599, .ref q600, .ref q601, .ref q602]))] H := hP
  have hD : va_D A [(md, .inr (12, [.int 1, .int 1, .int 1, .ref q562, .ref q571, .ref q574, .ref q577, .ref q580, .ref q583, .ref q586, .int 0, .int (-1), .int 0, .int 0, .long 0, .ref q599, .ref q600, .ref q601, .ref q602]))] := hD
  refine W.widen (k := 139) (n := 124631) (by omega) (by omega) ?_
  refine lv_istore (lv' := [(6, .int 0), (5, .int 1), (4, .int 0), (3, .ref ou), (2, .ref md), (1, .ref dm), (0, .ref b)]) hx hb d_law_151 hl (by decide) rfl (fun ls hl => ?_)
  refine lv_aload_n hx hb d_law_153 rfl (lv_at hl 4 rfl) ?_
  refine wc_i (wr := []) hC hP hD hS [0] [] rfl rfl (by decide) (by decide) (va_runV (As := []) (rest := []) ⟨hx, hb, hml, hown, htw⟩ (c_thrown l D cI cL B _ md 1 1 1 q562 q571 q574 q577 q580 q583 q586 0 (-1) 0 0 0 q599 q600 q601 q602) (cwV 0 htw gV_law_65 rfl rfl rfl (by decide +kernel) ⟨Nat.le_of_ble_eq_true rfl, Nat.le_of_ble_eq_true rfl⟩) (wC_preV (As := []) hC hP hD hS [0] (by decide) rfl (q0 := 0) rfl rfl) rfl rfl hl.1 rfl (lv_room (Nat.le_of_ble_eq_true rfl)) d_law_154 ⟨Nat.le_of_ble_eq_true rfl, Nat.le_of_ble_eq_true rfl⟩) (fun r1893 u1891 H locs hw1892 hP hD hS => ?_)
  obtain rfl : r1893 = 1 := hw1892
  have hP : va_P D classes [(md, .inr (12, [.int 1, .int 1, .int 1, .ref q562, .ref q571, .ref q574, .ref q577, .ref q580, .ref q583, .ref q586, .int 0, .int (-1), .int 0, .int 0, .long 0, .ref q599, .ref q600, .ref q601, .ref q602]))] H := hP
  have hD : va_D A [(md, .inr (12, [.int 1, .int 1, .int 1, .ref q562, .ref q571, .ref q574, .ref q577, .ref q580, .ref q583, .ref q586, .int 0, .int (-1), .int 0, .int 0, .long 0, .ref q599, .ref q600, .ref q601, .ref q602]))] := hD
  refine W.widen (k := 139) (n := 124631) (by omega) (by omega) ?_
  refine lv_iload hx hb d_law_157 (lv_at hl 1 rfl) ?_
  refine lv_icmp_eq (tgt := 164) hx hb d_law_159 (by decide) (fun c_1894 => ?_) (fun c_1894 => absurd c_1894 (by decide))
  refine lv_iload hx hb d_law_164 (lv_at hl 1 rfl) ?_
  refine lv_if_ne (tgt := 181) hx hb d_law_166 (by decide) (fun c_1895 => ?_) (fun c_1895 => absurd c_1895 (by decide))
  refine lv_goto (tgt := 847) hx hb d_law_181 (by decide) ?_
  refine W.widen (k := 600002) (n := 7302232) (by omega) (by omega) ?_
  exact kk _ _ _ hS (lv_sub hl [2, 6] rfl)

set_option maxHeartbeats 4000000 in
set_option maxRecDepth 100000 in
theorem lc_frame_b3 {p : Program} {l : Launch} {e : Env} {s : State} {m : MethodId} {args : Array Value} {below : List Frame} {meth : Method} {c : Code} {Q : State → Prop} {A : Nat → Prop} {b : Nat} {xs : Nat → Int32} {H : Heap} {locs : List Loc} {ls : Array Slot} (hfl : l.stackTraces = false) (D : va_G) (cI cL : ClassId) (B : Nat) (hx : p.tables.exec = Jvm.exec) (hb : c.code = code) (hml : c.maxLocals = 7) (hown : s.vm.findClass "DrawingMachineLaw" = some m.cls) (htw : ∀ w ∈ tw, w.before args s = true) (hC : wC D cI cL B A s) (hX : va_X b 6 xs s s.heap) (hbl : b < s.heap.size) (hbA : ¬ A b) (dm : Nat) (md : Nat) (ou : Nat) (q83 : Nat) (q84 : Nat) (q89 : Nat) (q95 : Nat) (q101 : Nat) (q107 : Nat) (q116 : Nat) (q120 : Nat) (q124 : Nat) (q562 : Nat) (q571 : Nat) (q574 : Nat) (q577 : Nat) (q580 : Nat) (q583 : Nat) (q586 : Nat) (q599 : Nat) (q600 : Nat) (q601 : Nat) (q602 : Nat) (w : Int32) (h : Int32) (sd : Int32) (h1 : ¬ w < 1) (h2 : ¬ 128 < w) (h3 : ¬ h < 1) (h4 : ¬ 128 < h) (hbd : ¬ (sd = 8 ∨ sd = 16 ∨ sd = 32 ∨ sd = 64)) (hx1 : xs 1 = w) (hx2 : xs 2 = h) (hx3 : xs 3 = sd) (kk : ∀ (H : Heap) (locs : List Loc) (ls : Array Slot), va_S A s.heap H locs → lv_has ls 7 [(4, .int 0), (0, .ref b)] → W p l e room_1 s m args below meth c H locs 600002 7302232 Q (F0 m 847 ls [])) (hP : va_P D classes [(dm, .inr (0, [.ref q83, .ref q84, .ref q89, .ref q95, .ref q101, .ref q107, .ref q116, .ref q120, .ref q124])), (ou, .inl (cL, 1, .inr (.inl (fun _ => 0)))), (md, .inr (12, [.int 0, .int 1, .int 1, .ref q562, .ref q571, .ref q574, .ref q577, .ref q580, .ref q583, .ref q586, .int 0, .int (-1), .int 0, .int 0, .long 0, .ref q599, .ref q600, .ref q601, .ref q602]))] H) (hD : va_D A [(dm, .inr (0, [.ref q83, .ref q84, .ref q89, .ref q95, .ref q101, .ref q107, .ref q116, .ref q120, .ref q124])), (ou, .inl (cL, 1, .inr (.inl (fun _ => 0)))), (md, .inr (12, [.int 0, .int 1, .int 1, .ref q562, .ref q571, .ref q574, .ref q577, .ref q580, .ref q583, .ref q586, .int 0, .int (-1), .int 0, .int 0, .long 0, .ref q599, .ref q600, .ref q601, .ref q602]))]) (hS : va_S A s.heap H locs) (hl : lv_has ls 7 [(4, .int 0), (3, .ref ou), (2, .ref md), (1, .ref dm), (0, .ref b)]) : W p l e room_1 s m args below meth c H locs 138 124625 Q (F0 m 104 ls []) := by
  refine lv_aload_n hx hb d_law_104 rfl (lv_at hl 3 rfl) ?_
  refine lv_aload_n hx hb d_law_105 rfl (lv_at hl 4 rfl) ?_
  refine lv_iload hx hb d_law_106 (lv_at hl 0 rfl) ?_
  refine lv_iconst (v := 1) hx hb d_law_108 (by decide) ?_
  refine lv_iadd hx hb d_law_109 ?_
  refine wi_c (v := 1) (by decide) ?_
  refine va_sld hx hb hX hbl hbA hS (by unfold vp_in; decide) d_law_110 ?_
  refine wi_c (v := w) (hx1) ?_
  refine lv_aload_n hx hb d_law_111 rfl (lv_at hl 4 rfl) ?_
  refine lv_iload hx hb d_law_112 (lv_at hl 0 rfl) ?_
  refine lv_iconst (v := 2) hx hb d_law_114 (by decide) ?_
  refine lv_iadd hx hb d_law_115 ?_
  refine wi_c (v := 2) (by decide) ?_
  refine va_sld hx hb hX hbl hbA hS (by unfold vp_in; decide) d_law_116 ?_
  refine wi_c (v := h) (hx2) ?_
  refine lv_aload_n hx hb d_law_117 rfl (lv_at hl 4 rfl) ?_
  refine lv_iload hx hb d_law_118 (lv_at hl 0 rfl) ?_
  refine lv_iconst (v := 3) hx hb d_law_120 (by decide) ?_
  refine lv_iadd hx hb d_law_121 ?_
  refine wi_c (v := 3) (by decide) ?_
  refine va_sld hx hb hX hbl hbA hS (by unfold vp_in; decide) d_law_122 ?_
  refine wi_c (v := sd) (hx3) ?_
  refine lv_aload_n hx hb d_law_123 rfl (lv_at hl 1 rfl) ?_
  refine wc_i (wr := [(md, .inr (12, [.int 0, .int 1, .int 1, .ref q562, .ref q571, .ref q574, .ref q577, .ref q580, .ref q583, .ref q586, .int 0, .int (-1), .int 0, .int 0, .long 0, .ref q599, .ref q600, .ref q601, .ref q602]))]) hC hP hD hS [0, 1] [2] rfl rfl (by decide) (by decide) (tq_runSW (n := 5) (hh := [(0, 12, 15, 13)]) (As := [.ref dm, .int w, .int h, .int sd, .ref ou]) (rest := []) ⟨hx, hb, hml, hown, htw⟩ (c_hframe_b3 l hfl D cI cL B _ dm q83 q84 q89 q95 q101 q107 q116 q120 q124 w h sd ou (h1) (h2) (h3) (h4) (hbd)) htw (tw_goodW (fun _ h => h) k765) rfl rfl rfl ⟨Nat.le_of_ble_eq_true rfl, Nat.le_of_ble_eq_true rfl⟩ (htw _ k237) (by decide +kernel) (htw _ k819) (htw _ k820) (wC_pre hC hP hD hS [0, 1] (by decide) rfl) rfl rfl hl.1 rfl (lv_room (Nat.le_of_ble_eq_true rfl)) d_law_124 ⟨Nat.le_of_ble_eq_true rfl, Nat.le_of_ble_eq_true rfl⟩) (fun r1898 u1896 H locs hw1897 hP hD hS => ?_)
  obtain rfl : r1898 = 1 := hw1897
  have hP : va_P D classes [(md, .inr (12, [.int 0, .int 1, .int 1, .ref q562, .ref q571, .ref q574, .ref q577, .ref q580, .ref q583, .ref q586, .int 0, .int (-1), .int 0, .int 0, .long 0, .ref q599, .ref q600, .ref q601, .ref q602]))] H := hP
  have hD : va_D A [(md, .inr (12, [.int 0, .int 1, .int 1, .ref q562, .ref q571, .ref q574, .ref q577, .ref q580, .ref q583, .ref q586, .int 0, .int (-1), .int 0, .int 0, .long 0, .ref q599, .ref q600, .ref q601, .ref q602]))] := hD
  refine W.widen (k := 139) (n := 124631) (by omega) (by omega) ?_
  refine lv_istore (lv' := [(5, .int 1), (4, .int 0), (3, .ref ou), (2, .ref md), (1, .ref dm), (0, .ref b)]) hx hb d_law_127 hl (by decide) rfl (fun ls hl => ?_)
  refine lv_aload_n hx hb d_law_129 rfl (lv_at hl 3 rfl) ?_
  refine lv_aload_n hx hb d_law_130 rfl (lv_at hl 5 rfl) ?_
  refine lv_iload hx hb d_law_131 (lv_at hl 1 rfl) ?_
  refine lv_iconst (v := 1) hx hb d_law_133 (by decide) ?_
  refine lv_iadd hx hb d_law_134 ?_
  refine wi_c (v := 1) (by decide) ?_
  refine va_sld hx hb hX hbl hbA hS (by unfold vp_in; decide) d_law_135 ?_
  refine wi_c (v := w) (hx1) ?_
  refine lv_aload_n hx hb d_law_136 rfl (lv_at hl 5 rfl) ?_
  refine lv_iload hx hb d_law_137 (lv_at hl 1 rfl) ?_
  refine lv_iconst (v := 2) hx hb d_law_139 (by decide) ?_
  refine lv_iadd hx hb d_law_140 ?_
  refine wi_c (v := 2) (by decide) ?_
  refine va_sld hx hb hX hbl hbA hS (by unfold vp_in; decide) d_law_141 ?_
  refine wi_c (v := h) (hx2) ?_
  refine lv_aload_n hx hb d_law_142 rfl (lv_at hl 5 rfl) ?_
  refine lv_iload hx hb d_law_143 (lv_at hl 1 rfl) ?_
  refine lv_iconst (v := 3) hx hb d_law_145 (by decide) ?_
  refine lv_iadd hx hb d_law_146 ?_
  refine wi_c (v := 3) (by decide) ?_
  refine va_sld hx hb hX hbl hbA hS (by unfold vp_in; decide) d_law_147 ?_
  refine wi_c (v := sd) (hx3) ?_
  refine wc_i (wr := []) hC hP hD hS [0] [] rfl rfl (by decide) (by decide) (va_runV (As := [.int w, .int h, .int sd]) (rest := []) ⟨hx, hb, hml, hown, htw⟩ (c_Mframe_b3 l D cI cL B _ md q562 q571 q574 q577 q580 q583 q586 q599 q600 q601 q602 w h sd (h1) (h2) (h3) (h4) (hbd)) (cwV 3 htw gV_law_64 rfl rfl rfl (by decide +kernel) ⟨Nat.le_of_ble_eq_true rfl, Nat.le_of_ble_eq_true rfl⟩) (wC_preV (As := [.int w, .int h, .int sd]) hC hP hD hS [0] (by decide) rfl (q0 := 0) rfl rfl) rfl rfl hl.1 rfl (lv_room (Nat.le_of_ble_eq_true rfl)) d_law_148 ⟨Nat.le_of_ble_eq_true rfl, Nat.le_of_ble_eq_true rfl⟩) (fun r1901 u1899 H locs hw1900 hP hD hS => ?_)
  obtain rfl : r1901 = 0 := hw1900
  have hP : va_P D classes [(md, .inr (12, [.int 1, .int 1, .int 1, .ref q562, .ref q571, .ref q574, .ref q577, .ref q580, .ref q583, .ref q586, .int 0, .int (-1), .int 0, .int 0, .long 0, .ref q599, .ref q600, .ref q601, .ref q602]))] H := hP
  have hD : va_D A [(md, .inr (12, [.int 1, .int 1, .int 1, .ref q562, .ref q571, .ref q574, .ref q577, .ref q580, .ref q583, .ref q586, .int 0, .int (-1), .int 0, .int 0, .long 0, .ref q599, .ref q600, .ref q601, .ref q602]))] := hD
  refine W.widen (k := 139) (n := 124631) (by omega) (by omega) ?_
  refine lv_istore (lv' := [(6, .int 0), (5, .int 1), (4, .int 0), (3, .ref ou), (2, .ref md), (1, .ref dm), (0, .ref b)]) hx hb d_law_151 hl (by decide) rfl (fun ls hl => ?_)
  refine lv_aload_n hx hb d_law_153 rfl (lv_at hl 4 rfl) ?_
  refine wc_i (wr := []) hC hP hD hS [0] [] rfl rfl (by decide) (by decide) (va_runV (As := []) (rest := []) ⟨hx, hb, hml, hown, htw⟩ (c_thrown l D cI cL B _ md 1 1 1 q562 q571 q574 q577 q580 q583 q586 0 (-1) 0 0 0 q599 q600 q601 q602) (cwV 0 htw gV_law_65 rfl rfl rfl (by decide +kernel) ⟨Nat.le_of_ble_eq_true rfl, Nat.le_of_ble_eq_true rfl⟩) (wC_preV (As := []) hC hP hD hS [0] (by decide) rfl (q0 := 0) rfl rfl) rfl rfl hl.1 rfl (lv_room (Nat.le_of_ble_eq_true rfl)) d_law_154 ⟨Nat.le_of_ble_eq_true rfl, Nat.le_of_ble_eq_true rfl⟩) (fun r1904 u1902 H locs hw1903 hP hD hS => ?_)
  obtain rfl : r1904 = 1 := hw1903
  have hP : va_P D classes [(md, .inr (12, [.int 1, .int 1, .int 1, .ref q562, .ref q571, .ref q574, .ref q577, .ref q580, .ref q583, .ref q586, .int 0, .int (-1), .int 0, .int 0, .long 0, .ref q599, .ref q600, .ref q601, .ref q602]))] H := hP
  have hD : va_D A [(md, .inr (12, [.int 1, .int 1, .int 1, .ref q562, .ref q571, .ref q574, .ref q577, .ref q580, .ref q583, .ref q586, .int 0, .int (-1), .int 0, .int 0, .long 0, .ref q599, .ref q600, .ref q601, .ref q602]))] := hD
  refine W.widen (k := 139) (n := 124631) (by omega) (by omega) ?_
  refine lv_iload hx hb d_law_157 (lv_at hl 1 rfl) ?_
  refine lv_icmp_eq (tgt := 164) hx hb d_law_159 (by decide) (fun c_1905 => ?_) (fun c_1905 => absurd c_1905 (by decide))
  refine lv_iload hx hb d_law_164 (lv_at hl 1 rfl) ?_
  refine lv_if_ne (tgt := 181) hx hb d_law_166 (by decide) (fun c_1906 => ?_) (fun c_1906 => absurd c_1906 (by decide))
  refine lv_goto (tgt := 847) hx hb d_law_181 (by decide) ?_
  refine W.widen (k := 600002) (n := 7302232) (by omega) (by omega) ?_
  exact kk _ _ _ hS (lv_sub hl [2, 6] rfl)
