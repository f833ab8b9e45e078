theorem d_Mod_kept_0 : decode prog_14_method_11_code 0 = .ok (.aload_n 0, 1) := by decide +kernel
theorem d_Mod_kept_1 : decode prog_14_method_11_code 1 = .ok (.getfield 19, 3) := by decide +kernel
theorem d_Mod_kept_4 : decode prog_14_method_11_code 4 = .ok (.getfield 126, 3) := by decide +kernel
theorem d_Mod_kept_7 : decode prog_14_method_11_code 7 = .ok (.iload_n 1, 1) := by decide +kernel
theorem d_Mod_kept_8 : decode prog_14_method_11_code 8 = .ok (.iload_n 2, 1) := by decide +kernel
theorem d_Mod_kept_9 : decode prog_14_method_11_code 9 = .ok (.invokestatic 129, 3) := by decide +kernel
theorem d_Mod_kept_12 : decode prog_14_method_11_code 12 = .ok (.iload_n 3, 1) := by decide +kernel
theorem d_Mod_kept_13 : decode prog_14_method_11_code 13 = .ok (.iadd, 1) := by decide +kernel
theorem d_Mod_kept_14 : decode prog_14_method_11_code 14 = .ok (.iaload, 1) := by decide +kernel
theorem d_Mod_kept_15 : decode prog_14_method_11_code 15 = .ok (.ireturn, 1) := by decide +kernel
set_option maxHeartbeats 4000000 in
set_option maxRecDepth 100000 in
theorem c_Mkept_70 (l : Launch) (D : va_G) (cI cL : ClassId) (B sz : Nat) (h0 : Nat) (q562 : Nat) (z565 : Nat) (z566 : Nat) (z567 : Nat) (z568 : Nat) (z569 : Nat) (z570 : Nat → Int32) (q571 : Nat) (q574 : Nat) (q577 : Nat) (q580 : Nat) (q583 : Nat) (q586 : Nat) (q599 : Nat) (q600 : Nat) (q601 : Nat) (q602 : Nat) : Met l y_Mod_kept ((Cond.code y_Mod_kept prog_14_method_11_code 4 (some .int)) :: tw) ({ frames := 40, cells := 0, slots := 0, locals := 4000 }) (va_Pc [.ref h0, .int 7, .int 0, .int 0] (wP D cI cL B sz [(h0, .inr (12, [.int 0, .int 1, .int 1, .ref q562, .ref q571, .ref q574, .ref q577, .ref q580, .ref q583, .ref q586, .int 0, .int (-1), .int 0, .int 0, .long 0, .ref q599, .ref q600, .ref q601, .ref q602])), (q562, .inr (13, [.int 0, .ref z565, .int 1, .int 1, .ref z566, .int 0, .int 0, .int 0, .ref z567, .int 0, .int 0, .int (-1), .int (-1), .int 0, .int (-1), .int 0, .ref z568, .ref z569])), (z569, .inl (cI, 4160, .inl z570))])) (va_Qi (S := Unit) (fun r u => r = (z570 (((nI (160 * 7 + 0 * cnt 7)) + 0)).toNatClampNeg)) (fun u => wB D cI cL (va_A [(h0, .inr (12, [.int 0, .int 1, .int 1, .ref q562, .ref q571, .ref q574, .ref q577, .ref q580, .ref q583, .ref q586, .int 0, .int (-1), .int 0, .int 0, .long 0, .ref q599, .ref q600, .ref q601, .ref q602])), (q562, .inr (13, [.int 0, .ref z565, .int 1, .int 1, .ref z566, .int 0, .int 0, .int 0, .ref z567, .int 0, .int 0, .int (-1), .int (-1), .int 0, .int (-1), .int 0, .ref z568, .ref z569])), (z569, .inl (cI, 4160, .inl z570))] sz) ((fun _ : Unit => [(h0, .inr (12, [.int 0, .int 1, .int 1, .ref q562, .ref q571, .ref q574, .ref q577, .ref q580, .ref q583, .ref q586, .int 0, .int (-1), .int 0, .int 0, .long 0, .ref q599, .ref q600, .ref q601, .ref q602])), (q562, .inr (13, [.int 0, .ref z565, .int 1, .int 1, .ref z566, .int 0, .int 0, .int 0, .ref z567, .int 0, .int 0, .int (-1), .int (-1), .int 0, .int (-1), .int 0, .ref z568, .ref z569])), (z569, .inl (cI, 4160, .inl z570))]) u)) (va_A [(h0, .inr (12, [.int 0, .int 1, .int 1, .ref q562, .ref q571, .ref q574, .ref q577, .ref q580, .ref q583, .ref q586, .int 0, .int (-1), .int 0, .int 0, .long 0, .ref q599, .ref q600, .ref q601, .ref q602])), (q562, .inr (13, [.int 0, .ref z565, .int 1, .int 1, .ref z566, .int 0, .int 0, .int 0, .ref z567, .int 0, .int 0, .int (-1), .int (-1), .int 0, .int (-1), .int 0, .ref z568, .ref z569])), (z569, .inl (cI, 4160, .inl z570))] sz)) 0 0 (va_A [(h0, .inr (12, [.int 0, .int 1, .int 1, .ref q562, .ref q571, .ref q574, .ref q577, .ref q580, .ref q583, .ref q586, .int 0, .int (-1), .int 0, .int 0, .long 0, .ref q599, .ref q600, .ref q601, .ref q602])), (q562, .inr (13, [.int 0, .ref z565, .int 1, .int 1, .ref z566, .int 0, .int 0, .int 0, .ref z567, .int 0, .int 0, .int (-1), .int (-1), .int 0, .int (-1), .int 0, .ref z568, .ref z569])), (z569, .inl (cI, 4160, .inl z570))] sz) := by
  refine Met.ofW (cc := prog_14_method_11_code) (maxL := 4) (ret := (some .int)) (by decide) rfl ?_
  intro p e s m args below meth c s₁ B0 hml hv
  obtain ⟨rfl, hv⟩ := hv
  have hx := B0.exec
  have hb := B0.bytes
  have hr := B0.returns
  have hts := atoms_spec (ws := (Cond.code y_Mod_kept prog_14_method_11_code 4 (some .int)) :: tw) B0.pre
  have htw : ∀ w ∈ tw, w.before _ s = true := fun w hw => hts w (List.mem_cons_of_mem _ hw)
  have hown : s.vm.findClass "DrawingMachineModel" = some m.cls := findClass_of_methodNamed B0.named
  have hlocks := B0.notSynchronized
  obtain ⟨hC, hP, hD, hsz⟩ := wC_init hv
  subst hsz
  generalize hAe : va_A [(h0, .inr (12, [.int 0, .int 1, .int 1, .ref q562, .ref q571, .ref q574, .ref q577, .ref q580, .ref q583, .ref q586, .int 0, .int (-1), .int 0, .int 0, .long 0, .ref q599, .ref q600, .ref q601, .ref q602])), (q562, .inr (13, [.int 0, .ref z565, .int 1, .int 1, .ref z566, .int 0, .int 0, .int 0, .ref z567, .int 0, .int 0, .int (-1), .int (-1), .int 0, .int (-1), .int 0, .ref z568, .ref z569])), (z569, .inl (cI, 4160, .inl z570))] s.heap.size = A at hC hD ⊢
  have hS : va_S A s.heap s.heap [] := va_S.rf
  have hl := lv_entry ([.ref h0, .int 7, .int 0, .int 0]) (n := 4) (Nat.le_of_ble_eq_true rfl)
  rw [lg_entry_eq]
  generalize (lg_sl ([.ref h0, .int 7, .int 0, .int 0]) ++ List.replicate (4 - (lg_sl ([.ref h0, .int 7, .int 0, .int 0])).length) Slot.unset).toArray = ls at hl ⊢
  have hl : lv_has ls 4 [(0, .ref h0), (1, .int 7), (2, .int 0), (3, .int 0)] := hl
  refine lv_aload_n hx hb d_Mod_kept_0 rfl (lv_at hl 0 rfl) ?_
  refine va_get (D := D) (ci := 12) (v := .ref q562) (C := R_Mod) (T := F_Mod) (N := 19) hx hb htw i_Mod hown hC.1 hP 0 rfl rfl 3 (by decide) (htw _ k521) (fun _ h9 => h9) rfl d_Mod_kept_1 ?_
  refine va_getN (D := D) (ci := 13) (v := .ref z569) (C := R_Cmd) (T := F_Cmd) (N := 18) hx hb htw i_Cmd hown hC.1 hP 1 rfl rfl 17 (by decide) (va_Nw.use rfl (hC.2.1.1 _ kn9)) (fun _ h9 => h9) rfl d_Mod_kept_4 ?_
  refine lv_iload_n hx hb d_Mod_kept_7 rfl (lv_at hl 1 rfl) ?_
  refine lv_iload_n hx hb d_Mod_kept_8 rfl (lv_at hl 2 rfl) ?_
  refine wc_i (wr := [(h0, .inr (12, [.int 0, .int 1, .int 1, .ref q562, .ref q571, .ref q574, .ref q577, .ref q580, .ref q583, .ref q586, .int 0, .int (-1), .int 0, .int 0, .long 0, .ref q599, .ref q600, .ref q601, .ref q602])), (q562, .inr (13, [.int 0, .ref z565, .int 1, .int 1, .ref z566, .int 0, .int 0, .int 0, .ref z567, .int 0, .int 0, .int (-1), .int (-1), .int 0, .int (-1), .int 0, .ref z568, .ref z569])), (z569, .inl (cI, 4160, .inl z570))]) hC hP hD hS [] [0, 1, 2] rfl rfl (by decide) (by decide) (va_runSN (As := [.int 7, .int 0]) (rest := [.ref z569]) ⟨hx, hb, hml, hown, htw⟩ (c_rowOf l D cI cL B _ 7 0 (by decide)) ⟨va_cnB 2 htw (tw_good (fun _ h => h) k664) rfl rfl rfl (hC.2.1.1 _ kn10) (htw _ k137) (by decide +kernel) ⟨Nat.le_of_ble_eq_true rfl, Nat.le_of_ble_eq_true rfl⟩, htw _ k663, trivial⟩ (wC_pre hC hP hD hS [] (by decide) rfl) rfl rfl hl.1 rfl (lv_room (Nat.le_of_ble_eq_true rfl)) d_Mod_kept_9 ⟨Nat.le_of_ble_eq_true rfl, Nat.le_of_ble_eq_true rfl⟩) (fun r757 u755 H locs hw756 hP hD hS => ?_)
  obtain rfl : r757 = (nI (160 * 7 + 0 * cnt 7)) := hw756
  have hP : va_P D classes [(h0, .inr (12, [.int 0, .int 1, .int 1, .ref q562, .ref q571, .ref q574, .ref q577, .ref q580, .ref q583, .ref q586, .int 0, .int (-1), .int 0, .int 0, .long 0, .ref q599, .ref q600, .ref q601, .ref q602])), (q562, .inr (13, [.int 0, .ref z565, .int 1, .int 1, .ref z566, .int 0, .int 0, .int 0, .ref z567, .int 0, .int 0, .int (-1), .int (-1), .int 0, .int (-1), .int 0, .ref z568, .ref z569])), (z569, .inl (cI, 4160, .inl z570))] H := hP
  have hD : va_D A [(h0, .inr (12, [.int 0, .int 1, .int 1, .ref q562, .ref q571, .ref q574, .ref q577, .ref q580, .ref q583, .ref q586, .int 0, .int (-1), .int 0, .int 0, .long 0, .ref q599, .ref q600, .ref q601, .ref q602])), (q562, .inr (13, [.int 0, .ref z565, .int 1, .int 1, .ref z566, .int 0, .int 0, .int 0, .ref z567, .int 0, .int 0, .int (-1), .int (-1), .int 0, .int (-1), .int 0, .ref z568, .ref z569])), (z569, .inl (cI, 4160, .inl z570))] := hD
  refine W.widen (k := 0) (n := 0) (by omega) (by omega) ?_
  refine lv_iload_n hx hb d_Mod_kept_12 rfl (lv_at hl 3 rfl) ?_
  refine lv_iadd hx hb d_Mod_kept_13 ?_
  refine va_iald hx hb hC.1 hP 2 0 rfl rfl (by unfold vp_in; decide) d_Mod_kept_14 ?_
  refine W.widen (k := 0) (n := 0) (Nat.le_of_ble_eq_true rfl) (Nat.le_of_ble_eq_true rfl) ?_
  have hP9 := hP.sub (ws' := [(h0, .inr (12, [.int 0, .int 1, .int 1, .ref q562, .ref q571, .ref q574, .ref q577, .ref q580, .ref q583, .ref q586, .int 0, .int (-1), .int 0, .int 0, .long 0, .ref q599, .ref q600, .ref q601, .ref q602])), (q562, .inr (13, [.int 0, .ref z565, .int 1, .int 1, .ref z566, .int 0, .int 0, .int 0, .ref z567, .int 0, .int 0, .int (-1), .int (-1), .int 0, .int (-1), .int 0, .ref z568, .ref z569])), (z569, .inl (cI, 4160, .inl z570))]) [0, 1, 2] rfl
  have hD9 := hD.sub (ws' := [(h0, .inr (12, [.int 0, .int 1, .int 1, .ref q562, .ref q571, .ref q574, .ref q577, .ref q580, .ref q583, .ref q586, .int 0, .int (-1), .int 0, .int 0, .long 0, .ref q599, .ref q600, .ref q601, .ref q602])), (q562, .inr (13, [.int 0, .ref z565, .int 1, .int 1, .ref z566, .int 0, .int 0, .int 0, .ref z567, .int 0, .int 0, .int (-1), .int (-1), .int 0, .int (-1), .int 0, .ref z568, .ref z569])), (z569, .inl (cI, 4160, .inl z570))]) [0, 1, 2] (by decide) rfl
  exact W.iret (v := (z570 (((nI (160 * 7 + 0 * cnt 7)) + 0)).toNatClampNeg)) hx hb hr (fun t ht hW => ⟨⟨(z570 (((nI (160 * 7 + 0 * cnt 7)) + 0)).toNatClampNeg), (), rfl, rfl, by rw [ht]; exact hP9, va_K.moved hW.alike hC.1, hD9⟩, hS.F ht⟩) hS.2.2 d_Mod_kept_15

set_option maxHeartbeats 4000000 in
set_option maxRecDepth 100000 in
theorem c_Mkept_71 (l : Launch) (D : va_G) (cI cL : ClassId) (B sz : Nat) (h0 : Nat) (q562 : Nat) (z565 : Nat) (z566 : Nat) (z567 : Nat) (z568 : Nat) (z569 : Nat) (z570 : Nat → Int32) (q571 : Nat) (q574 : Nat) (q577 : Nat) (q580 : Nat) (q583 : Nat) (q586 : Nat) (q599 : Nat) (q600 : Nat) (q601 : Nat) (q602 : Nat) : Met l y_Mod_kept ((Cond.code y_Mod_kept prog_14_method_11_code 4 (some .int)) :: tw) ({ frames := 40, cells := 0, slots := 0, locals := 4000 }) (va_Pc [.ref h0, .int 7, .int 0, .int 1] (wP D cI cL B sz [(h0, .inr (12, [.int 0, .int 1, .int 1, .ref q562, .ref q571, .ref q574, .ref q577, .ref q580, .ref q583, .ref q586, .int 0, .int (-1), .int 0, .int 0, .long 0, .ref q599, .ref q600, .ref q601, .ref q602])), (q562, .inr (13, [.int 0, .ref z565, .int 1, .int 1, .ref z566, .int 0, .int 0, .int 0, .ref z567, .int 0, .int 0, .int (-1), .int (-1), .int 0, .int (-1), .int 0, .ref z568, .ref z569])), (z569, .inl (cI, 4160, .inl z570))])) (va_Qi (S := Unit) (fun r u => r = (z570 (((nI (160 * 7 + 0 * cnt 7)) + 1)).toNatClampNeg)) (fun u => wB D cI cL (va_A [(h0, .inr (12, [.int 0, .int 1, .int 1, .ref q562, .ref q571, .ref q574, .ref q577, .ref q580, .ref q583, .ref q586, .int 0, .int (-1), .int 0, .int 0, .long 0, .ref q599, .ref q600, .ref q601, .ref q602])), (q562, .inr (13, [.int 0, .ref z565, .int 1, .int 1, .ref z566, .int 0, .int 0, .int 0, .ref z567, .int 0, .int 0, .int (-1), .int (-1), .int 0, .int (-1), .int 0, .ref z568, .ref z569])), (z569, .inl (cI, 4160, .inl z570))] sz) ((fun _ : Unit => [(h0, .inr (12, [.int 0, .int 1, .int 1, .ref q562, .ref q571, .ref q574, .ref q577, .ref q580, .ref q583, .ref q586, .int 0, .int (-1), .int 0, .int 0, .long 0, .ref q599, .ref q600, .ref q601, .ref q602])), (q562, .inr (13, [.int 0, .ref z565, .int 1, .int 1, .ref z566, .int 0, .int 0, .int 0, .ref z567, .int 0, .int 0, .int (-1), .int (-1), .int 0, .int (-1), .int 0, .ref z568, .ref z569])), (z569, .inl (cI, 4160, .inl z570))]) u)) (va_A [(h0, .inr (12, [.int 0, .int 1, .int 1, .ref q562, .ref q571, .ref q574, .ref q577, .ref q580, .ref q583, .ref q586, .int 0, .int (-1), .int 0, .int 0, .long 0, .ref q599, .ref q600, .ref q601, .ref q602])), (q562, .inr (13, [.int 0, .ref z565, .int 1, .int 1, .ref z566, .int 0, .int 0, .int 0, .ref z567, .int 0, .int 0, .int (-1), .int (-1), .int 0, .int (-1), .int 0, .ref z568, .ref z569])), (z569, .inl (cI, 4160, .inl z570))] sz)) 0 0 (va_A [(h0, .inr (12, [.int 0, .int 1, .int 1, .ref q562, .ref q571, .ref q574, .ref q577, .ref q580, .ref q583, .ref q586, .int 0, .int (-1), .int 0, .int 0, .long 0, .ref q599, .ref q600, .ref q601, .ref q602])), (q562, .inr (13, [.int 0, .ref z565, .int 1, .int 1, .ref z566, .int 0, .int 0, .int 0, .ref z567, .int 0, .int 0, .int (-1), .int (-1), .int 0, .int (-1), .int 0, .ref z568, .ref z569])), (z569, .inl (cI, 4160, .inl z570))] sz) := by
  refine Met.ofW (cc := prog_14_method_11_code) (maxL := 4) (ret := (some .int)) (by decide) rfl ?_
  intro p e s m args below meth c s₁ B0 hml hv
  obtain ⟨rfl, hv⟩ := hv
  have hx := B0.exec
  have hb := B0.bytes
  have hr := B0.returns
  have hts := atoms_spec (ws := (Cond.code y_Mod_kept prog_14_method_11_code 4 (some .int)) :: tw) B0.pre
  have htw : ∀ w ∈ tw, w.before _ s = true := fun w hw => hts w (List.mem_cons_of_mem _ hw)
  have hown : s.vm.findClass "DrawingMachineModel" = some m.cls := findClass_of_methodNamed B0.named
  have hlocks := B0.notSynchronized
  obtain ⟨hC, hP, hD, hsz⟩ := wC_init hv
  subst hsz
  generalize hAe : va_A [(h0, .inr (12, [.int 0, .int 1, .int 1, .ref q562, .ref q571, .ref q574, .ref q577, .ref q580, .ref q583, .ref q586, .int 0, .int (-1), .int 0, .int 0, .long 0, .ref q599, .ref q600, .ref q601, .ref q602])), (q562, .inr (13, [.int 0, .ref z565, .int 1, .int 1, .ref z566, .int 0, .int 0, .int 0, .ref z567, .int 0, .int 0, .int (-1), .int (-1), .int 0, .int (-1), .int 0, .ref z568, .ref z569])), (z569, .inl (cI, 4160, .inl z570))] s.heap.size = A at hC hD ⊢
  have hS : va_S A s.heap s.heap [] := va_S.rf
  have hl := lv_entry ([.ref h0, .int 7, .int 0, .int 1]) (n := 4) (Nat.le_of_ble_eq_true rfl)
  rw [lg_entry_eq]
  generalize (lg_sl ([.ref h0, .int 7, .int 0, .int 1]) ++ List.replicate (4 - (lg_sl ([.ref h0, .int 7, .int 0, .int 1])).length) Slot.unset).toArray = ls at hl ⊢
  have hl : lv_has ls 4 [(0, .ref h0), (1, .int 7), (2, .int 0), (3, .int 1)] := hl
  refine lv_aload_n hx hb d_Mod_kept_0 rfl (lv_at hl 0 rfl) ?_
  refine va_get (D := D) (ci := 12) (v := .ref q562) (C := R_Mod) (T := F_Mod) (N := 19) hx hb htw i_Mod hown hC.1 hP 0 rfl rfl 3 (by decide) (htw _ k521) (fun _ h9 => h9) rfl d_Mod_kept_1 ?_
  refine va_getN (D := D) (ci := 13) (v := .ref z569) (C := R_Cmd) (T := F_Cmd) (N := 18) hx hb htw i_Cmd hown hC.1 hP 1 rfl rfl 17 (by decide) (va_Nw.use rfl (hC.2.1.1 _ kn9)) (fun _ h9 => h9) rfl d_Mod_kept_4 ?_
  refine lv_iload_n hx hb d_Mod_kept_7 rfl (lv_at hl 1 rfl) ?_
  refine lv_iload_n hx hb d_Mod_kept_8 rfl (lv_at hl 2 rfl) ?_
  refine wc_i (wr := [(h0, .inr (12, [.int 0, .int 1, .int 1, .ref q562, .ref q571, .ref q574, .ref q577, .ref q580, .ref q583, .ref q586, .int 0, .int (-1), .int 0, .int 0, .long 0, .ref q599, .ref q600, .ref q601, .ref q602])), (q562, .inr (13, [.int 0, .ref z565, .int 1, .int 1, .ref z566, .int 0, .int 0, .int 0, .ref z567, .int 0, .int 0, .int (-1), .int (-1), .int 0, .int (-1), .int 0, .ref z568, .ref z569])), (z569, .inl (cI, 4160, .inl z570))]) hC hP hD hS [] [0, 1, 2] rfl rfl (by decide) (by decide) (va_runSN (As := [.int 7, .int 0]) (rest := [.ref z569]) ⟨hx, hb, hml, hown, htw⟩ (c_rowOf l D cI cL B _ 7 0 (by decide)) ⟨va_cnB 2 htw (tw_good (fun _ h => h) k664) rfl rfl rfl (hC.2.1.1 _ kn10) (htw _ k137) (by decide +kernel) ⟨Nat.le_of_ble_eq_true rfl, Nat.le_of_ble_eq_true rfl⟩, htw _ k663, trivial⟩ (wC_pre hC hP hD hS [] (by decide) rfl) rfl rfl hl.1 rfl (lv_room (Nat.le_of_ble_eq_true rfl)) d_Mod_kept_9 ⟨Nat.le_of_ble_eq_true rfl, Nat.le_of_ble_eq_true rfl⟩) (fun r760 u758 H locs hw759 hP hD hS => ?_)
  obtain rfl : r760 = (nI (160 * 7 + 0 * cnt 7)) := hw759
  have hP : va_P D classes [(h0, .inr (12, [.int 0, .int 1, .int 1, .ref q562, .ref q571, .ref q574, .ref q577, .ref q580, .ref q583, .ref q586, .int 0, .int (-1), .int 0, .int 0, .long 0, .ref q599, .ref q600, .ref q601, .ref q602])), (q562, .inr (13, [.int 0, .ref z565, .int 1, .int 1, .ref z566, .int 0, .int 0, .int 0, .ref z567, .int 0, .int 0, .int (-1), .int (-1), .int 0, .int (-1), .int 0, .ref z568, .ref z569])), (z569, .inl (cI, 4160, .inl z570))] H := hP
  have hD : va_D A [(h0, .inr (12, [.int 0, .int 1, .int 1, .ref q562, .ref q571, .ref q574, .ref q577, .ref q580, .ref q583, .ref q586, .int 0, .int (-1), .int 0, .int 0, .long 0, .ref q599, .ref q600, .ref q601, .ref q602])), (q562, .inr (13, [.int 0, .ref z565, .int 1, .int 1, .ref z566, .int 0, .int 0, .int 0, .ref z567, .int 0, .int 0, .int (-1), .int (-1), .int 0, .int (-1), .int 0, .ref z568, .ref z569])), (z569, .inl (cI, 4160, .inl z570))] := hD
  refine W.widen (k := 0) (n := 0) (by omega) (by omega) ?_
  refine lv_iload_n hx hb d_Mod_kept_12 rfl (lv_at hl 3 rfl) ?_
  refine lv_iadd hx hb d_Mod_kept_13 ?_
  refine va_iald hx hb hC.1 hP 2 0 rfl rfl (by unfold vp_in; decide) d_Mod_kept_14 ?_
  refine W.widen (k := 0) (n := 0) (Nat.le_of_ble_eq_true rfl) (Nat.le_of_ble_eq_true rfl) ?_
  have hP9 := hP.sub (ws' := [(h0, .inr (12, [.int 0, .int 1, .int 1, .ref q562, .ref q571, .ref q574, .ref q577, .ref q580, .ref q583, .ref q586, .int 0, .int (-1), .int 0, .int 0, .long 0, .ref q599, .ref q600, .ref q601, .ref q602])), (q562, .inr (13, [.int 0, .ref z565, .int 1, .int 1, .ref z566, .int 0, .int 0, .int 0, .ref z567, .int 0, .int 0, .int (-1), .int (-1), .int 0, .int (-1), .int 0, .ref z568, .ref z569])), (z569, .inl (cI, 4160, .inl z570))]) [0, 1, 2] rfl
  have hD9 := hD.sub (ws' := [(h0, .inr (12, [.int 0, .int 1, .int 1, .ref q562, .ref q571, .ref q574, .ref q577, .ref q580, .ref q583, .ref q586, .int 0, .int (-1), .int 0, .int 0, .long 0, .ref q599, .ref q600, .ref q601, .ref q602])), (q562, .inr (13, [.int 0, .ref z565, .int 1, .int 1, .ref z566, .int 0, .int 0, .int 0, .ref z567, .int 0, .int 0, .int (-1), .int (-1), .int 0, .int (-1), .int 0, .ref z568, .ref z569])), (z569, .inl (cI, 4160, .inl z570))]) [0, 1, 2] (by decide) rfl
  exact W.iret (v := (z570 (((nI (160 * 7 + 0 * cnt 7)) + 1)).toNatClampNeg)) hx hb hr (fun t ht hW => ⟨⟨(z570 (((nI (160 * 7 + 0 * cnt 7)) + 1)).toNatClampNeg), (), rfl, rfl, by rw [ht]; exact hP9, va_K.moved hW.alike hC.1, hD9⟩, hS.F ht⟩) hS.2.2 d_Mod_kept_15

set_option maxHeartbeats 4000000 in
set_option maxRecDepth 100000 in
theorem c_Mkept_80 (l : Launch) (D : va_G) (cI cL : ClassId) (B sz : Nat) (h0 : Nat) (q562 : Nat) (z565 : Nat) (z566 : Nat) (z567 : Nat) (z568 : Nat) (z569 : Nat) (z570 : Nat → Int32) (q571 : Nat) (q574 : Nat) (q577 : Nat) (q580 : Nat) (q583 : Nat) (q586 : Nat) (q599 : Nat) (q600 : Nat) (q601 : Nat) (q602 : Nat) : Met l y_Mod_kept ((Cond.code y_Mod_kept prog_14_method_11_code 4 (some .int)) :: tw) ({ frames := 40, cells := 0, slots := 0, locals := 4000 }) (va_Pc [.ref h0, .int 8, .int 0, .int 0] (wP D cI cL B sz [(h0, .inr (12, [.int 0, .int 1, .int 1, .ref q562, .ref q571, .ref q574, .ref q577, .ref q580, .ref q583, .ref q586, .int 0, .int (-1), .int 0, .int 0, .long 0, .ref q599, .ref q600, .ref q601, .ref q602])), (q562, .inr (13, [.int 0, .ref z565, .int 1, .int 1, .ref z566, .int 0, .int 0, .int 0, .ref z567, .int 0, .int 0, .int (-1), .int (-1), .int 0, .int (-1), .int 0, .ref z568, .ref z569])), (z569, .inl (cI, 4160, .inl z570))])) (va_Qi (S := Unit) (fun r u => r = (z570 (((nI (160 * 8 + 0 * cnt 8)) + 0)).toNatClampNeg)) (fun u => wB D cI cL (va_A [(h0, .inr (12, [.int 0, .int 1, .int 1, .ref q562, .ref q571, .ref q574, .ref q577, .ref q580, .ref q583, .ref q586, .int 0, .int (-1), .int 0, .int 0, .long 0, .ref q599, .ref q600, .ref q601, .ref q602])), (q562, .inr (13, [.int 0, .ref z565, .int 1, .int 1, .ref z566, .int 0, .int 0, .int 0, .ref z567, .int 0, .int 0, .int (-1), .int (-1), .int 0, .int (-1), .int 0, .ref z568, .ref z569])), (z569, .inl (cI, 4160, .inl z570))] sz) ((fun _ : Unit => [(h0, .inr (12, [.int 0, .int 1, .int 1, .ref q562, .ref q571, .ref q574, .ref q577, .ref q580, .ref q583, .ref q586, .int 0, .int (-1), .int 0, .int 0, .long 0, .ref q599, .ref q600, .ref q601, .ref q602])), (q562, .inr (13, [.int 0, .ref z565, .int 1, .int 1, .ref z566, .int 0, .int 0, .int 0, .ref z567, .int 0, .int 0, .int (-1), .int (-1), .int 0, .int (-1), .int 0, .ref z568, .ref z569])), (z569, .inl (cI, 4160, .inl z570))]) u)) (va_A [(h0, .inr (12, [.int 0, .int 1, .int 1, .ref q562, .ref q571, .ref q574, .ref q577, .ref q580, .ref q583, .ref q586, .int 0, .int (-1), .int 0, .int 0, .long 0, .ref q599, .ref q600, .ref q601, .ref q602])), (q562, .inr (13, [.int 0, .ref z565, .int 1, .int 1, .ref z566, .int 0, .int 0, .int 0, .ref z567, .int 0, .int 0, .int (-1), .int (-1), .int 0, .int (-1), .int 0, .ref z568, .ref z569])), (z569, .inl (cI, 4160, .inl z570))] sz)) 0 0 (va_A [(h0, .inr (12, [.int 0, .int 1, .int 1, .ref q562, .ref q571, .ref q574, .ref q577, .ref q580, .ref q583, .ref q586, .int 0, .int (-1), .int 0, .int 0, .long 0, .ref q599, .ref q600, .ref q601, .ref q602])), (q562, .inr (13, [.int 0, .ref z565, .int 1, .int 1, .ref z566, .int 0, .int 0, .int 0, .ref z567, .int 0, .int 0, .int (-1), .int (-1), .int 0, .int (-1), .int 0, .ref z568, .ref z569])), (z569, .inl (cI, 4160, .inl z570))] sz) := by
  refine Met.ofW (cc := prog_14_method_11_code) (maxL := 4) (ret := (some .int)) (by decide) rfl ?_
  intro p e s m args below meth c s₁ B0 hml hv
  obtain ⟨rfl, hv⟩ := hv
  have hx := B0.exec
  have hb := B0.bytes
  have hr := B0.returns
  have hts := atoms_spec (ws := (Cond.code y_Mod_kept prog_14_method_11_code 4 (some .int)) :: tw) B0.pre
  have htw : ∀ w ∈ tw, w.before _ s = true := fun w hw => hts w (List.mem_cons_of_mem _ hw)
  have hown : s.vm.findClass "DrawingMachineModel" = some m.cls := findClass_of_methodNamed B0.named
  have hlocks := B0.notSynchronized
  obtain ⟨hC, hP, hD, hsz⟩ := wC_init hv
  subst hsz
  generalize hAe : va_A [(h0, .inr (12, [.int 0, .int 1, .int 1, .ref q562, .ref q571, .ref q574, .ref q577, .ref q580, .ref q583, .ref q586, .int 0, .int (-1), .int 0, .int 0, .long 0, .ref q599, .ref q600, .ref q601, .ref q602])), (q562, .inr (13, [.int 0, .ref z565, .int 1, .int 1, .ref z566, .int 0, .int 0, .int 0, .ref z567, .int 0, .int 0, .int (-1), .int (-1), .int 0, .int (-1), .int 0, .ref z568, .ref z569])), (z569, .inl (cI, 4160, .inl z570))] s.heap.size = A at hC hD ⊢
  have hS : va_S A s.heap s.heap [] := va_S.rf
  have hl := lv_entry ([.ref h0, .int 8, .int 0, .int 0]) (n := 4) (Nat.le_of_ble_eq_true rfl)
  rw [lg_entry_eq]
  generalize (lg_sl ([.ref h0, .int 8, .int 0, .int 0]) ++ List.replicate (4 - (lg_sl ([.ref h0, .int 8, .int 0, .int 0])).length) Slot.unset).toArray = ls at hl ⊢
  have hl : lv_has ls 4 [(0, .ref h0), (1, .int 8), (2, .int 0), (3, .int 0)] := hl
  refine lv_aload_n hx hb d_Mod_kept_0 rfl (lv_at hl 0 rfl) ?_
  refine va_get (D := D) (ci := 12) (v := .ref q562) (C := R_Mod) (T := F_Mod) (N := 19) hx hb htw i_Mod hown hC.1 hP 0 rfl rfl 3 (by decide) (htw _ k521) (fun _ h9 => h9) rfl d_Mod_kept_1 ?_
  refine va_getN (D := D) (ci := 13) (v := .ref z569) (C := R_Cmd) (T := F_Cmd) (N := 18) hx hb htw i_Cmd hown hC.1 hP 1 rfl rfl 17 (by decide) (va_Nw.use rfl (hC.2.1.1 _ kn9)) (fun _ h9 => h9) rfl d_Mod_kept_4 ?_
  refine lv_iload_n hx hb d_Mod_kept_7 rfl (lv_at hl 1 rfl) ?_
  refine lv_iload_n hx hb d_Mod_kept_8 rfl (lv_at hl 2 rfl) ?_
  refine wc_i (wr := [(h0, .inr (12, [.int 0, .int 1, .int 1, .ref q562, .ref q571, .ref q574, .ref q577, .ref q580, .ref q583, .ref q586, .int 0, .int (-1), .int 0, .int 0, .long 0, .ref q599, .ref q600, .ref q601, .ref q602])), (q562, .inr (13, [.int 0, .ref z565, .int 1, .int 1, .ref z566, .int 0, .int 0, .int 0, .ref z567, .int 0, .int 0, .int (-1), .int (-1), .int 0, .int (-1), .int 0, .ref z568, .ref z569])), (z569, .inl (cI, 4160, .inl z570))]) hC hP hD hS [] [0, 1, 2] rfl rfl (by decide) (by decide) (va_runSN (As := [.int 8, .int 0]) (rest := [.ref z569]) ⟨hx, hb, hml, hown, htw⟩ (c_rowOf l D cI cL B _ 8 0 (by decide)) ⟨va_cnB 2 htw (tw_good (fun _ h => h) k664) rfl rfl rfl (hC.2.1.1 _ kn10) (htw _ k137) (by decide +kernel) ⟨Nat.le_of_ble_eq_true rfl, Nat.le_of_ble_eq_true rfl⟩, htw _ k663, trivial⟩ (wC_pre hC hP hD hS [] (by decide) rfl) rfl rfl hl.1 rfl (lv_room (Nat.le_of_ble_eq_true rfl)) d_Mod_kept_9 ⟨Nat.le_of_ble_eq_true rfl, Nat.le_of_ble_eq_true rfl⟩) (fun r763 u761 H locs hw762 hP hD hS => ?_)
  obtain rfl : r763 = (nI (160 * 8 + 0 * cnt 8)) := hw762
  have hP : va_P D classes [(h0, .inr (12, [.int 0, .int 1, .int 1, .ref q562, .ref q571, .ref q574, .ref q577, .ref q580, .ref q583, .ref q586, .int 0, .int (-1), .int 0, .int 0, .long 0, .ref q599, .ref q600, .ref q601, .ref q602])), (q562, .inr (13, [.int 0, .ref z565, .int 1, .int 1, .ref z566, .int 0, .int 0, .int 0, .ref z567, .int 0, .int 0, .int (-1), .int (-1), .int 0, .int (-1), .int 0, .ref z568, .ref z569])), (z569, .inl (cI, 4160, .inl z570))] H := hP
  have hD : va_D A [(h0, .inr (12, [.int 0, .int 1, .int 1, .ref q562, .ref q571, .ref q574, .ref q577, .ref q580, .ref q583, .ref q586, .int 0, .int (-1), .int 0, .int 0, .long 0, .ref q599, .ref q600, .ref q601, .ref q602])), (q562, .inr (13, [.int 0, .ref z565, .int 1, .int 1, .ref z566, .int 0, .int 0, .int 0, .ref z567, .int 0, .int 0, .int (-1), .int (-1), .int 0, .int (-1), .int 0, .ref z568, .ref z569])), (z569, .inl (cI, 4160, .inl z570))] := hD
  refine W.widen (k := 0) (n := 0) (by omega) (by omega) ?_
  refine lv_iload_n hx hb d_Mod_kept_12 rfl (lv_at hl 3 rfl) ?_
  refine lv_iadd hx hb d_Mod_kept_13 ?_
  refine va_iald hx hb hC.1 hP 2 0 rfl rfl (by unfold vp_in; decide) d_Mod_kept_14 ?_
  refine W.widen (k := 0) (n := 0) (Nat.le_of_ble_eq_true rfl) (Nat.le_of_ble_eq_true rfl) ?_
  have hP9 := hP.sub (ws' := [(h0, .inr (12, [.int 0, .int 1, .int 1, .ref q562, .ref q571, .ref q574, .ref q577, .ref q580, .ref q583, .ref q586, .int 0, .int (-1), .int 0, .int 0, .long 0, .ref q599, .ref q600, .ref q601, .ref q602])), (q562, .inr (13, [.int 0, .ref z565, .int 1, .int 1, .ref z566, .int 0, .int 0, .int 0, .ref z567, .int 0, .int 0, .int (-1), .int (-1), .int 0, .int (-1), .int 0, .ref z568, .ref z569])), (z569, .inl (cI, 4160, .inl z570))]) [0, 1, 2] rfl
  have hD9 := hD.sub (ws' := [(h0, .inr (12, [.int 0, .int 1, .int 1, .ref q562, .ref q571, .ref q574, .ref q577, .ref q580, .ref q583, .ref q586, .int 0, .int (-1), .int 0, .int 0, .long 0, .ref q599, .ref q600, .ref q601, .ref q602])), (q562, .inr (13, [.int 0, .ref z565, .int 1, .int 1, .ref z566, .int 0, .int 0, .int 0, .ref z567, .int 0, .int 0, .int (-1), .int (-1), .int 0, .int (-1), .int 0, .ref z568, .ref z569])), (z569, .inl (cI, 4160, .inl z570))]) [0, 1, 2] (by decide) rfl
  exact W.iret (v := (z570 (((nI (160 * 8 + 0 * cnt 8)) + 0)).toNatClampNeg)) hx hb hr (fun t ht hW => ⟨⟨(z570 (((nI (160 * 8 + 0 * cnt 8)) + 0)).toNatClampNeg), (), rfl, rfl, by rw [ht]; exact hP9, va_K.moved hW.alike hC.1, hD9⟩, hS.F ht⟩) hS.2.2 d_Mod_kept_15

set_option maxHeartbeats 4000000 in
set_option maxRecDepth 100000 in
theorem c_Mkept_81 (l : Launch) (D : va_G) (cI cL : ClassId) (B sz : Nat) (h0 : Nat) (q562 : Nat) (z565 : Nat) (z566 : Nat) (z567 : Nat) (z568 : Nat) (z569 : Nat) (z570 : Nat → Int32) (q571 : Nat) (q574 : Nat) (q577 : Nat) (q580 : Nat) (q583 : Nat) (q586 : Nat) (q599 : Nat) (q600 : Nat) (q601 : Nat) (q602 : Nat) : Met l y_Mod_kept ((Cond.code y_Mod_kept prog_14_method_11_code 4 (some .int)) :: tw) ({ frames := 40, cells := 0, slots := 0, locals := 4000 }) (va_Pc [.ref h0, .int 8, .int 0, .int 1] (wP D cI cL B sz [(h0, .inr (12, [.int 0, .int 1, .int 1, .ref q562, .ref q571, .ref q574, .ref q577, .ref q580, .ref q583, .ref q586, .int 0, .int (-1), .int 0, .int 0, .long 0, .ref q599, .ref q600, .ref q601, .ref q602])), (q562, .inr (13, [.int 0, .ref z565, .int 1, .int 1, .ref z566, .int 0, .int 0, .int 0, .ref z567, .int 0, .int 0, .int (-1), .int (-1), .int 0, .int (-1), .int 0, .ref z568, .ref z569])), (z569, .inl (cI, 4160, .inl z570))])) (va_Qi (S := Unit) (fun r u => r = (z570 (((nI (160 * 8 + 0 * cnt 8)) + 1)).toNatClampNeg)) (fun u => wB D cI cL (va_A [(h0, .inr (12, [.int 0, .int 1, .int 1, .ref q562, .ref q571, .ref q574, .ref q577, .ref q580, .ref q583, .ref q586, .int 0, .int (-1), .int 0, .int 0, .long 0, .ref q599, .ref q600, .ref q601, .ref q602])), (q562, .inr (13, [.int 0, .ref z565, .int 1, .int 1, .ref z566, .int 0, .int 0, .int 0, .ref z567, .int 0, .int 0, .int (-1), .int (-1), .int 0, .int (-1), .int 0, .ref z568, .ref z569])), (z569, .inl (cI, 4160, .inl z570))] sz) ((fun _ : Unit => [(h0, .inr (12, [.int 0, .int 1, .int 1, .ref q562, .ref q571, .ref q574, .ref q577, .ref q580, .ref q583, .ref q586, .int 0, .int (-1), .int 0, .int 0, .long 0, .ref q599, .ref q600, .ref q601, .ref q602])), (q562, .inr (13, [.int 0, .ref z565, .int 1, .int 1, .ref z566, .int 0, .int 0, .int 0, .ref z567, .int 0, .int 0, .int (-1), .int (-1), .int 0, .int (-1), .int 0, .ref z568, .ref z569])), (z569, .inl (cI, 4160, .inl z570))]) u)) (va_A [(h0, .inr (12, [.int 0, .int 1, .int 1, .ref q562, .ref q571, .ref q574, .ref q577, .ref q580, .ref q583, .ref q586, .int 0, .int (-1), .int 0, .int 0, .long 0, .ref q599, .ref q600, .ref q601, .ref q602])), (q562, .inr (13, [.int 0, .ref z565, .int 1, .int 1, .ref z566, .int 0, .int 0, .int 0, .ref z567, .int 0, .int 0, .int (-1), .int (-1), .int 0, .int (-1), .int 0, .ref z568, .ref z569])), (z569, .inl (cI, 4160, .inl z570))] sz)) 0 0 (va_A [(h0, .inr (12, [.int 0, .int 1, .int 1, .ref q562, .ref q571, .ref q574, .ref q577, .ref q580, .ref q583, .ref q586, .int 0, .int (-1), .int 0, .int 0, .long 0, .ref q599, .ref q600, .ref q601, .ref q602])), (q562, .inr (13, [.int 0, .ref z565, .int 1, .int 1, .ref z566, .int 0, .int 0, .int 0, .ref z567, .int 0, .int 0, .int (-1), .int (-1), .int 0, .int (-1), .int 0, .ref z568, .ref z569])), (z569, .inl (cI, 4160, .inl z570))] sz) := by
  refine Met.ofW (cc := prog_14_method_11_code) (maxL := 4) (ret := (some .int)) (by decide) rfl ?_
  intro p e s m args below meth c s₁ B0 hml hv
  obtain ⟨rfl, hv⟩ := hv
  have hx := B0.exec
  have hb := B0.bytes
  have hr := B0.returns
  have hts := atoms_spec (ws := (Cond.code y_Mod_kept prog_14_method_11_code 4 (some .int)) :: tw) B0.pre
  have htw : ∀ w ∈ tw, w.before _ s = true := fun w hw => hts w (List.mem_cons_of_mem _ hw)
  have hown : s.vm.findClass "DrawingMachineModel" = some m.cls := findClass_of_methodNamed B0.named
  have hlocks := B0.notSynchronized
  obtain ⟨hC, hP, hD, hsz⟩ := wC_init hv
  subst hsz
  generalize hAe : va_A [(h0, .inr (12, [.int 0, .int 1, .int 1, .ref q562, .ref q571, .ref q574, .ref q577, .ref q580, .ref q583, .ref q586, .int 0, .int (-1), .int 0, .int 0, .long 0, .ref q599, .ref q600, .ref q601, .ref q602])), (q562, .inr (13, [.int 0, .ref z565, .int 1, .int 1, .ref z566, .int 0, .int 0, .int 0, .ref z567, .int 0, .int 0, .int (-1), .int (-1), .int 0, .int (-1), .int 0, .ref z568, .ref z569])), (z569, .inl (cI, 4160, .inl z570))] s.heap.size = A at hC hD ⊢
  have hS : va_S A s.heap s.heap [] := va_S.rf
  have hl := lv_entry ([.ref h0, .int 8, .int 0, .int 1]) (n := 4) (Nat.le_of_ble_eq_true rfl)
  rw [lg_entry_eq]
  generalize (lg_sl ([.ref h0, .int 8, .int 0, .int 1]) ++ List.replicate (4 - (lg_sl ([.ref h0, .int 8, .int 0, .int 1])).length) Slot.unset).toArray = ls at hl ⊢
  have hl : lv_has ls 4 [(0, .ref h0), (1, .int 8), (2, .int 0), (3, .int 1)] := hl
  refine lv_aload_n hx hb d_Mod_kept_0 rfl (lv_at hl 0 rfl) ?_
  refine va_get (D := D) (ci := 12) (v := .ref q562) (C := R_Mod) (T := F_Mod) (N := 19) hx hb htw i_Mod hown hC.1 hP 0 rfl rfl 3 (by decide) (htw _ k521) (fun _ h9 => h9) rfl d_Mod_kept_1 ?_
  refine va_getN (D := D) (ci := 13) (v := .ref z569) (C := R_Cmd) (T := F_Cmd) (N := 18) hx hb htw i_Cmd hown hC.1 hP 1 rfl rfl 17 (by decide) (va_Nw.use rfl (hC.2.1.1 _ kn9)) (fun _ h9 => h9) rfl d_Mod_kept_4 ?_
  refine lv_iload_n hx hb d_Mod_kept_7 rfl (lv_at hl 1 rfl) ?_
  refine lv_iload_n hx hb d_Mod_kept_8 rfl (lv_at hl 2 rfl) ?_
  refine wc_i (wr := [(h0, .inr (12, [.int 0, .int 1, .int 1, .ref q562, .ref q571, .ref q574, .ref q577, .ref q580, .ref q583, .ref q586, .int 0, .int (-1), .int 0, .int 0, .long 0, .ref q599, .ref q600, .ref q601, .ref q602])), (q562, .inr (13, [.int 0, .ref z565, .int 1, .int 1, .ref z566, .int 0, .int 0, .int 0, .ref z567, .int 0, .int 0, .int (-1), .int (-1), .int 0, .int (-1), .int 0, .ref z568, .ref z569])), (z569, .inl (cI, 4160, .inl z570))]) hC hP hD hS [] [0, 1, 2] rfl rfl (by decide) (by decide) (va_runSN (As := [.int 8, .int 0]) (rest := [.ref z569]) ⟨hx, hb, hml, hown, htw⟩ (c_rowOf l D cI cL B _ 8 0 (by decide)) ⟨va_cnB 2 htw (tw_good (fun _ h => h) k664) rfl rfl rfl (hC.2.1.1 _ kn10) (htw _ k137) (by decide +kernel) ⟨Nat.le_of_ble_eq_true rfl, Nat.le_of_ble_eq_true rfl⟩, htw _ k663, trivial⟩ (wC_pre hC hP hD hS [] (by decide) rfl) rfl rfl hl.1 rfl (lv_room (Nat.le_of_ble_eq_true rfl)) d_Mod_kept_9 ⟨Nat.le_of_ble_eq_true rfl, Nat.le_of_ble_eq_true rfl⟩) (fun r766 u764 H locs hw765 hP hD hS => ?_)
  obtain rfl : r766 = (nI (160 * 8 + 0 * cnt 8)) := hw765
  have hP : va_P D classes [(h0, .inr (12, [.int 0, .int 1, .int 1, .ref q562, .ref q571, .ref q574, .ref q577, .ref q580, .ref q583, .ref q586, .int 0, .int (-1), .int 0, .int 0, .long 0, .ref q599, .ref q600, .ref q601, .ref q602])), (q562, .inr (13, [.int 0, .ref z565, .int 1, .int 1, .ref z566, .int 0, .int 0, .int 0, .ref z567, .int 0, .int 0, .int (-1), .int (-1), .int 0, .int (-1), .int 0, .ref z568, .ref z569])), (z569, .inl (cI, 4160, .inl z570))] H := hP
  have hD : va_D A [(h0, .inr (12, [.int 0, .int 1, .int 1, .ref q562, .ref q571, .ref q574, .ref q577, .ref q580, .ref q583, .ref q586, .int 0, .int (-1), .int 0, .int 0, .long 0, .ref q599, .ref q600, .ref q601, .ref q602])), (q562, .inr (13, [.int 0, .ref z565, .int 1, .int 1, .ref z566, .int 0, .int 0, .int 0, .ref z567, .int 0, .int 0, .int (-1), .int (-1), .int 0, .int (-1), .int 0, .ref z568, .ref z569])), (z569, .inl (cI, 4160, .inl z570))] := hD
  refine W.widen (k := 0) (n := 0) (by omega) (by omega) ?_
  refine lv_iload_n hx hb d_Mod_kept_12 rfl (lv_at hl 3 rfl) ?_
  refine lv_iadd hx hb d_Mod_kept_13 ?_
  refine va_iald hx hb hC.1 hP 2 0 rfl rfl (by unfold vp_in; decide) d_Mod_kept_14 ?_
  refine W.widen (k := 0) (n := 0) (Nat.le_of_ble_eq_true rfl) (Nat.le_of_ble_eq_true rfl) ?_
  have hP9 := hP.sub (ws' := [(h0, .inr (12, [.int 0, .int 1, .int 1, .ref q562, .ref q571, .ref q574, .ref q577, .ref q580, .ref q583, .ref q586, .int 0, .int (-1), .int 0, .int 0, .long 0, .ref q599, .ref q600, .ref q601, .ref q602])), (q562, .inr (13, [.int 0, .ref z565, .int 1, .int 1, .ref z566, .int 0, .int 0, .int 0, .ref z567, .int 0, .int 0, .int (-1), .int (-1), .int 0, .int (-1), .int 0, .ref z568, .ref z569])), (z569, .inl (cI, 4160, .inl z570))]) [0, 1, 2] rfl
  have hD9 := hD.sub (ws' := [(h0, .inr (12, [.int 0, .int 1, .int 1, .ref q562, .ref q571, .ref q574, .ref q577, .ref q580, .ref q583, .ref q586, .int 0, .int (-1), .int 0, .int 0, .long 0, .ref q599, .ref q600, .ref q601, .ref q602])), (q562, .inr (13, [.int 0, .ref z565, .int 1, .int 1, .ref z566, .int 0, .int 0, .int 0, .ref z567, .int 0, .int 0, .int (-1), .int (-1), .int 0, .int (-1), .int 0, .ref z568, .ref z569])), (z569, .inl (cI, 4160, .inl z570))]) [0, 1, 2] (by decide) rfl
  exact W.iret (v := (z570 (((nI (160 * 8 + 0 * cnt 8)) + 1)).toNatClampNeg)) hx hb hr (fun t ht hW => ⟨⟨(z570 (((nI (160 * 8 + 0 * cnt 8)) + 1)).toNatClampNeg), (), rfl, rfl, by rw [ht]; exact hP9, va_K.moved hW.alike hC.1, hD9⟩, hS.F ht⟩) hS.2.2 d_Mod_kept_15

theorem d_Cmd_look_0 : decode prog_15_method_25_code 0 = .ok (.aload_n 0, 1) := by decide +kernel
theorem d_Cmd_look_1 : decode prog_15_method_25_code 1 = .ok (.getfield 130, 3) := by decide +kernel
theorem d_Cmd_look_4 : decode prog_15_method_25_code 4 = .ok (.ifCond .ne 18, 3) := by decide +kernel
theorem d_Cmd_look_7 : decode prog_15_method_25_code 7 = .ok (.aload_n 0, 1) := by decide +kernel
theorem d_Cmd_look_8 : decode prog_15_method_25_code 8 = .ok (.getfield 127, 3) := by decide +kernel
theorem d_Cmd_look_11 : decode prog_15_method_25_code 11 = .ok (.aload_n 0, 1) := by decide +kernel
theorem d_Cmd_look_12 : decode prog_15_method_25_code 12 = .ok (.getfield 124, 3) := by decide +kernel
theorem d_Cmd_look_15 : decode prog_15_method_25_code 15 = .ok (.if_icmp .ne 7, 3) := by decide +kernel
theorem d_Cmd_look_18 : decode prog_15_method_25_code 18 = .ok (.iconst 1, 1) := by decide +kernel
theorem d_Cmd_look_19 : decode prog_15_method_25_code 19 = .ok (.goto 4, 3) := by decide +kernel
theorem d_Cmd_look_23 : decode prog_15_method_25_code 23 = .ok (.istore_n 1, 1) := by decide +kernel
theorem d_Cmd_look_24 : decode prog_15_method_25_code 24 = .ok (.aload_n 0, 1) := by decide +kernel
theorem d_Cmd_look_25 : decode prog_15_method_25_code 25 = .ok (.getfield 140, 3) := by decide +kernel
theorem d_Cmd_look_28 : decode prog_15_method_25_code 28 = .ok (.sipush 2000, 3) := by decide +kernel
theorem d_Cmd_look_31 : decode prog_15_method_25_code 31 = .ok (.if_icmp .ne 6, 3) := by decide +kernel
theorem d_Cmd_look_37 : decode prog_15_method_25_code 37 = .ok (.iload_n 1, 1) := by decide +kernel
theorem d_Cmd_look_38 : decode prog_15_method_25_code 38 = .ok (.ifCond .eq 10, 3) := by decide +kernel
theorem d_Cmd_look_41 : decode prog_15_method_25_code 41 = .ok (.aload_n 0, 1) := by decide +kernel
theorem d_Cmd_look_42 : decode prog_15_method_25_code 42 = .ok (.iconst 0, 1) := by decide +kernel
theorem d_Cmd_look_43 : decode prog_15_method_25_code 43 = .ok (.putfield 143, 3) := by decide +kernel
theorem d_Cmd_look_46 : decode prog_15_method_25_code 46 = .ok (.iconst 0, 1) := by decide +kernel
theorem d_Cmd_look_47 : decode prog_15_method_25_code 47 = .ok (.ireturn, 1) := by decide +kernel
set_option maxHeartbeats 4000000 in
set_option maxRecDepth 100000 in
theorem c_Clook_0 (l : Launch) (D : va_G) (cI cL : ClassId) (B sz : Nat) (q562 : Nat) (z565 : Nat) (z566 : Nat) (z567 : Nat) (z568 : Nat) (z569 : Nat) : Met l y_Cmd_look ((Cond.code y_Cmd_look prog_15_method_25_code 6 (some .int)) :: tw) ({ frames := 30, cells := 0, slots := 0, locals := 3000 }) (va_Pc [.ref q562] (wP D cI cL B sz [(q562, .inr (13, [.int 0, .ref z565, .int 1, .int 1, .ref z566, .int 0, .int 0, .int 0, .ref z567, .int 0, .int 0, .int 0, .int 0, .int 0, .int (-1), .int 0, .ref z568, .ref z569]))])) (va_Qi (S := Unit) (fun r u => r = 0) (fun u => wB D cI cL (va_A [(q562, .inr (13, [.int 0, .ref z565, .int 1, .int 1, .ref z566, .int 0, .int 0, .int 0, .ref z567, .int 0, .int 0, .int 0, .int 0, .int 0, .int (-1), .int 0, .ref z568, .ref z569]))] sz) ((fun _ : Unit => [(q562, .inr (13, [.int 0, .ref z565, .int 1, .int 1, .ref z566, .int 0, .int 0, .int 0, .ref z567, .int 0, .int 0, .int 0, .int 0, .int 0, .int (-1), .int 0, .ref z568, .ref z569]))]) u)) (va_A [(q562, .inr (13, [.int 0, .ref z565, .int 1, .int 1, .ref z566, .int 0, .int 0, .int 0, .ref z567, .int 0, .int 0, .int 0, .int 0, .int 0, .int (-1), .int 0, .ref z568, .ref z569]))] sz)) 0 0 (va_A [(q562, .inr (13, [.int 0, .ref z565, .int 1, .int 1, .ref z566, .int 0, .int 0, .int 0, .ref z567, .int 0, .int 0, .int 0, .int 0, .int 0, .int (-1), .int 0, .ref z568, .ref z569]))] sz) := by
  refine Met.ofW (cc := prog_15_method_25_code) (maxL := 6) (ret := (some .int)) (by decide) rfl ?_
  intro p e s m args below meth c s₁ B0 hml hv
  obtain ⟨rfl, hv⟩ := hv
  have hx := B0.exec
  have hb := B0.bytes
  have hr := B0.returns
  have hts := atoms_spec (ws := (Cond.code y_Cmd_look prog_15_method_25_code 6 (some .int)) :: tw) B0.pre
  have htw : ∀ w ∈ tw, w.before _ s = true := fun w hw => hts w (List.mem_cons_of_mem _ hw)
  have hown : s.vm.findClass "DrawingMachineModel$DrawCommandsModel" = some m.cls := findClass_of_methodNamed B0.named
  have hlocks := B0.notSynchronized
  obtain ⟨hC, hP, hD, hsz⟩ := wC_init hv
  subst hsz
  generalize hAe : va_A [(q562, .inr (13, [.int 0, .ref z565, .int 1, .int 1, .ref z566, .int 0, .int 0, .int 0, .ref z567, .int 0, .int 0, .int 0, .int 0, .int 0, .int (-1), .int 0, .ref z568, .ref z569]))] s.heap.size = A at hC hD ⊢
  have hS : va_S A s.heap s.heap [] := va_S.rf
  have hl := lv_entry ([.ref q562]) (n := 6) (Nat.le_of_ble_eq_true rfl)
  rw [lg_entry_eq]
  generalize (lg_sl ([.ref q562]) ++ List.replicate (6 - (lg_sl ([.ref q562])).length) Slot.unset).toArray = ls at hl ⊢
  have hl : lv_has ls 6 [(0, .ref q562)] := hl
  refine lv_aload_n hx hb d_Cmd_look_0 rfl (lv_at hl 0 rfl) ?_
  refine va_get (D := D) (ci := 13) (v := .int 0) (C := R_Cmd) (T := F_Cmd) (N := 18) hx hb htw i_Cmd hown hC.1 hP 0 rfl rfl 7 (by decide) (htw _ k721) (fun _ h9 => h9) rfl d_Cmd_look_1 ?_
  refine lv_if_ne (tgt := 22) hx hb d_Cmd_look_4 (by decide) (fun c_767 => absurd c_767 (by decide)) (fun c_767 => ?_)
  refine lv_aload_n hx hb d_Cmd_look_7 rfl (lv_at hl 0 rfl) ?_
  refine va_get (D := D) (ci := 13) (v := .int 0) (C := R_Cmd) (T := F_Cmd) (N := 18) hx hb htw i_Cmd hown hC.1 hP 0 rfl rfl 6 (by decide) (htw _ k720) (fun _ h9 => h9) rfl d_Cmd_look_8 ?_
  refine lv_aload_n hx hb d_Cmd_look_11 rfl (lv_at hl 0 rfl) ?_
  refine va_get (D := D) (ci := 13) (v := .int 0) (C := R_Cmd) (T := F_Cmd) (N := 18) hx hb htw i_Cmd hown hC.1 hP 0 rfl rfl 5 (by decide) (htw _ k718) (fun _ h9 => h9) rfl d_Cmd_look_12 ?_
  refine lv_icmp_ne (tgt := 22) hx hb d_Cmd_look_15 (by decide) (fun c_768 => absurd c_768 (by decide)) (fun c_768 => ?_)
  refine lv_iconst (v := 1) hx hb d_Cmd_look_18 (by decide) ?_
  refine lv_goto (tgt := 23) hx hb d_Cmd_look_19 (by decide) ?_
  refine lv_istore_n (lv' := [(1, .int 1), (0, .ref q562)]) hx hb d_Cmd_look_23 rfl hl (by decide) rfl (fun ls hl => ?_)
  refine lv_aload_n hx hb d_Cmd_look_24 rfl (lv_at hl 1 rfl) ?_
  refine va_get (D := D) (ci := 13) (v := .int 0) (C := R_Cmd) (T := F_Cmd) (N := 18) hx hb htw i_Cmd hown hC.1 hP 0 rfl rfl 13 (by decide) (htw _ k724) (fun _ h9 => h9) rfl d_Cmd_look_25 ?_
  refine lv_sipush (v := 2000) hx hb d_Cmd_look_28 (by decide) ?_
  refine lv_icmp_ne (tgt := 37) hx hb d_Cmd_look_31 (by decide) (fun c_769 => ?_) (fun c_769 => absurd c_769 (by decide))
  refine lv_iload_n hx hb d_Cmd_look_37 rfl (lv_at hl 0 rfl) ?_
  refine lv_if_eq (tgt := 48) hx hb d_Cmd_look_38 (by decide) (fun c_770 => absurd c_770 (by decide)) (fun c_770 => ?_)
  refine lv_aload_n hx hb d_Cmd_look_41 rfl (lv_at hl 1 rfl) ?_
  refine lv_iconst (v := 0) hx hb d_Cmd_look_42 (by decide) ?_
  refine va_put (D := D) (ci := 13) (v := .int 0) (ty := .int) (C := R_Cmd) (T := F_Cmd) (N := 18) hx hb htw i_Cmd t_Cmd t_Cmd_ok n_Cmd hown hC.1 hP hD hS 0 rfl rfl 15 (by decide) (htw _ k725) (fun _ h9 => h9) rfl (by decide +kernel) rfl rfl (Nat.le_of_ble_eq_true rfl) d_Cmd_look_43 (fun H locs hP hD hS => ?_)
  have hP : va_P D classes [(q562, .inr (13, [.int 0, .ref z565, .int 1, .int 1, .ref z566, .int 0, .int 0, .int 0, .ref z567, .int 0, .int 0, .int 0, .int 0, .int 0, .int (-1), .int 0, .ref z568, .ref z569]))] H := hP
  have hD : va_D A [(q562, .inr (13, [.int 0, .ref z565, .int 1, .int 1, .ref z566, .int 0, .int 0, .int 0, .ref z567, .int 0, .int 0, .int 0, .int 0, .int 0, .int (-1), .int 0, .ref z568, .ref z569]))] := hD
  refine lv_iconst (v := 0) hx hb d_Cmd_look_46 (by decide) ?_
  refine W.widen (k := 0) (n := 0) (Nat.le_of_ble_eq_true rfl) (Nat.le_of_ble_eq_true rfl) ?_
  have hP9 := hP.sub (ws' := [(q562, .inr (13, [.int 0, .ref z565, .int 1, .int 1, .ref z566, .int 0, .int 0, .int 0, .ref z567, .int 0, .int 0, .int 0, .int 0, .int 0, .int (-1), .int 0, .ref z568, .ref z569]))]) [0] rfl
  have hD9 := hD.sub (ws' := [(q562, .inr (13, [.int 0, .ref z565, .int 1, .int 1, .ref z566, .int 0, .int 0, .int 0, .ref z567, .int 0, .int 0, .int 0, .int 0, .int 0, .int (-1), .int 0, .ref z568, .ref z569]))]) [0] (by decide) rfl
  exact W.iret (v := 0) hx hb hr (fun t ht hW => ⟨⟨0, (), rfl, rfl, by rw [ht]; exact hP9, va_K.moved hW.alike hC.1, hD9⟩, hS.F ht⟩) hS.2.2 d_Cmd_look_47

theorem d_Cmd_perform_0 : decode prog_15_method_27_code 0 = .ok (.iload_n 1, 1) := by decide +kernel
theorem d_Cmd_perform_1 : decode prog_15_method_27_code 1 = .ok (.lookupswitch 266 #[(0, 51), (6, 205), (19, 136), (21, 163), (23, 100)], 51) := by decide +kernel
theorem d_Cmd_perform_52 : decode prog_15_method_27_code 52 = .ok (.aload_n 0, 1) := by decide +kernel
theorem d_Cmd_perform_53 : decode prog_15_method_27_code 53 = .ok (.aload_n 0, 1) := by decide +kernel
theorem d_Cmd_perform_54 : decode prog_15_method_27_code 54 = .ok (.getfield 130, 3) := by decide +kernel
theorem d_Cmd_perform_57 : decode prog_15_method_27_code 57 = .ok (.ifCond .ne 7, 3) := by decide +kernel
theorem d_Cmd_perform_60 : decode prog_15_method_27_code 60 = .ok (.iconst 1, 1) := by decide +kernel
theorem d_Cmd_perform_61 : decode prog_15_method_27_code 61 = .ok (.goto 4, 3) := by decide +kernel
theorem d_Cmd_perform_65 : decode prog_15_method_27_code 65 = .ok (.putfield 133, 3) := by decide +kernel
theorem d_Cmd_perform_68 : decode prog_15_method_27_code 68 = .ok (.aload_n 0, 1) := by decide +kernel
theorem d_Cmd_perform_69 : decode prog_15_method_27_code 69 = .ok (.getfield 130, 3) := by decide +kernel
theorem d_Cmd_perform_72 : decode prog_15_method_27_code 72 = .ok (.ifCond .le 200, 3) := by decide +kernel
theorem d_Cmd_perform_272 : decode prog_15_method_27_code 272 = .ok (.return_, 1) := by decide +kernel
set_option maxHeartbeats 4000000 in
set_option maxRecDepth 100000 in
theorem c_Cperf_0 (l : Launch) (D : va_G) (cI cL : ClassId) (B sz : Nat) (q562 : Nat) (z565 : Nat) (z566 : Nat) (z567 : Nat) (z568 : Nat) (z569 : Nat) : Met l y_Cmd_perform ((Cond.code y_Cmd_perform prog_15_method_27_code 3 none) :: tw) ({ frames := 30, cells := 0, slots := 0, locals := 3000 }) (va_Pc [.ref q562, .int 0] (wP D cI cL B sz [(q562, .inr (13, [.int 0, .ref z565, .int 1, .int 1, .ref z566, .int 0, .int 0, .int 0, .ref z567, .int 0, .int 0, .int 0, .int 0, .int 1, .int (-1), .int 0, .ref z568, .ref z569]))])) (va_Qv (S := Unit) (fun _ => True) (fun u => wB D cI cL (va_A [(q562, .inr (13, [.int 0, .ref z565, .int 1, .int 1, .ref z566, .int 0, .int 0, .int 0, .ref z567, .int 0, .int 0, .int 0, .int 0, .int 1, .int (-1), .int 0, .ref z568, .ref z569]))] sz) ((fun _ : Unit => [(q562, .inr (13, [.int 0, .ref z565, .int 1, .int 1, .ref z566, .int 0, .int 0, .int 0, .ref z567, .int 1, .int 0, .int 0, .int 0, .int 1, .int (-1), .int 0, .ref z568, .ref z569]))]) u)) (va_A [(q562, .inr (13, [.int 0, .ref z565, .int 1, .int 1, .ref z566, .int 0, .int 0, .int 0, .ref z567, .int 0, .int 0, .int 0, .int 0, .int 1, .int (-1), .int 0, .ref z568, .ref z569]))] sz)) 0 0 (va_A [(q562, .inr (13, [.int 0, .ref z565, .int 1, .int 1, .ref z566, .int 0, .int 0, .int 0, .ref z567, .int 0, .int 0, .int 0, .int 0, .int 1, .int (-1), .int 0, .ref z568, .ref z569]))] sz) := by
  refine Met.ofW (cc := prog_15_method_27_code) (maxL := 3) (ret := none) (by decide) rfl ?_
  intro p e s m args below meth c s₁ B0 hml hv
  obtain ⟨rfl, hv⟩ := hv
  have hx := B0.exec
  have hb := B0.bytes
  have hr := B0.returns
  have hts := atoms_spec (ws := (Cond.code y_Cmd_perform prog_15_method_27_code 3 none) :: tw) B0.pre
  have htw : ∀ w ∈ tw, w.before _ s = true := fun w hw => hts w (List.mem_cons_of_mem _ hw)
  have hown : s.vm.findClass "DrawingMachineModel$DrawCommandsModel" = some m.cls := findClass_of_methodNamed B0.named
  have hlocks := B0.notSynchronized
  obtain ⟨hC, hP, hD, hsz⟩ := wC_init hv
  subst hsz
  generalize hAe : va_A [(q562, .inr (13, [.int 0, .ref z565, .int 1, .int 1, .ref z566, .int 0, .int 0, .int 0, .ref z567, .int 0, .int 0, .int 0, .int 0, .int 1, .int (-1), .int 0, .ref z568, .ref z569]))] s.heap.size = A at hC hD ⊢
  have hS : va_S A s.heap s.heap [] := va_S.rf
  have hl := lv_entry ([.ref q562, .int 0]) (n := 3) (Nat.le_of_ble_eq_true rfl)
  rw [lg_entry_eq]
  generalize (lg_sl ([.ref q562, .int 0]) ++ List.replicate (3 - (lg_sl ([.ref q562, .int 0])).length) Slot.unset).toArray = ls at hl ⊢
  have hl : lv_has ls 3 [(0, .ref q562), (1, .int 0)] := hl
  refine lv_iload_n hx hb d_Cmd_perform_0 rfl (lv_at hl 1 rfl) ?_
  refine lv_lookup (off := 51) (tgt := 52) hx hb d_Cmd_perform_1 (by decide) (by decide) (by decide) ?_
  refine lv_aload_n hx hb d_Cmd_perform_52 rfl (lv_at hl 0 rfl) ?_
  refine lv_aload_n hx hb d_Cmd_perform_53 rfl (lv_at hl 0 rfl) ?_
  refine va_get (D := D) (ci := 13) (v := .int 0) (C := R_Cmd) (T := F_Cmd) (N := 18) hx hb htw i_Cmd hown hC.1 hP 0 rfl rfl 7 (by decide) (htw _ k721) (fun _ h9 => h9) rfl d_Cmd_perform_54 ?_
  refine lv_if_ne (tgt := 64) hx hb d_Cmd_perform_57 (by decide) (fun c_771 => absurd c_771 (by decide)) (fun c_771 => ?_)
  refine lv_iconst (v := 1) hx hb d_Cmd_perform_60 (by decide) ?_
  refine lv_goto (tgt := 65) hx hb d_Cmd_perform_61 (by decide) ?_
  refine va_put (D := D) (ci := 13) (v := .int 1) (ty := .boolean) (C := R_Cmd) (T := F_Cmd) (N := 18) hx hb htw i_Cmd t_Cmd t_Cmd_ok n_Cmd hown hC.1 hP hD hS 0 rfl rfl 9 (by decide) (htw _ k722) (fun _ h9 => h9) rfl (by decide +kernel) (by decide) rfl (Nat.le_of_ble_eq_true rfl) d_Cmd_perform_65 (fun H locs hP hD hS => ?_)
  have hP : va_P D classes [(q562, .inr (13, [.int 0, .ref z565, .int 1, .int 1, .ref z566, .int 0, .int 0, .int 0, .ref z567, .int 1, .int 0, .int 0, .int 0, .int 1, .int (-1), .int 0, .ref z568, .ref z569]))] H := hP
  have hD : va_D A [(q562, .inr (13, [.int 0, .ref z565, .int 1, .int 1, .ref z566, .int 0, .int 0, .int 0, .ref z567, .int 1, .int 0, .int 0, .int 0, .int 1, .int (-1), .int 0, .ref z568, .ref z569]))] := hD
  refine lv_aload_n hx hb d_Cmd_perform_68 rfl (lv_at hl 0 rfl) ?_
  refine va_get (D := D) (ci := 13) (v := .int 0) (C := R_Cmd) (T := F_Cmd) (N := 18) hx hb htw i_Cmd hown hC.1 hP 0 rfl rfl 7 (by decide) (htw _ k721) (fun _ h9 => h9) rfl d_Cmd_perform_69 ?_
  refine lv_if_le (tgt := 272) hx hb d_Cmd_perform_72 (by decide) (fun c_772 => ?_) (fun c_772 => absurd c_772 (by decide))
  refine W.widen (k := 0) (n := 0) (Nat.le_of_ble_eq_true rfl) (Nat.le_of_ble_eq_true rfl) ?_
  have hP9 := hP.sub (ws' := [(q562, .inr (13, [.int 0, .ref z565, .int 1, .int 1, .ref z566, .int 0, .int 0, .int 0, .ref z567, .int 1, .int 0, .int 0, .int 0, .int 1, .int (-1), .int 0, .ref z568, .ref z569]))]) [0] rfl
  have hD9 := hD.sub (ws' := [(q562, .inr (13, [.int 0, .ref z565, .int 1, .int 1, .ref z566, .int 0, .int 0, .int 0, .ref z567, .int 1, .int 0, .int 0, .int 0, .int 1, .int (-1), .int 0, .ref z568, .ref z569]))]) [0] (by decide) rfl
  exact W.vret hx hb hr (fun t ht hW => ⟨⟨(), rfl, trivial, by rw [ht]; exact hP9, va_K.moved hW.alike hC.1, hD9⟩, hS.F ht⟩) hS.2.2 d_Cmd_perform_272

theorem d_Cmd_next_0 : decode prog_15_method_26_code 0 = .ok (.aload_n 0, 1) := by decide +kernel
theorem d_Cmd_next_1 : decode prog_15_method_26_code 1 = .ok (.aload_n 0, 1) := by decide +kernel
theorem d_Cmd_next_2 : decode prog_15_method_26_code 2 = .ok (.getfield 133, 3) := by decide +kernel
theorem d_Cmd_next_5 : decode prog_15_method_26_code 5 = .ok (.invokevirtual 120, 3) := by decide +kernel
theorem d_Cmd_next_8 : decode prog_15_method_26_code 8 = .ok (.ifCond .eq 5, 3) := by decide +kernel
theorem d_Cmd_next_13 : decode prog_15_method_26_code 13 = .ok (.aload_n 0, 1) := by decide +kernel
theorem d_Cmd_next_14 : decode prog_15_method_26_code 14 = .ok (.aload_n 0, 1) := by decide +kernel
theorem d_Cmd_next_15 : decode prog_15_method_26_code 15 = .ok (.getfield 127, 3) := by decide +kernel
theorem d_Cmd_next_18 : decode prog_15_method_26_code 18 = .ok (.putfield 26, 3) := by decide +kernel
theorem d_Cmd_next_21 : decode prog_15_method_26_code 21 = .ok (.aload_n 0, 1) := by decide +kernel
theorem d_Cmd_next_22 : decode prog_15_method_26_code 22 = .ok (.aload_n 0, 1) := by decide +kernel
theorem d_Cmd_next_23 : decode prog_15_method_26_code 23 = .ok (.getfield 130, 3) := by decide +kernel
theorem d_Cmd_next_26 : decode prog_15_method_26_code 26 = .ok (.putfield 29, 3) := by decide +kernel
theorem d_Cmd_next_29 : decode prog_15_method_26_code 29 = .ok (.aload_n 0, 1) := by decide +kernel
theorem d_Cmd_next_30 : decode prog_15_method_26_code 30 = .ok (.invokevirtual 175, 3) := by decide +kernel
theorem d_Cmd_next_33 : decode prog_15_method_26_code 33 = .ok (.istore_n 1, 1) := by decide +kernel
theorem d_Cmd_next_34 : decode prog_15_method_26_code 34 = .ok (.iload_n 1, 1) := by decide +kernel
theorem d_Cmd_next_35 : decode prog_15_method_26_code 35 = .ok (.ifCond .le 20, 3) := by decide +kernel
theorem d_Cmd_next_55 : decode prog_15_method_26_code 55 = .ok (.aload_n 0, 1) := by decide +kernel
theorem d_Cmd_next_56 : decode prog_15_method_26_code 56 = .ok (.dup, 1) := by decide +kernel
theorem d_Cmd_next_57 : decode prog_15_method_26_code 57 = .ok (.getfield 140, 3) := by decide +kernel
theorem d_Cmd_next_60 : decode prog_15_method_26_code 60 = .ok (.iconst 1, 1) := by decide +kernel
theorem d_Cmd_next_61 : decode prog_15_method_26_code 61 = .ok (.iadd, 1) := by decide +kernel
theorem d_Cmd_next_62 : decode prog_15_method_26_code 62 = .ok (.putfield 140, 3) := by decide +kernel
theorem d_Cmd_next_65 : decode prog_15_method_26_code 65 = .ok (.aload_n 0, 1) := by decide +kernel
theorem d_Cmd_next_66 : decode prog_15_method_26_code 66 = .ok (.getfield 130, 3) := by decide +kernel
theorem d_Cmd_next_69 : decode prog_15_method_26_code 69 = .ok (.ifCond .ne 18, 3) := by decide +kernel
theorem d_Cmd_next_72 : decode prog_15_method_26_code 72 = .ok (.aload_n 0, 1) := by decide +kernel
theorem d_Cmd_next_73 : decode prog_15_method_26_code 73 = .ok (.getfield 127, 3) := by decide +kernel
theorem d_Cmd_next_76 : decode prog_15_method_26_code 76 = .ok (.aload_n 0, 1) := by decide +kernel
theorem d_Cmd_next_77 : decode prog_15_method_26_code 77 = .ok (.getfield 124, 3) := by decide +kernel
theorem d_Cmd_next_80 : decode prog_15_method_26_code 80 = .ok (.if_icmp .ne 7, 3) := by decide +kernel
theorem d_Cmd_next_83 : decode prog_15_method_26_code 83 = .ok (.iconst 1, 1) := by decide +kernel
theorem d_Cmd_next_84 : decode prog_15_method_26_code 84 = .ok (.goto 4, 3) := by decide +kernel
theorem d_Cmd_next_88 : decode prog_15_method_26_code 88 = .ok (.istore_n 2, 1) := by decide +kernel
theorem d_Cmd_next_89 : decode prog_15_method_26_code 89 = .ok (.iload_n 2, 1) := by decide +kernel
theorem d_Cmd_next_90 : decode prog_15_method_26_code 90 = .ok (.ifCond .eq 7, 3) := by decide +kernel
theorem d_Cmd_next_93 : decode prog_15_method_26_code 93 = .ok (.iconst 0, 1) := by decide +kernel
theorem d_Cmd_next_94 : decode prog_15_method_26_code 94 = .ok (.goto 11, 3) := by decide +kernel
theorem d_Cmd_next_105 : decode prog_15_method_26_code 105 = .ok (.istore_n 3, 1) := by decide +kernel
theorem d_Cmd_next_106 : decode prog_15_method_26_code 106 = .ok (.aload_n 0, 1) := by decide +kernel
theorem d_Cmd_next_107 : decode prog_15_method_26_code 107 = .ok (.iload_n 2, 1) := by decide +kernel
theorem d_Cmd_next_108 : decode prog_15_method_26_code 108 = .ok (.ifCond .eq 10, 3) := by decide +kernel
theorem d_Cmd_next_111 : decode prog_15_method_26_code 111 = .ok (.aload_n 0, 1) := by decide +kernel
theorem d_Cmd_next_112 : decode prog_15_method_26_code 112 = .ok (.getfield 127, 3) := by decide +kernel
theorem d_Cmd_next_115 : decode prog_15_method_26_code 115 = .ok (.goto 14, 3) := by decide +kernel
theorem d_Cmd_next_129 : decode prog_15_method_26_code 129 = .ok (.putfield 127, 3) := by decide +kernel
theorem d_Cmd_next_132 : decode prog_15_method_26_code 132 = .ok (.aload_n 0, 1) := by decide +kernel
theorem d_Cmd_next_133 : decode prog_15_method_26_code 133 = .ok (.iload_n 3, 1) := by decide +kernel
theorem d_Cmd_next_134 : decode prog_15_method_26_code 134 = .ok (.invokevirtual 179, 3) := by decide +kernel
theorem d_Cmd_next_137 : decode prog_15_method_26_code 137 = .ok (.iload_n 3, 1) := by decide +kernel
theorem d_Cmd_next_138 : decode prog_15_method_26_code 138 = .ok (.ireturn, 1) := by decide +kernel
theorem gV_Cmd_175 : GoodIn tw (wsV "DrawingMachineModel$DrawCommandsModel" 175 "DrawingMachineModel$DrawCommandsModel" y_Cmd_look ((Cond.code y_Cmd_look prog_15_method_25_code 6 (some .int)) :: tw)) := tw_pre (fun _ h => h) (tw_good (fun _ h => h) k730) (List.forall_mem_cons.mpr ⟨k728, List.forall_mem_cons.mpr ⟨k729, List.forall_mem_cons.mpr ⟨k1015, List.forall_mem_cons.mpr ⟨k137, fun _ h => absurd h List.not_mem_nil⟩⟩⟩⟩)
theorem gV_Cmd_179 : GoodIn tw (wsV "DrawingMachineModel$DrawCommandsModel" 179 "DrawingMachineModel$DrawCommandsModel" y_Cmd_perform ((Cond.code y_Cmd_perform prog_15_method_27_code 3 none) :: tw)) := tw_pre (fun _ h => h) (tw_good (fun _ h => h) k734) (List.forall_mem_cons.mpr ⟨k732, List.forall_mem_cons.mpr ⟨k733, List.forall_mem_cons.mpr ⟨k1016, List.forall_mem_cons.mpr ⟨k137, fun _ h => absurd h List.not_mem_nil⟩⟩⟩⟩)
set_option maxHeartbeats 4000000 in
set_option maxRecDepth 100000 in
theorem c_Cnext_0 (l : Launch) (D : va_G) (cI cL : ClassId) (B sz : Nat) (q562 : Nat) (z565 : Nat) (z566 : Nat) (z567 : Nat) (z568 : Nat) (z569 : Nat) : Met l y_Cmd_next ((Cond.code y_Cmd_next prog_15_method_26_code 4 (some .int)) :: tw) ({ frames := 40, cells := 0, slots := 0, locals := 4000 }) (va_Pc [.ref q562] (wP D cI cL B sz [(q562, .inr (13, [.int 0, .ref z565, .int 1, .int 1, .ref z566, .int 0, .int 0, .int 0, .ref z567, .int 0, .int 0, .int (-1), .int (-1), .int 0, .int (-1), .int 0, .ref z568, .ref z569]))])) (va_Qi (S := Unit) (fun r u => r = 0) (fun u => wB D cI cL (va_A [(q562, .inr (13, [.int 0, .ref z565, .int 1, .int 1, .ref z566, .int 0, .int 0, .int 0, .ref z567, .int 0, .int 0, .int (-1), .int (-1), .int 0, .int (-1), .int 0, .ref z568, .ref z569]))] sz) ((fun _ : Unit => [(q562, .inr (13, [.int 0, .ref z565, .int 1, .int 1, .ref z566, .int 0, .int 0, .int 0, .ref z567, .int 1, .int 0, .int 0, .int 0, .int 1, .int (-1), .int 0, .ref z568, .ref z569]))]) u)) (va_A [(q562, .inr (13, [.int 0, .ref z565, .int 1, .int 1, .ref z566, .int 0, .int 0, .int 0, .ref z567, .int 0, .int 0, .int (-1), .int (-1), .int 0, .int (-1), .int 0, .ref z568, .ref z569]))] sz)) 0 0 (va_A [(q562, .inr (13, [.int 0, .ref z565, .int 1, .int 1, .ref z566, .int 0, .int 0, .int 0, .ref z567, .int 0, .int 0, .int (-1), .int (-1), .int 0, .int (-1), .int 0, .ref z568, .ref z569]))] sz) := by
  refine Met.ofW (cc := prog_15_method_26_code) (maxL := 4) (ret := (some .int)) (by decide) rfl ?_
  intro p e s m args below meth c s₁ B0 hml hv
  obtain ⟨rfl, hv⟩ := hv
  have hx := B0.exec
  have hb := B0.bytes
  have hr := B0.returns
  have hts := atoms_spec (ws := (Cond.code y_Cmd_next prog_15_method_26_code 4 (some .int)) :: tw) B0.pre
  have htw : ∀ w ∈ tw, w.before _ s = true := fun w hw => hts w (List.mem_cons_of_mem _ hw)
  have hown : s.vm.findClass "DrawingMachineModel$DrawCommandsModel" = some m.cls := findClass_of_methodNamed B0.named
  have hlocks := B0.notSynchronized
  obtain ⟨hC, hP, hD, hsz⟩ := wC_init hv
  subst hsz
  generalize hAe : va_A [(q562, .inr (13, [.int 0, .ref z565, .int 1, .int 1, .ref z566, .int 0, .int 0, .int 0, .ref z567, .int 0, .int 0, .int (-1), .int (-1), .int 0, .int (-1), .int 0, .ref z568, .ref z569]))] s.heap.size = A at hC hD ⊢
  have hS : va_S A s.heap s.heap [] := va_S.rf
  have hl := lv_entry ([.ref q562]) (n := 4) (Nat.le_of_ble_eq_true rfl)
  rw [lg_entry_eq]
  generalize (lg_sl ([.ref q562]) ++ List.replicate (4 - (lg_sl ([.ref q562])).length) Slot.unset).toArray = ls at hl ⊢
  have hl : lv_has ls 4 [(0, .ref q562)] := hl
  refine lv_aload_n hx hb d_Cmd_next_0 rfl (lv_at hl 0 rfl) ?_
  refine lv_aload_n hx hb d_Cmd_next_1 rfl (lv_at hl 0 rfl) ?_
  refine va_get (D := D) (ci := 13) (v := .int 0) (C := R_Cmd) (T := F_Cmd) (N := 18) hx hb htw i_Cmd hown hC.1 hP 0 rfl rfl 9 (by decide) (htw _ k722) (fun _ h9 => h9) rfl d_Cmd_next_2 ?_
  refine wc_i (wr := []) hC hP hD hS [0] [] rfl rfl (by decide) (by decide) (va_runV (As := [.int 0]) (rest := []) ⟨hx, hb, hml, hown, htw⟩ (c_Cref_0 l D cI cL B _ q562 z565 z566 z567 z568 z569 0) (cwV 1 htw gV_Cmd_120 rfl rfl rfl (by decide +kernel) ⟨Nat.le_of_ble_eq_true rfl, Nat.le_of_ble_eq_true rfl⟩) (wC_preV (As := [.int 0]) hC hP hD hS [0] (by decide) rfl (q0 := 0) rfl rfl) rfl rfl hl.1 rfl (lv_room (Nat.le_of_ble_eq_true rfl)) d_Cmd_next_5 ⟨Nat.le_of_ble_eq_true rfl, Nat.le_of_ble_eq_true rfl⟩) (fun r775 u773 H locs hw774 hP hD hS => ?_)
  obtain rfl : r775 = 0 := hw774
  have hP : va_P D classes [(q562, .inr (13, [.int 0, .ref z565, .int 1, .int 1, .ref z566, .int 0, .int 0, .int 0, .ref z567, .int 0, .int 0, .int (-1), .int (-1), .int 0, .int (-1), .int 0, .ref z568, .ref z569]))] H := hP
  have hD : va_D A [(q562, .inr (13, [.int 0, .ref z565, .int 1, .int 1, .ref z566, .int 0, .int 0, .int 0, .ref z567, .int 0, .int 0, .int (-1), .int (-1), .int 0, .int (-1), .int 0, .ref z568, .ref z569]))] := hD
  refine W.widen (k := 0) (n := 0) (by omega) (by omega) ?_
  refine lv_if_eq (tgt := 13) hx hb d_Cmd_next_8 (by decide) (fun c_776 => ?_) (fun c_776 => absurd c_776 (by decide))
  refine lv_aload_n hx hb d_Cmd_next_13 rfl (lv_at hl 0 rfl) ?_
  refine lv_aload_n hx hb d_Cmd_next_14 rfl (lv_at hl 0 rfl) ?_
  refine va_get (D := D) (ci := 13) (v := .int 0) (C := R_Cmd) (T := F_Cmd) (N := 18) hx hb htw i_Cmd hown hC.1 hP 0 rfl rfl 6 (by decide) (htw _ k720) (fun _ h9 => h9) rfl d_Cmd_next_15 ?_
  refine va_put (D := D) (ci := 13) (v := .int 0) (ty := .int) (C := R_Cmd) (T := F_Cmd) (N := 18) hx hb htw i_Cmd t_Cmd t_Cmd_ok n_Cmd hown hC.1 hP hD hS 0 rfl rfl 11 (by decide) (htw _ k559) (fun _ h9 => h9) rfl (by decide +kernel) rfl rfl (Nat.le_of_ble_eq_true rfl) d_Cmd_next_18 (fun H locs hP hD hS => ?_)
  have hP : va_P D classes [(q562, .inr (13, [.int 0, .ref z565, .int 1, .int 1, .ref z566, .int 0, .int 0, .int 0, .ref z567, .int 0, .int 0, .int 0, .int (-1), .int 0, .int (-1), .int 0, .ref z568, .ref z569]))] H := hP
  have hD : va_D A [(q562, .inr (13, [.int 0, .ref z565, .int 1, .int 1, .ref z566, .int 0, .int 0, .int 0, .ref z567, .int 0, .int 0, .int 0, .int (-1), .int 0, .int (-1), .int 0, .ref z568, .ref z569]))] := hD
  refine lv_aload_n hx hb d_Cmd_next_21 rfl (lv_at hl 0 rfl) ?_
  refine lv_aload_n hx hb d_Cmd_next_22 rfl (lv_at hl 0 rfl) ?_
  refine va_get (D := D) (ci := 13) (v := .int 0) (C := R_Cmd) (T := F_Cmd) (N := 18) hx hb htw i_Cmd hown hC.1 hP 0 rfl rfl 7 (by decide) (htw _ k721) (fun _ h9 => h9) rfl d_Cmd_next_23 ?_
  refine va_put (D := D) (ci := 13) (v := .int 0) (ty := .int) (C := R_Cmd) (T := F_Cmd) (N := 18) hx hb htw i_Cmd t_Cmd t_Cmd_ok n_Cmd hown hC.1 hP hD hS 0 rfl rfl 12 (by decide) (htw _ k560) (fun _ h9 => h9) rfl (by decide +kernel) rfl rfl (Nat.le_of_ble_eq_true rfl) d_Cmd_next_26 (fun H locs hP hD hS => ?_)
  have hP : va_P D classes [(q562, .inr (13, [.int 0, .ref z565, .int 1, .int 1, .ref z566, .int 0, .int 0, .int 0, .ref z567, .int 0, .int 0, .int 0, .int 0, .int 0, .int (-1), .int 0, .ref z568, .ref z569]))] H := hP
  have hD : va_D A [(q562, .inr (13, [.int 0, .ref z565, .int 1, .int 1, .ref z566, .int 0, .int 0, .int 0, .ref z567, .int 0, .int 0, .int 0, .int 0, .int 0, .int (-1), .int 0, .ref z568, .ref z569]))] := hD
  refine lv_aload_n hx hb d_Cmd_next_29 rfl (lv_at hl 0 rfl) ?_
  refine wc_i (wr := []) hC hP hD hS [0] [] rfl rfl (by decide) (by decide) (va_runV (As := []) (rest := []) ⟨hx, hb, hml, hown, htw⟩ (c_Clook_0 l D cI cL B _ q562 z565 z566 z567 z568 z569) (cwV 0 htw gV_Cmd_175 rfl rfl rfl (by decide +kernel) ⟨Nat.le_of_ble_eq_true rfl, Nat.le_of_ble_eq_true rfl⟩) (wC_preV (As := []) hC hP hD hS [0] (by decide) rfl (q0 := 0) rfl rfl) rfl rfl hl.1 rfl (lv_room (Nat.le_of_ble_eq_true rfl)) d_Cmd_next_30 ⟨Nat.le_of_ble_eq_true rfl, Nat.le_of_ble_eq_true rfl⟩) (fun r779 u777 H locs hw778 hP hD hS => ?_)
  obtain rfl : r779 = 0 := hw778
  have hP : va_P D classes [(q562, .inr (13, [.int 0, .ref z565, .int 1, .int 1, .ref z566, .int 0, .int 0, .int 0, .ref z567, .int 0, .int 0, .int 0, .int 0, .int 0, .int (-1), .int 0, .ref z568, .ref z569]))] H := hP
  have hD : va_D A [(q562, .inr (13, [.int 0, .ref z565, .int 1, .int 1, .ref z566, .int 0, .int 0, .int 0, .ref z567, .int 0, .int 0, .int 0, .int 0, .int 0, .int (-1), .int 0, .ref z568, .ref z569]))] := hD
  refine W.widen (k := 0) (n := 0) (by omega) (by omega) ?_
  refine lv_istore_n (lv' := [(1, .int 0), (0, .ref q562)]) hx hb d_Cmd_next_33 rfl hl (by decide) rfl (fun ls hl => ?_)
  refine lv_iload_n hx hb d_Cmd_next_34 rfl (lv_at hl 0 rfl) ?_
  refine lv_if_le (tgt := 55) hx hb d_Cmd_next_35 (by decide) (fun c_780 => ?_) (fun c_780 => absurd c_780 (by decide))
  refine lv_aload_n hx hb d_Cmd_next_55 rfl (lv_at hl 1 rfl) ?_
  refine lv_dup hx hb d_Cmd_next_56 rfl ?_
  refine va_get (D := D) (ci := 13) (v := .int 0) (C := R_Cmd) (T := F_Cmd) (N := 18) hx hb htw i_Cmd hown hC.1 hP 0 rfl rfl 13 (by decide) (htw _ k724) (fun _ h9 => h9) rfl d_Cmd_next_57 ?_
  refine lv_iconst (v := 1) hx hb d_Cmd_next_60 (by decide) ?_
  refine lv_iadd hx hb d_Cmd_next_61 ?_
  refine wi_c (v := 1) (by decide) ?_
  refine va_put (D := D) (ci := 13) (v := .int 1) (ty := .int) (C := R_Cmd) (T := F_Cmd) (N := 18) hx hb htw i_Cmd t_Cmd t_Cmd_ok n_Cmd hown hC.1 hP hD hS 0 rfl rfl 13 (by decide) (htw _ k724) (fun _ h9 => h9) rfl (by decide +kernel) rfl rfl (Nat.le_of_ble_eq_true rfl) d_Cmd_next_62 (fun H locs hP hD hS => ?_)
  have hP : va_P D classes [(q562, .inr (13, [.int 0, .ref z565, .int 1, .int 1, .ref z566, .int 0, .int 0, .int 0, .ref z567, .int 0, .int 0, .int 0, .int 0, .int 1, .int (-1), .int 0, .ref z568, .ref z569]))] H := hP
  have hD : va_D A [(q562, .inr (13, [.int 0, .ref z565, .int 1, .int 1, .ref z566, .int 0, .int 0, .int 0, .ref z567, .int 0, .int 0, .int 0, .int 0, .int 1, .int (-1), .int 0, .ref z568, .ref z569]))] := hD
  refine lv_aload_n hx hb d_Cmd_next_65 rfl (lv_at hl 1 rfl) ?_
  refine va_get (D := D) (ci := 13) (v := .int 0) (C := R_Cmd) (T := F_Cmd) (N := 18) hx hb htw i_Cmd hown hC.1 hP 0 rfl rfl 7 (by decide) (htw _ k721) (fun _ h9 => h9) rfl d_Cmd_next_66 ?_
  refine lv_if_ne (tgt := 87) hx hb d_Cmd_next_69 (by decide) (fun c_781 => absurd c_781 (by decide)) (fun c_781 => ?_)
  refine lv_aload_n hx hb d_Cmd_next_72 rfl (lv_at hl 1 rfl) ?_
  refine va_get (D := D) (ci := 13) (v := .int 0) (C := R_Cmd) (T := F_Cmd) (N := 18) hx hb htw i_Cmd hown hC.1 hP 0 rfl rfl 6 (by decide) (htw _ k720) (fun _ h9 => h9) rfl d_Cmd_next_73 ?_
  refine lv_aload_n hx hb d_Cmd_next_76 rfl (lv_at hl 1 rfl) ?_
  refine va_get (D := D) (ci := 13) (v := .int 0) (C := R_Cmd) (T := F_Cmd) (N := 18) hx hb htw i_Cmd hown hC.1 hP 0 rfl rfl 5 (by decide) (htw _ k718) (fun _ h9 => h9) rfl d_Cmd_next_77 ?_
  refine lv_icmp_ne (tgt := 87) hx hb d_Cmd_next_80 (by decide) (fun c_782 => absurd c_782 (by decide)) (fun c_782 => ?_)
  refine lv_iconst (v := 1) hx hb d_Cmd_next_83 (by decide) ?_
  refine lv_goto (tgt := 88) hx hb d_Cmd_next_84 (by decide) ?_
  refine lv_istore_n (lv' := [(2, .int 1), (1, .int 0), (0, .ref q562)]) hx hb d_Cmd_next_88 rfl hl (by decide) rfl (fun ls hl => ?_)
  refine lv_iload_n hx hb d_Cmd_next_89 rfl (lv_at hl 0 rfl) ?_
  refine lv_if_eq (tgt := 97) hx hb d_Cmd_next_90 (by decide) (fun c_783 => absurd c_783 (by decide)) (fun c_783 => ?_)
  refine lv_iconst (v := 0) hx hb d_Cmd_next_93 (by decide) ?_
  refine lv_goto (tgt := 105) hx hb d_Cmd_next_94 (by decide) ?_
  refine lv_istore_n (lv' := [(3, .int 0), (2, .int 1), (1, .int 0), (0, .ref q562)]) hx hb d_Cmd_next_105 rfl hl (by decide) rfl (fun ls hl => ?_)
  refine lv_aload_n hx hb d_Cmd_next_106 rfl (lv_at hl 3 rfl) ?_
  refine lv_iload_n hx hb d_Cmd_next_107 rfl (lv_at hl 1 rfl) ?_
  refine lv_if_eq (tgt := 118) hx hb d_Cmd_next_108 (by decide) (fun c_784 => absurd c_784 (by decide)) (fun c_784 => ?_)
  refine lv_aload_n hx hb d_Cmd_next_111 rfl (lv_at hl 3 rfl) ?_
  refine va_get (D := D) (ci := 13) (v := .int 0) (C := R_Cmd) (T := F_Cmd) (N := 18) hx hb htw i_Cmd hown hC.1 hP 0 rfl rfl 6 (by decide) (htw _ k720) (fun _ h9 => h9) rfl d_Cmd_next_112 ?_
  refine lv_goto (tgt := 129) hx hb d_Cmd_next_115 (by decide) ?_
  refine va_put (D := D) (ci := 13) (v := .int 0) (ty := .int) (C := R_Cmd) (T := F_Cmd) (N := 18) hx hb htw i_Cmd t_Cmd t_Cmd_ok n_Cmd hown hC.1 hP hD hS 0 rfl rfl 6 (by decide) (htw _ k720) (fun _ h9 => h9) rfl (by decide +kernel) rfl rfl (Nat.le_of_ble_eq_true rfl) d_Cmd_next_129 (fun H locs hP hD hS => ?_)
  have hP : va_P D classes [(q562, .inr (13, [.int 0, .ref z565, .int 1, .int 1, .ref z566, .int 0, .int 0, .int 0, .ref z567, .int 0, .int 0, .int 0, .int 0, .int 1, .int (-1), .int 0, .ref z568, .ref z569]))] H := hP
  have hD : va_D A [(q562, .inr (13, [.int 0, .ref z565, .int 1, .int 1, .ref z566, .int 0, .int 0, .int 0, .ref z567, .int 0, .int 0, .int 0, .int 0, .int 1, .int (-1), .int 0, .ref z568, .ref z569]))] := hD
  refine lv_aload_n hx hb d_Cmd_next_132 rfl (lv_at hl 3 rfl) ?_
  refine lv_iload_n hx hb d_Cmd_next_133 rfl (lv_at hl 0 rfl) ?_
  refine wc_v (wr := []) hC hP hD hS [0] [] rfl rfl (by decide) (by decide) (va_runV (As := [.int 0]) (rest := []) ⟨hx, hb, hml, hown, htw⟩ (c_Cperf_0 l D cI cL B _ q562 z565 z566 z567 z568 z569) (cwV 1 htw gV_Cmd_179 rfl rfl rfl (by decide +kernel) ⟨Nat.le_of_ble_eq_true rfl, Nat.le_of_ble_eq_true rfl⟩) (wC_preV (As := [.int 0]) hC hP hD hS [0] (by decide) rfl (q0 := 0) rfl rfl) rfl rfl hl.1 rfl (lv_room (Nat.le_of_ble_eq_true rfl)) d_Cmd_next_134 ⟨Nat.le_of_ble_eq_true rfl, Nat.le_of_ble_eq_true rfl⟩) (fun u785 H locs hw786 hP hD hS => ?_)
  have hP : va_P D classes [(q562, .inr (13, [.int 0, .ref z565, .int 1, .int 1, .ref z566, .int 0, .int 0, .int 0, .ref z567, .int 1, .int 0, .int 0, .int 0, .int 1, .int (-1), .int 0, .ref z568, .ref z569]))] H := hP
  have hD : va_D A [(q562, .inr (13, [.int 0, .ref z565, .int 1, .int 1, .ref z566, .int 0, .int 0, .int 0, .ref z567, .int 1, .int 0, .int 0, .int 0, .int 1, .int (-1), .int 0, .ref z568, .ref z569]))] := hD
  refine W.widen (k := 0) (n := 0) (by omega) (by omega) ?_
  refine lv_iload_n hx hb d_Cmd_next_137 rfl (lv_at hl 0 rfl) ?_
  refine W.widen (k := 0) (n := 0) (Nat.le_of_ble_eq_true rfl) (Nat.le_of_ble_eq_true rfl) ?_
  have hP9 := hP.sub (ws' := [(q562, .inr (13, [.int 0, .ref z565, .int 1, .int 1, .ref z566, .int 0, .int 0, .int 0, .ref z567, .int 1, .int 0, .int 0, .int 0, .int 1, .int (-1), .int 0, .ref z568, .ref z569]))]) [0] rfl
  have hD9 := hD.sub (ws' := [(q562, .inr (13, [.int 0, .ref z565, .int 1, .int 1, .ref z566, .int 0, .int 0, .int 0, .ref z567, .int 1, .int 0, .int 0, .int 0, .int 1, .int (-1), .int 0, .ref z568, .ref z569]))]) [0] (by decide) rfl
  exact W.iret (v := 0) hx hb hr (fun t ht hW => ⟨⟨0, (), rfl, rfl, by rw [ht]; exact hP9, va_K.moved hW.alike hC.1, hD9⟩, hS.F ht⟩) hS.2.2 d_Cmd_next_138

theorem d_Mod_step_0 : decode prog_14_method_13_code 0 = .ok (.iconst 0, 1) := by decide +kernel
theorem d_Mod_step_1 : decode prog_14_method_13_code 1 = .ok (.istore_n 1, 1) := by decide +kernel
theorem d_Mod_step_2 : decode prog_14_method_13_code 2 = .ok (.iload_n 1, 1) := by decide +kernel
theorem d_Mod_step_3 : decode prog_14_method_13_code 3 = .ok (.iconst 4, 1) := by decide +kernel
theorem d_Mod_step_4 : decode prog_14_method_13_code 4 = .ok (.if_icmp .ge 35, 3) := by decide +kernel
theorem d_Mod_step_7 : decode prog_14_method_13_code 7 = .ok (.aload_n 0, 1) := by decide +kernel
theorem d_Mod_step_8 : decode prog_14_method_13_code 8 = .ok (.getfield 78, 3) := by decide +kernel
theorem d_Mod_step_11 : decode prog_14_method_13_code 11 = .ok (.iload_n 1, 1) := by decide +kernel
theorem d_Mod_step_12 : decode prog_14_method_13_code 12 = .ok (.aload_n 0, 1) := by decide +kernel
theorem d_Mod_step_13 : decode prog_14_method_13_code 13 = .ok (.iload_n 1, 1) := by decide +kernel
theorem d_Mod_step_14 : decode prog_14_method_13_code 14 = .ok (.iconst 2, 1) := by decide +kernel
theorem d_Mod_step_15 : decode prog_14_method_13_code 15 = .ok (.if_icmp .ge 8, 3) := by decide +kernel
theorem d_Mod_step_18 : decode prog_14_method_13_code 18 = .ok (.bipush 7, 2) := by decide +kernel
theorem d_Mod_step_20 : decode prog_14_method_13_code 20 = .ok (.goto 5, 3) := by decide +kernel
theorem d_Mod_step_23 : decode prog_14_method_13_code 23 = .ok (.bipush 8, 2) := by decide +kernel
theorem d_Mod_step_25 : decode prog_14_method_13_code 25 = .ok (.iconst 0, 1) := by decide +kernel
theorem d_Mod_step_26 : decode prog_14_method_13_code 26 = .ok (.iload_n 1, 1) := by decide +kernel
theorem d_Mod_step_27 : decode prog_14_method_13_code 27 = .ok (.iconst 2, 1) := by decide +kernel
theorem d_Mod_step_28 : decode prog_14_method_13_code 28 = .ok (.irem, 1) := by decide +kernel
theorem d_Mod_step_29 : decode prog_14_method_13_code 29 = .ok (.invokevirtual 140, 3) := by decide +kernel
theorem d_Mod_step_32 : decode prog_14_method_13_code 32 = .ok (.iastore, 1) := by decide +kernel
theorem d_Mod_step_33 : decode prog_14_method_13_code 33 = .ok (.iinc 1 1, 3) := by decide +kernel
theorem d_Mod_step_36 : decode prog_14_method_13_code 36 = .ok (.goto (-34), 3) := by decide +kernel
theorem d_Mod_step_39 : decode prog_14_method_13_code 39 = .ok (.aload_n 0, 1) := by decide +kernel
theorem d_Mod_step_40 : decode prog_14_method_13_code 40 = .ok (.getfield 19, 3) := by decide +kernel
theorem d_Mod_step_43 : decode prog_14_method_13_code 43 = .ok (.invokevirtual 143, 3) := by decide +kernel
theorem d_Mod_step_46 : decode prog_14_method_13_code 46 = .ok (.istore_n 1, 1) := by decide +kernel
theorem d_Mod_step_47 : decode prog_14_method_13_code 47 = .ok (.iload_n 1, 1) := by decide +kernel
theorem d_Mod_step_48 : decode prog_14_method_13_code 48 = .ok (.tableswitch 261 (-1) 20 #[104, 261, 106, 261, 261, 261, 261, 261, 156, 166, 261, 261, 261, 261, 261, 261, 261, 261, 176, 176, 225, 255], 104) := by decide +kernel
theorem d_Mod_step_309 : decode prog_14_method_13_code 309 = .ok (.iconst 1, 1) := by decide +kernel
theorem d_Mod_step_310 : decode prog_14_method_13_code 310 = .ok (.ireturn, 1) := by decide +kernel
theorem gV_Mod_140 : GoodIn tw (wsV "DrawingMachineModel" 140 "DrawingMachineModel" y_Mod_kept ((Cond.code y_Mod_kept prog_14_method_11_code 4 (some .int)) :: tw)) := tw_pre (fun _ h => h) (tw_good (fun _ h => h) k662) (List.forall_mem_cons.mpr ⟨k669, List.forall_mem_cons.mpr ⟨k670, List.forall_mem_cons.mpr ⟨k1011, List.forall_mem_cons.mpr ⟨k116, fun _ h => absurd h List.not_mem_nil⟩⟩⟩⟩)
theorem gV_Mod_143 : GoodIn tw (wsV "DrawingMachineModel" 143 "DrawingMachineModel$DrawCommandsModel" y_Cmd_next ((Cond.code y_Cmd_next prog_15_method_26_code 4 (some .int)) :: tw)) := tw_pre (fun _ h => h) (tw_good (fun _ h => h) k674) (List.forall_mem_cons.mpr ⟨k671, List.forall_mem_cons.mpr ⟨k672, List.forall_mem_cons.mpr ⟨k673, List.forall_mem_cons.mpr ⟨k137, fun _ h => absurd h List.not_mem_nil⟩⟩⟩⟩)
set_option maxHeartbeats 4000000 in
set_option maxRecDepth 100000 in
theorem c_Mstep_0 (l : Launch) (D : va_G) (cI cL : ClassId) (B sz : Nat) (h0 : Nat) (q562 : Nat) (z565 : Nat) (z566 : Nat) (z567 : Nat) (z568 : Nat) (z569 : Nat) (z570 : Nat → Int32) (q571 : Nat) (q574 : Nat) (q577 : Nat) (q580 : Nat) (q583 : Nat) (q586 : Nat) (q599 : Nat) (q600 : Nat) (q601 : Nat) (q602 : Nat) : Met l y_Mod_step ((Cond.code y_Mod_step prog_14_method_13_code 2 (some .boolean)) :: tw) ({ frames := 50, cells := 0, slots := 0, locals := 5000 }) (va_Pc [.ref h0] (wP D cI cL B sz [(h0, .inr (12, [.int 0, .int 1, .int 1, .ref q562, .ref q571, .ref q574, .ref q577, .ref q580, .ref q583, .ref q586, .int 0, .int (-1), .int 0, .int 0, .long 0, .ref q599, .ref q600, .ref q601, .ref q602])), (q562, .inr (13, [.int 0, .ref z565, .int 1, .int 1, .ref z566, .int 0, .int 0, .int 0, .ref z567, .int 0, .int 0, .int (-1), .int (-1), .int 0, .int (-1), .int 0, .ref z568, .ref z569])), (z569, .inl (cI, 4160, .inl z570)), (q601, .inl (cI, 4, .inl (fun _ => 0)))])) (va_Qi (S := Unit) (fun r u => r = 1) (fun u => wB D cI cL (va_A [(h0, .inr (12, [.int 0, .int 1, .int 1, .ref q562, .ref q571, .ref q574, .ref q577, .ref q580, .ref q583, .ref q586, .int 0, .int (-1), .int 0, .int 0, .long 0, .ref q599, .ref q600, .ref q601, .ref q602])), (q562, .inr (13, [.int 0, .ref z565, .int 1, .int 1, .ref z566, .int 0, .int 0, .int 0, .ref z567, .int 0, .int 0, .int (-1), .int (-1), .int 0, .int (-1), .int 0, .ref z568, .ref z569])), (z569, .inl (cI, 4160, .inl z570)), (q601, .inl (cI, 4, .inl (fun _ => 0)))] sz) ((fun _ : Unit => [(h0, .inr (12, [.int 0, .int 1, .int 1, .ref q562, .ref q571, .ref q574, .ref q577, .ref q580, .ref q583, .ref q586, .int 0, .int (-1), .int 0, .int 0, .long 0, .ref q599, .ref q600, .ref q601, .ref q602])), (q562, .inr (13, [.int 0, .ref z565, .int 1, .int 1, .ref z566, .int 0, .int 0, .int 0, .ref z567, .int 1, .int 0, .int 0, .int 0, .int 1, .int (-1), .int 0, .ref z568, .ref z569]))]) u)) (va_A [(h0, .inr (12, [.int 0, .int 1, .int 1, .ref q562, .ref q571, .ref q574, .ref q577, .ref q580, .ref q583, .ref q586, .int 0, .int (-1), .int 0, .int 0, .long 0, .ref q599, .ref q600, .ref q601, .ref q602])), (q562, .inr (13, [.int 0, .ref z565, .int 1, .int 1, .ref z566, .int 0, .int 0, .int 0, .ref z567, .int 0, .int 0, .int (-1), .int (-1), .int 0, .int (-1), .int 0, .ref z568, .ref z569])), (z569, .inl (cI, 4160, .inl z570)), (q601, .inl (cI, 4, .inl (fun _ => 0)))] sz)) 0 0 (va_A [(h0, .inr (12, [.int 0, .int 1, .int 1, .ref q562, .ref q571, .ref q574, .ref q577, .ref q580, .ref q583, .ref q586, .int 0, .int (-1), .int 0, .int 0, .long 0, .ref q599, .ref q600, .ref q601, .ref q602])), (q562, .inr (13, [.int 0, .ref z565, .int 1, .int 1, .ref z566, .int 0, .int 0, .int 0, .ref z567, .int 0, .int 0, .int (-1), .int (-1), .int 0, .int (-1), .int 0, .ref z568, .ref z569])), (z569, .inl (cI, 4160, .inl z570)), (q601, .inl (cI, 4, .inl (fun _ => 0)))] sz) := by
  refine Met.ofW (cc := prog_14_method_13_code) (maxL := 2) (ret := (some .boolean)) (by decide) rfl ?_
  intro p e s m args below meth c s₁ B0 hml hv
  obtain ⟨rfl, hv⟩ := hv
  have hx := B0.exec
  have hb := B0.bytes
  have hr := B0.returns
  have hts := atoms_spec (ws := (Cond.code y_Mod_step prog_14_method_13_code 2 (some .boolean)) :: tw) B0.pre
  have htw : ∀ w ∈ tw, w.before _ s = true := fun w hw => hts w (List.mem_cons_of_mem _ hw)
  have hown : s.vm.findClass "DrawingMachineModel" = some m.cls := findClass_of_methodNamed B0.named
  have hlocks := B0.notSynchronized
  obtain ⟨hC, hP, hD, hsz⟩ := wC_init hv
  subst hsz
  generalize hAe : va_A [(h0, .inr (12, [.int 0, .int 1, .int 1, .ref q562, .ref q571, .ref q574, .ref q577, .ref q580, .ref q583, .ref q586, .int 0, .int (-1), .int 0, .int 0, .long 0, .ref q599, .ref q600, .ref q601, .ref q602])), (q562, .inr (13, [.int 0, .ref z565, .int 1, .int 1, .ref z566, .int 0, .int 0, .int 0, .ref z567, .int 0, .int 0, .int (-1), .int (-1), .int 0, .int (-1), .int 0, .ref z568, .ref z569])), (z569, .inl (cI, 4160, .inl z570)), (q601, .inl (cI, 4, .inl (fun _ => 0)))] s.heap.size = A at hC hD ⊢
  have hS : va_S A s.heap s.heap [] := va_S.rf
  have hl := lv_entry ([.ref h0]) (n := 2) (Nat.le_of_ble_eq_true rfl)
  rw [lg_entry_eq]
  generalize (lg_sl ([.ref h0]) ++ List.replicate (2 - (lg_sl ([.ref h0])).length) Slot.unset).toArray = ls at hl ⊢
  have hl : lv_has ls 2 [(0, .ref h0)] := hl
  refine lv_iconst (v := 0) hx hb d_Mod_step_0 (by decide) ?_
  refine lv_istore_n (lv' := [(1, .int 0), (0, .ref h0)]) hx hb d_Mod_step_1 rfl hl (by decide) rfl (fun ls hl => ?_)
  refine lv_iload_n hx hb d_Mod_step_2 rfl (lv_at hl 0 rfl) ?_
  refine lv_iconst (v := 4) hx hb d_Mod_step_3 (by decide) ?_
  refine lv_icmp_ge (tgt := 39) hx hb d_Mod_step_4 (by decide) (fun c_787 => absurd c_787 (by decide)) (fun c_787 => ?_)
  refine lv_aload_n hx hb d_Mod_step_7 rfl (lv_at hl 1 rfl) ?_
  refine va_get (D := D) (ci := 12) (v := .ref q601) (C := R_Mod) (T := F_Mod) (N := 19) hx hb htw i_Mod hown hC.1 hP 0 rfl rfl 17 (by decide) (htw _ k551) (fun _ h9 => h9) rfl d_Mod_step_8 ?_
  refine lv_iload_n hx hb d_Mod_step_11 rfl (lv_at hl 0 rfl) ?_
  refine lv_aload_n hx hb d_Mod_step_12 rfl (lv_at hl 1 rfl) ?_
  refine lv_iload_n hx hb d_Mod_step_13 rfl (lv_at hl 0 rfl) ?_
  refine lv_iconst (v := 2) hx hb d_Mod_step_14 (by decide) ?_
  refine lv_icmp_ge (tgt := 23) hx hb d_Mod_step_15 (by decide) (fun c_788 => absurd c_788 (by decide)) (fun c_788 => ?_)
  refine lv_bipush (v := 7) hx hb d_Mod_step_18 (by decide) ?_
  refine lv_goto (tgt := 25) hx hb d_Mod_step_20 (by decide) ?_
  refine lv_iconst (v := 0) hx hb d_Mod_step_25 (by decide) ?_
  refine lv_iload_n hx hb d_Mod_step_26 rfl (lv_at hl 0 rfl) ?_
  refine lv_iconst (v := 2) hx hb d_Mod_step_27 (by decide) ?_
  refine lv_irem hx hb d_Mod_step_28 (by decide) ?_
  refine wi_c (v := 0) (by decide) ?_
  refine wc_i (wr := [(q601, .inl (cI, 4, .inl (fun _ => 0)))]) hC hP hD hS [0, 1, 2] [3] rfl rfl (by decide) (by decide) (va_runV (As := [.int 7, .int 0, .int 0]) (rest := [.int 0, .ref q601]) ⟨hx, hb, hml, hown, htw⟩ (c_Mkept_70 l D cI cL B _ h0 q562 z565 z566 z567 z568 z569 z570 q571 q574 q577 q580 q583 q586 q599 q600 q601 q602) (cwV 3 htw gV_Mod_140 rfl rfl rfl (by decide +kernel) ⟨Nat.le_of_ble_eq_true rfl, Nat.le_of_ble_eq_true rfl⟩) (wC_preV (As := [.int 7, .int 0, .int 0]) hC hP hD hS [0, 1, 2] (by decide) rfl (q0 := 0) rfl rfl) rfl rfl hl.1 rfl (lv_room (Nat.le_of_ble_eq_true rfl)) d_Mod_step_29 ⟨Nat.le_of_ble_eq_true rfl, Nat.le_of_ble_eq_true rfl⟩) (fun r791 u789 H locs hw790 hP hD hS => ?_)
  obtain rfl : r791 = (z570 (((nI (160 * 7 + 0 * cnt 7)) + 0)).toNatClampNeg) := hw790
  have hP : va_P D classes [(q601, .inl (cI, 4, .inl (fun _ => 0))), (h0, .inr (12, [.int 0, .int 1, .int 1, .ref q562, .ref q571, .ref q574, .ref q577, .ref q580, .ref q583, .ref q586, .int 0, .int (-1), .int 0, .int 0, .long 0, .ref q599, .ref q600, .ref q601, .ref q602])), (q562, .inr (13, [.int 0, .ref z565, .int 1, .int 1, .ref z566, .int 0, .int 0, .int 0, .ref z567, .int 0, .int 0, .int (-1), .int (-1), .int 0, .int (-1), .int 0, .ref z568, .ref z569])), (z569, .inl (cI, 4160, .inl z570))] H := hP
  have hD : va_D A [(q601, .inl (cI, 4, .inl (fun _ => 0))), (h0, .inr (12, [.int 0, .int 1, .int 1, .ref q562, .ref q571, .ref q574, .ref q577, .ref q580, .ref q583, .ref q586, .int 0, .int (-1), .int 0, .int 0, .long 0, .ref q599, .ref q600, .ref q601, .ref q602])), (q562, .inr (13, [.int 0, .ref z565, .int 1, .int 1, .ref z566, .int 0, .int 0, .int 0, .ref z567, .int 0, .int 0, .int (-1), .int (-1), .int 0, .int (-1), .int 0, .ref z568, .ref z569])), (z569, .inl (cI, 4160, .inl z570))] := hD
  refine W.widen (k := 0) (n := 0) (by omega) (by omega) ?_
  refine va_iast hx hb hC.1 hP hD hS 0 0 rfl rfl (by unfold vp_in; decide) d_Mod_step_32 (fun H locs hP hD hS => ?_)
  have hP : va_P D classes [(q601, .inl (cI, 4, .inl (upd (fun _ => 0) (0 : Int32).toNatClampNeg (z570 (((nI (160 * 7 + 0 * cnt 7)) + 0)).toNatClampNeg)))), (h0, .inr (12, [.int 0, .int 1, .int 1, .ref q562, .ref q571, .ref q574, .ref q577, .ref q580, .ref q583, .ref q586, .int 0, .int (-1), .int 0, .int 0, .long 0, .ref q599, .ref q600, .ref q601, .ref q602])), (q562, .inr (13, [.int 0, .ref z565, .int 1, .int 1, .ref z566, .int 0, .int 0, .int 0, .ref z567, .int 0, .int 0, .int (-1), .int (-1), .int 0, .int (-1), .int 0, .ref z568, .ref z569])), (z569, .inl (cI, 4160, .inl z570))] H := hP
  have hD : va_D A [(q601, .inl (cI, 4, .inl (upd (fun _ => 0) (0 : Int32).toNatClampNeg (z570 (((nI (160 * 7 + 0 * cnt 7)) + 0)).toNatClampNeg)))), (h0, .inr (12, [.int 0, .int 1, .int 1, .ref q562, .ref q571, .ref q574, .ref q577, .ref q580, .ref q583, .ref q586, .int 0, .int (-1), .int 0, .int 0, .long 0, .ref q599, .ref q600, .ref q601, .ref q602])), (q562, .inr (13, [.int 0, .ref z565, .int 1, .int 1, .ref z566, .int 0, .int 0, .int 0, .ref z567, .int 0, .int 0, .int (-1), .int (-1), .int 0, .int (-1), .int 0, .ref z568, .ref z569])), (z569, .inl (cI, 4160, .inl z570))] := hD
  generalize upd (fun _ => 0) (0 : Int32).toNatClampNeg (z570 (((nI (160 * 7 + 0 * cnt 7)) + 0)).toNatClampNeg) = f792 at hP hD
  refine lv_iinc (v := 1) (lv' := [(1, .int 1), (0, .ref h0)]) hx hb d_Mod_step_33 hl (k := 0) rfl (by decide) (by decide) rfl (fun ls hl => ?_)
  refine lv_goto (tgt := 2) hx hb d_Mod_step_36 (by decide) ?_
  refine lv_iload_n hx hb d_Mod_step_2 rfl (lv_at hl 0 rfl) ?_
  refine lv_iconst (v := 4) hx hb d_Mod_step_3 (by decide) ?_
  refine lv_icmp_ge (tgt := 39) hx hb d_Mod_step_4 (by decide) (fun c_793 => absurd c_793 (by decide)) (fun c_793 => ?_)
  refine lv_aload_n hx hb d_Mod_step_7 rfl (lv_at hl 1 rfl) ?_
  refine va_get (D := D) (ci := 12) (v := .ref q601) (C := R_Mod) (T := F_Mod) (N := 19) hx hb htw i_Mod hown hC.1 hP 1 rfl rfl 17 (by decide) (htw _ k551) (fun _ h9 => h9) rfl d_Mod_step_8 ?_
  refine lv_iload_n hx hb d_Mod_step_11 rfl (lv_at hl 0 rfl) ?_
  refine lv_aload_n hx hb d_Mod_step_12 rfl (lv_at hl 1 rfl) ?_
  refine lv_iload_n hx hb d_Mod_step_13 rfl (lv_at hl 0 rfl) ?_
  refine lv_iconst (v := 2) hx hb d_Mod_step_14 (by decide) ?_
  refine lv_icmp_ge (tgt := 23) hx hb d_Mod_step_15 (by decide) (fun c_794 => absurd c_794 (by decide)) (fun c_794 => ?_)
  refine lv_bipush (v := 7) hx hb d_Mod_step_18 (by decide) ?_
  refine lv_goto (tgt := 25) hx hb d_Mod_step_20 (by decide) ?_
  refine lv_iconst (v := 0) hx hb d_Mod_step_25 (by decide) ?_
  refine lv_iload_n hx hb d_Mod_step_26 rfl (lv_at hl 0 rfl) ?_
  refine lv_iconst (v := 2) hx hb d_Mod_step_27 (by decide) ?_
  refine lv_irem hx hb d_Mod_step_28 (by decide) ?_
  refine wi_c (v := 1) (by decide) ?_
  refine wc_i (wr := [(q601, .inl (cI, 4, .inl f792))]) hC hP hD hS [1, 2, 3] [0] rfl rfl (by decide) (by decide) (va_runV (As := [.int 7, .int 0, .int 1]) (rest := [.int 1, .ref q601]) ⟨hx, hb, hml, hown, htw⟩ (c_Mkept_71 l D cI cL B _ h0 q562 z565 z566 z567 z568 z569 z570 q571 q574 q577 q580 q583 q586 q599 q600 q601 q602) (cwV 3 htw gV_Mod_140 rfl rfl rfl (by decide +kernel) ⟨Nat.le_of_ble_eq_true rfl, Nat.le_of_ble_eq_true rfl⟩) (wC_preV (As := [.int 7, .int 0, .int 1]) hC hP hD hS [1, 2, 3] (by decide) rfl (q0 := 1) rfl rfl) rfl rfl hl.1 rfl (lv_room (Nat.le_of_ble_eq_true rfl)) d_Mod_step_29 ⟨Nat.le_of_ble_eq_true rfl, Nat.le_of_ble_eq_true rfl⟩) (fun r797 u795 H locs hw796 hP hD hS => ?_)
  obtain rfl : r797 = (z570 (((nI (160 * 7 + 0 * cnt 7)) + 1)).toNatClampNeg) := hw796
  have hP : va_P D classes [(q601, .inl (cI, 4, .inl f792)), (h0, .inr (12, [.int 0, .int 1, .int 1, .ref q562, .ref q571, .ref q574, .ref q577, .ref q580, .ref q583, .ref q586, .int 0, .int (-1), .int 0, .int 0, .long 0, .ref q599, .ref q600, .ref q601, .ref q602])), (q562, .inr (13, [.int 0, .ref z565, .int 1, .int 1, .ref z566, .int 0, .int 0, .int 0, .ref z567, .int 0, .int 0, .int (-1), .int (-1), .int 0, .int (-1), .int 0, .ref z568, .ref z569])), (z569, .inl (cI, 4160, .inl z570))] H := hP
  have hD : va_D A [(q601, .inl (cI, 4, .inl f792)), (h0, .inr (12, [.int 0, .int 1, .int 1, .ref q562, .ref q571, .ref q574, .ref q577, .ref q580, .ref q583, .ref q586, .int 0, .int (-1), .int 0, .int 0, .long 0, .ref q599, .ref q600, .ref q601, .ref q602])), (q562, .inr (13, [.int 0, .ref z565, .int 1, .int 1, .ref z566, .int 0, .int 0, .int 0, .ref z567, .int 0, .int 0, .int (-1), .int (-1), .int 0, .int (-1), .int 0, .ref z568, .ref z569])), (z569, .inl (cI, 4160, .inl z570))] := hD
  refine W.widen (k := 0) (n := 0) (by omega) (by omega) ?_
  refine va_iast hx hb hC.1 hP hD hS 0 0 rfl rfl (by unfold vp_in; decide) d_Mod_step_32 (fun H locs hP hD hS => ?_)
  have hP : va_P D classes [(q601, .inl (cI, 4, .inl (upd f792 (1 : Int32).toNatClampNeg (z570 (((nI (160 * 7 + 0 * cnt 7)) + 1)).toNatClampNeg)))), (h0, .inr (12, [.int 0, .int 1, .int 1, .ref q562, .ref q571, .ref q574, .ref q577, .ref q580, .ref q583, .ref q586, .int 0, .int (-1), .int 0, .int 0, .long 0, .ref q599, .ref q600, .ref q601, .ref q602])), (q562, .inr (13, [.int 0, .ref z565, .int 1, .int 1, .ref z566, .int 0, .int 0, .int 0, .ref z567, .int 0, .int 0, .int (-1), .int (-1), .int 0, .int (-1), .int 0, .ref z568, .ref z569])), (z569, .inl (cI, 4160, .inl z570))] H := hP
  have hD : va_D A [(q601, .inl (cI, 4, .inl (upd f792 (1 : Int32).toNatClampNeg (z570 (((nI (160 * 7 + 0 * cnt 7)) + 1)).toNatClampNeg)))), (h0, .inr (12, [.int 0, .int 1, .int 1, .ref q562, .ref q571, .ref q574, .ref q577, .ref q580, .ref q583, .ref q586, .int 0, .int (-1), .int 0, .int 0, .long 0, .ref q599, .ref q600, .ref q601, .ref q602])), (q562, .inr (13, [.int 0, .ref z565, .int 1, .int 1, .ref z566, .int 0, .int 0, .int 0, .ref z567, .int 0, .int 0, .int (-1), .int (-1), .int 0, .int (-1), .int 0, .ref z568, .ref z569])), (z569, .inl (cI, 4160, .inl z570))] := hD
  generalize upd f792 (1 : Int32).toNatClampNeg (z570 (((nI (160 * 7 + 0 * cnt 7)) + 1)).toNatClampNeg) = f798 at hP hD
  refine lv_iinc (v := 2) (lv' := [(1, .int 2), (0, .ref h0)]) hx hb d_Mod_step_33 hl (k := 0) rfl (by decide) (by decide) rfl (fun ls hl => ?_)
  refine lv_goto (tgt := 2) hx hb d_Mod_step_36 (by decide) ?_
  refine lv_iload_n hx hb d_Mod_step_2 rfl (lv_at hl 0 rfl) ?_
  refine lv_iconst (v := 4) hx hb d_Mod_step_3 (by decide) ?_
  refine lv_icmp_ge (tgt := 39) hx hb d_Mod_step_4 (by decide) (fun c_799 => absurd c_799 (by decide)) (fun c_799 => ?_)
  refine lv_aload_n hx hb d_Mod_step_7 rfl (lv_at hl 1 rfl) ?_
  refine va_get (D := D) (ci := 12) (v := .ref q601) (C := R_Mod) (T := F_Mod) (N := 19) hx hb htw i_Mod hown hC.1 hP 1 rfl rfl 17 (by decide) (htw _ k551) (fun _ h9 => h9) rfl d_Mod_step_8 ?_
  refine lv_iload_n hx hb d_Mod_step_11 rfl (lv_at hl 0 rfl) ?_
  refine lv_aload_n hx hb d_Mod_step_12 rfl (lv_at hl 1 rfl) ?_
  refine lv_iload_n hx hb d_Mod_step_13 rfl (lv_at hl 0 rfl) ?_
  refine lv_iconst (v := 2) hx hb d_Mod_step_14 (by decide) ?_
  refine lv_icmp_ge (tgt := 23) hx hb d_Mod_step_15 (by decide) (fun c_800 => ?_) (fun c_800 => absurd c_800 (by decide))
  refine lv_bipush (v := 8) hx hb d_Mod_step_23 (by decide) ?_
  refine lv_iconst (v := 0) hx hb d_Mod_step_25 (by decide) ?_
  refine lv_iload_n hx hb d_Mod_step_26 rfl (lv_at hl 0 rfl) ?_
  refine lv_iconst (v := 2) hx hb d_Mod_step_27 (by decide) ?_
  refine lv_irem hx hb d_Mod_step_28 (by decide) ?_
  refine wi_c (v := 0) (by decide) ?_
  refine wc_i (wr := [(q601, .inl (cI, 4, .inl f798))]) hC hP hD hS [1, 2, 3] [0] rfl rfl (by decide) (by decide) (va_runV (As := [.int 8, .int 0, .int 0]) (rest := [.int 2, .ref q601]) ⟨hx, hb, hml, hown, htw⟩ (c_Mkept_80 l D cI cL B _ h0 q562 z565 z566 z567 z568 z569 z570 q571 q574 q577 q580 q583 q586 q599 q600 q601 q602) (cwV 3 htw gV_Mod_140 rfl rfl rfl (by decide +kernel) ⟨Nat.le_of_ble_eq_true rfl, Nat.le_of_ble_eq_true rfl⟩) (wC_preV (As := [.int 8, .int 0, .int 0]) hC hP hD hS [1, 2, 3] (by decide) rfl (q0 := 1) rfl rfl) rfl rfl hl.1 rfl (lv_room (Nat.le_of_ble_eq_true rfl)) d_Mod_step_29 ⟨Nat.le_of_ble_eq_true rfl, Nat.le_of_ble_eq_true rfl⟩) (fun r803 u801 H locs hw802 hP hD hS => ?_)
  obtain rfl : r803 = (z570 (((nI (160 * 8 + 0 * cnt 8)) + 0)).toNatClampNeg) := hw802
  have hP : va_P D classes [(q601, .inl (cI, 4, .inl f798)), (h0, .inr (12, [.int 0, .int 1, .int 1, .ref q562, .ref q571, .ref q574, .ref q577, .ref q580, .ref q583, .ref q586, .int 0, .int (-1), .int 0, .int 0, .long 0, .ref q599, .ref q600, .ref q601, .ref q602])), (q562, .inr (13, [.int 0, .ref z565, .int 1, .int 1, .ref z566, .int 0, .int 0, .int 0, .ref z567, .int 0, .int 0, .int (-1), .int (-1), .int 0, .int (-1), .int 0, .ref z568, .ref z569])), (z569, .inl (cI, 4160, .inl z570))] H := hP
  have hD : va_D A [(q601, .inl (cI, 4, .inl f798)), (h0, .inr (12, [.int 0, .int 1, .int 1, .ref q562, .ref q571, .ref q574, .ref q577, .ref q580, .ref q583, .ref q586, .int 0, .int (-1), .int 0, .int 0, .long 0, .ref q599, .ref q600, .ref q601, .ref q602])), (q562, .inr (13, [.int 0, .ref z565, .int 1, .int 1, .ref z566, .int 0, .int 0, .int 0, .ref z567, .int 0, .int 0, .int (-1), .int (-1), .int 0, .int (-1), .int 0, .ref z568, .ref z569])), (z569, .inl (cI, 4160, .inl z570))] := hD
  refine W.widen (k := 0) (n := 0) (by omega) (by omega) ?_
  refine va_iast hx hb hC.1 hP hD hS 0 0 rfl rfl (by unfold vp_in; decide) d_Mod_step_32 (fun H locs hP hD hS => ?_)
  have hP : va_P D classes [(q601, .inl (cI, 4, .inl (upd f798 (2 : Int32).toNatClampNeg (z570 (((nI (160 * 8 + 0 * cnt 8)) + 0)).toNatClampNeg)))), (h0, .inr (12, [.int 0, .int 1, .int 1, .ref q562, .ref q571, .ref q574, .ref q577, .ref q580, .ref q583, .ref q586, .int 0, .int (-1), .int 0, .int 0, .long 0, .ref q599, .ref q600, .ref q601, .ref q602])), (q562, .inr (13, [.int 0, .ref z565, .int 1, .int 1, .ref z566, .int 0, .int 0, .int 0, .ref z567, .int 0, .int 0, .int (-1), .int (-1), .int 0, .int (-1), .int 0, .ref z568, .ref z569])), (z569, .inl (cI, 4160, .inl z570))] H := hP
  have hD : va_D A [(q601, .inl (cI, 4, .inl (upd f798 (2 : Int32).toNatClampNeg (z570 (((nI (160 * 8 + 0 * cnt 8)) + 0)).toNatClampNeg)))), (h0, .inr (12, [.int 0, .int 1, .int 1, .ref q562, .ref q571, .ref q574, .ref q577, .ref q580, .ref q583, .ref q586, .int 0, .int (-1), .int 0, .int 0, .long 0, .ref q599, .ref q600, .ref q601, .ref q602])), (q562, .inr (13, [.int 0, .ref z565, .int 1, .int 1, .ref z566, .int 0, .int 0, .int 0, .ref z567, .int 0, .int 0, .int (-1), .int (-1), .int 0, .int (-1), .int 0, .ref z568, .ref z569])), (z569, .inl (cI, 4160, .inl z570))] := hD
  generalize upd f798 (2 : Int32).toNatClampNeg (z570 (((nI (160 * 8 + 0 * cnt 8)) + 0)).toNatClampNeg) = f804 at hP hD
  refine lv_iinc (v := 3) (lv' := [(1, .int 3), (0, .ref h0)]) hx hb d_Mod_step_33 hl (k := 0) rfl (by decide) (by decide) rfl (fun ls hl => ?_)
  refine lv_goto (tgt := 2) hx hb d_Mod_step_36 (by decide) ?_
  refine lv_iload_n hx hb d_Mod_step_2 rfl (lv_at hl 0 rfl) ?_
  refine lv_iconst (v := 4) hx hb d_Mod_step_3 (by decide) ?_
  refine lv_icmp_ge (tgt := 39) hx hb d_Mod_step_4 (by decide) (fun c_805 => absurd c_805 (by decide)) (fun c_805 => ?_)
  refine lv_aload_n hx hb d_Mod_step_7 rfl (lv_at hl 1 rfl) ?_
  refine va_get (D := D) (ci := 12) (v := .ref q601) (C := R_Mod) (T := F_Mod) (N := 19) hx hb htw i_Mod hown hC.1 hP 1 rfl rfl 17 (by decide) (htw _ k551) (fun _ h9 => h9) rfl d_Mod_step_8 ?_
  refine lv_iload_n hx hb d_Mod_step_11 rfl (lv_at hl 0 rfl) ?_
  refine lv_aload_n hx hb d_Mod_step_12 rfl (lv_at hl 1 rfl) ?_
  refine lv_iload_n hx hb d_Mod_step_13 rfl (lv_at hl 0 rfl) ?_
  refine lv_iconst (v := 2) hx hb d_Mod_step_14 (by decide) ?_
  refine lv_icmp_ge (tgt := 23) hx hb d_Mod_step_15 (by decide) (fun c_806 => ?_) (fun c_806 => absurd c_806 (by decide))
  refine lv_bipush (v := 8) hx hb d_Mod_step_23 (by decide) ?_
  refine lv_iconst (v := 0) hx hb d_Mod_step_25 (by decide) ?_
  refine lv_iload_n hx hb d_Mod_step_26 rfl (lv_at hl 0 rfl) ?_
  refine lv_iconst (v := 2) hx hb d_Mod_step_27 (by decide) ?_
  refine lv_irem hx hb d_Mod_step_28 (by decide) ?_
  refine wi_c (v := 1) (by decide) ?_
  refine wc_i (wr := [(q601, .inl (cI, 4, .inl f804))]) hC hP hD hS [1, 2, 3] [0] rfl rfl (by decide) (by decide) (va_runV (As := [.int 8, .int 0, .int 1]) (rest := [.int 3, .ref q601]) ⟨hx, hb, hml, hown, htw⟩ (c_Mkept_81 l D cI cL B _ h0 q562 z565 z566 z567 z568 z569 z570 q571 q574 q577 q580 q583 q586 q599 q600 q601 q602) (cwV 3 htw gV_Mod_140 rfl rfl rfl (by decide +kernel) ⟨Nat.le_of_ble_eq_true rfl, Nat.le_of_ble_eq_true rfl⟩) (wC_preV (As := [.int 8, .int 0, .int 1]) hC hP hD hS [1, 2, 3] (by decide) rfl (q0 := 1) rfl rfl) rfl rfl hl.1 rfl (lv_room (Nat.le_of_ble_eq_true rfl)) d_Mod_step_29 ⟨Nat.le_of_ble_eq_true rfl, Nat.le_of_ble_eq_true rfl⟩) (fun r809 u807 H locs hw808 hP hD hS => ?_)
  obtain rfl : r809 = (z570 (((nI (160 * 8 + 0 * cnt 8)) + 1)).toNatClampNeg) := hw808
  have hP : va_P D classes [(q601, .inl (cI, 4, .inl f804)), (h0, .inr (12, [.int 0, .int 1, .int 1, .ref q562, .ref q571, .ref q574, .ref q577, .ref q580, .ref q583, .ref q586, .int 0, .int (-1), .int 0, .int 0, .long 0, .ref q599, .ref q600, .ref q601, .ref q602])), (q562, .inr (13, [.int 0, .ref z565, .int 1, .int 1, .ref z566, .int 0, .int 0, .int 0, .ref z567, .int 0, .int 0, .int (-1), .int (-1), .int 0, .int (-1), .int 0, .ref z568, .ref z569])), (z569, .inl (cI, 4160, .inl z570))] H := hP
  have hD : va_D A [(q601, .inl (cI, 4, .inl f804)), (h0, .inr (12, [.int 0, .int 1, .int 1, .ref q562, .ref q571, .ref q574, .ref q577, .ref q580, .ref q583, .ref q586, .int 0, .int (-1), .int 0, .int 0, .long 0, .ref q599, .ref q600, .ref q601, .ref q602])), (q562, .inr (13, [.int 0, .ref z565, .int 1, .int 1, .ref z566, .int 0, .int 0, .int 0, .ref z567, .int 0, .int 0, .int (-1), .int (-1), .int 0, .int (-1), .int 0, .ref z568, .ref z569])), (z569, .inl (cI, 4160, .inl z570))] := hD
  refine W.widen (k := 0) (n := 0) (by omega) (by omega) ?_
  refine va_iast hx hb hC.1 hP hD hS 0 0 rfl rfl (by unfold vp_in; decide) d_Mod_step_32 (fun H locs hP hD hS => ?_)
  have hP : va_P D classes [(q601, .inl (cI, 4, .inl (upd f804 (3 : Int32).toNatClampNeg (z570 (((nI (160 * 8 + 0 * cnt 8)) + 1)).toNatClampNeg)))), (h0, .inr (12, [.int 0, .int 1, .int 1, .ref q562, .ref q571, .ref q574, .ref q577, .ref q580, .ref q583, .ref q586, .int 0, .int (-1), .int 0, .int 0, .long 0, .ref q599, .ref q600, .ref q601, .ref q602])), (q562, .inr (13, [.int 0, .ref z565, .int 1, .int 1, .ref z566, .int 0, .int 0, .int 0, .ref z567, .int 0, .int 0, .int (-1), .int (-1), .int 0, .int (-1), .int 0, .ref z568, .ref z569])), (z569, .inl (cI, 4160, .inl z570))] H := hP
  have hD : va_D A [(q601, .inl (cI, 4, .inl (upd f804 (3 : Int32).toNatClampNeg (z570 (((nI (160 * 8 + 0 * cnt 8)) + 1)).toNatClampNeg)))), (h0, .inr (12, [.int 0, .int 1, .int 1, .ref q562, .ref q571, .ref q574, .ref q577, .ref q580, .ref q583, .ref q586, .int 0, .int (-1), .int 0, .int 0, .long 0, .ref q599, .ref q600, .ref q601, .ref q602])), (q562, .inr (13, [.int 0, .ref z565, .int 1, .int 1, .ref z566, .int 0, .int 0, .int 0, .ref z567, .int 0, .int 0, .int (-1), .int (-1), .int 0, .int (-1), .int 0, .ref z568, .ref z569])), (z569, .inl (cI, 4160, .inl z570))] := hD
  generalize upd f804 (3 : Int32).toNatClampNeg (z570 (((nI (160 * 8 + 0 * cnt 8)) + 1)).toNatClampNeg) = f810 at hP hD
  refine lv_iinc (v := 4) (lv' := [(1, .int 4), (0, .ref h0)]) hx hb d_Mod_step_33 hl (k := 0) rfl (by decide) (by decide) rfl (fun ls hl => ?_)
  refine lv_goto (tgt := 2) hx hb d_Mod_step_36 (by decide) ?_
  refine lv_iload_n hx hb d_Mod_step_2 rfl (lv_at hl 0 rfl) ?_
  refine lv_iconst (v := 4) hx hb d_Mod_step_3 (by decide) ?_
  refine lv_icmp_ge (tgt := 39) hx hb d_Mod_step_4 (by decide) (fun c_811 => ?_) (fun c_811 => absurd c_811 (by decide))
  refine lv_aload_n hx hb d_Mod_step_39 rfl (lv_at hl 1 rfl) ?_
  refine va_get (D := D) (ci := 12) (v := .ref q562) (C := R_Mod) (T := F_Mod) (N := 19) hx hb htw i_Mod hown hC.1 hP 1 rfl rfl 3 (by decide) (htw _ k521) (fun _ h9 => h9) rfl d_Mod_step_40 ?_
  refine wc_i (wr := [(q601, .inl (cI, 4, .inl f810)), (h0, .inr (12, [.int 0, .int 1, .int 1, .ref q562, .ref q571, .ref q574, .ref q577, .ref q580, .ref q583, .ref q586, .int 0, .int (-1), .int 0, .int 0, .long 0, .ref q599, .ref q600, .ref q601, .ref q602])), (z569, .inl (cI, 4160, .inl z570))]) hC hP hD hS [2] [0, 1, 3] rfl rfl (by decide) (by decide) (va_runV (As := []) (rest := []) ⟨hx, hb, hml, hown, htw⟩ (c_Cnext_0 l D cI cL B _ q562 z565 z566 z567 z568 z569) (cwV 0 htw gV_Mod_143 rfl rfl rfl (by decide +kernel) ⟨Nat.le_of_ble_eq_true rfl, Nat.le_of_ble_eq_true rfl⟩) (wC_preV (As := []) hC hP hD hS [2] (by decide) rfl (q0 := 2) rfl rfl) rfl rfl hl.1 rfl (lv_room (Nat.le_of_ble_eq_true rfl)) d_Mod_step_43 ⟨Nat.le_of_ble_eq_true rfl, Nat.le_of_ble_eq_true rfl⟩) (fun r814 u812 H locs hw813 hP hD hS => ?_)
  obtain rfl : r814 = 0 := hw813
  have hP : va_P D classes [(q601, .inl (cI, 4, .inl f810)), (h0, .inr (12, [.int 0, .int 1, .int 1, .ref q562, .ref q571, .ref q574, .ref q577, .ref q580, .ref q583, .ref q586, .int 0, .int (-1), .int 0, .int 0, .long 0, .ref q599, .ref q600, .ref q601, .ref q602])), (z569, .inl (cI, 4160, .inl z570)), (q562, .inr (13, [.int 0, .ref z565, .int 1, .int 1, .ref z566, .int 0, .int 0, .int 0, .ref z567, .int 1, .int 0, .int 0, .int 0, .int 1, .int (-1), .int 0, .ref z568, .ref z569]))] H := hP
  have hD : va_D A [(q601, .inl (cI, 4, .inl f810)), (h0, .inr (12, [.int 0, .int 1, .int 1, .ref q562, .ref q571, .ref q574, .ref q577, .ref q580, .ref q583, .ref q586, .int 0, .int (-1), .int 0, .int 0, .long 0, .ref q599, .ref q600, .ref q601, .ref q602])), (z569, .inl (cI, 4160, .inl z570)), (q562, .inr (13, [.int 0, .ref z565, .int 1, .int 1, .ref z566, .int 0, .int 0, .int 0, .ref z567, .int 1, .int 0, .int 0, .int 0, .int 1, .int (-1), .int 0, .ref z568, .ref z569]))] := hD
  refine W.widen (k := 0) (n := 0) (by omega) (by omega) ?_
  refine lv_istore_n (lv' := [(1, .int 0), (0, .ref h0)]) hx hb d_Mod_step_46 rfl hl (by decide) rfl (fun ls hl => ?_)
  refine lv_iload_n hx hb d_Mod_step_47 rfl (lv_at hl 0 rfl) ?_
  refine lv_tableIn (off := 261) (tgt := 309) hx hb d_Mod_step_48 (by decide) (by decide) (by decide) (by decide) ?_
  refine lv_iconst (v := 1) hx hb d_Mod_step_309 (by decide) ?_
  refine W.widen (k := 0) (n := 0) (Nat.le_of_ble_eq_true rfl) (Nat.le_of_ble_eq_true rfl) ?_
  have hP9 := hP.sub (ws' := [(h0, .inr (12, [.int 0, .int 1, .int 1, .ref q562, .ref q571, .ref q574, .ref q577, .ref q580, .ref q583, .ref q586, .int 0, .int (-1), .int 0, .int 0, .long 0, .ref q599, .ref q600, .ref q601, .ref q602])), (q562, .inr (13, [.int 0, .ref z565, .int 1, .int 1, .ref z566, .int 0, .int 0, .int 0, .ref z567, .int 1, .int 0, .int 0, .int 0, .int 1, .int (-1), .int 0, .ref z568, .ref z569]))]) [1, 3] rfl
  have hD9 := hD.sub (ws' := [(h0, .inr (12, [.int 0, .int 1, .int 1, .ref q562, .ref q571, .ref q574, .ref q577, .ref q580, .ref q583, .ref q586, .int 0, .int (-1), .int 0, .int 0, .long 0, .ref q599, .ref q600, .ref q601, .ref q602])), (q562, .inr (13, [.int 0, .ref z565, .int 1, .int 1, .ref z566, .int 0, .int 0, .int 0, .ref z567, .int 1, .int 0, .int 0, .int 0, .int 1, .int (-1), .int 0, .ref z568, .ref z569]))]) [1, 3] (by decide) rfl
  exact W.zret (v := 1) hx hb hr (by decide) (fun t ht hW => ⟨⟨1, (), rfl, rfl, by rw [ht]; exact hP9, va_K.moved hW.alike hC.1, hD9⟩, hS.F ht⟩) hS.2.2 d_Mod_step_310

theorem d_Mod_run_0 : decode prog_14_method_12_code 0 = .ok (.aload_n 0, 1) := by decide +kernel
theorem d_Mod_run_1 : decode prog_14_method_12_code 1 = .ok (.iload_n 1, 1) := by decide +kernel
theorem d_Mod_run_2 : decode prog_14_method_12_code 2 = .ok (.ifCond .ge 7, 3) := by decide +kernel
theorem d_Mod_run_9 : decode prog_14_method_12_code 9 = .ok (.iconst 0, 1) := by decide +kernel
theorem d_Mod_run_10 : decode prog_14_method_12_code 10 = .ok (.iload_n 1, 1) := by decide +kernel
theorem d_Mod_run_11 : decode prog_14_method_12_code 11 = .ok (.ifCond .lt 17, 3) := by decide +kernel
theorem d_Mod_run_14 : decode prog_14_method_12_code 14 = .ok (.aload_n 0, 1) := by decide +kernel
theorem d_Mod_run_15 : decode prog_14_method_12_code 15 = .ok (.getfield 19, 3) := by decide +kernel
theorem d_Mod_run_18 : decode prog_14_method_12_code 18 = .ok (.getfield 132, 3) := by decide +kernel
theorem d_Mod_run_21 : decode prog_14_method_12_code 21 = .ok (.ifCond .eq 7, 3) := by decide +kernel
theorem d_Mod_run_28 : decode prog_14_method_12_code 28 = .ok (.iconst 0, 1) := by decide +kernel
theorem d_Mod_run_29 : decode prog_14_method_12_code 29 = .ok (.invokevirtual 94, 3) := by decide +kernel
theorem d_Mod_run_32 : decode prog_14_method_12_code 32 = .ok (.ifCond .eq 5, 3) := by decide +kernel
theorem d_Mod_run_37 : decode prog_14_method_12_code 37 = .ok (.iconst 0, 1) := by decide +kernel
theorem d_Mod_run_38 : decode prog_14_method_12_code 38 = .ok (.istore_n 2, 1) := by decide +kernel
theorem d_Mod_run_39 : decode prog_14_method_12_code 39 = .ok (.iload_n 2, 1) := by decide +kernel
theorem d_Mod_run_40 : decode prog_14_method_12_code 40 = .ok (.iload_n 1, 1) := by decide +kernel
theorem d_Mod_run_41 : decode prog_14_method_12_code 41 = .ok (.if_icmp .ge 26, 3) := by decide +kernel
theorem d_Mod_run_67 : decode prog_14_method_12_code 67 = .ok (.iload_n 2, 1) := by decide +kernel
theorem d_Mod_run_68 : decode prog_14_method_12_code 68 = .ok (.ireturn, 1) := by decide +kernel
set_option maxHeartbeats 4000000 in
set_option maxRecDepth 100000 in
theorem c_Mrun_0 (l : Launch) (D : va_G) (cI cL : ClassId) (B sz : Nat) (h0 : Nat) (q562 : Nat) (z565 : Nat) (z566 : Nat) (z567 : Nat) (z568 : Nat) (z569 : Nat) (q571 : Nat) (q574 : Nat) (q577 : Nat) (q580 : Nat) (q583 : Nat) (q586 : Nat) (q599 : Nat) (q600 : Nat) (q601 : Nat) (q602 : Nat) : Met l y_Mod_run ((Cond.code y_Mod_run prog_14_method_12_code 3 (some .int)) :: tw) ({ frames := 60, cells := 0, slots := 0, locals := 6000 }) (va_Pc [.ref h0, .int 0] (wP D cI cL B sz [(h0, .inr (12, [.int 0, .int 1, .int 1, .ref q562, .ref q571, .ref q574, .ref q577, .ref q580, .ref q583, .ref q586, .int 0, .int (-1), .int 0, .int 0, .long 0, .ref q599, .ref q600, .ref q601, .ref q602])), (q562, .inr (13, [.int 0, .ref z565, .int 1, .int 1, .ref z566, .int 0, .int 0, .int 0, .ref z567, .int 0, .int 0, .int (-1), .int (-1), .int 0, .int (-1), .int 0, .ref z568, .ref z569]))])) (va_Qi (S := Unit) (fun r u => r = 0) (fun u => wB D cI cL (va_A [(h0, .inr (12, [.int 0, .int 1, .int 1, .ref q562, .ref q571, .ref q574, .ref q577, .ref q580, .ref q583, .ref q586, .int 0, .int (-1), .int 0, .int 0, .long 0, .ref q599, .ref q600, .ref q601, .ref q602])), (q562, .inr (13, [.int 0, .ref z565, .int 1, .int 1, .ref z566, .int 0, .int 0, .int 0, .ref z567, .int 0, .int 0, .int (-1), .int (-1), .int 0, .int (-1), .int 0, .ref z568, .ref z569]))] sz) ((fun _ : Unit => [(h0, .inr (12, [.int 0, .int 1, .int 1, .ref q562, .ref q571, .ref q574, .ref q577, .ref q580, .ref q583, .ref q586, .int 0, .int (-1), .int 0, .int 0, .long 0, .ref q599, .ref q600, .ref q601, .ref q602]))]) u)) (va_A [(h0, .inr (12, [.int 0, .int 1, .int 1, .ref q562, .ref q571, .ref q574, .ref q577, .ref q580, .ref q583, .ref q586, .int 0, .int (-1), .int 0, .int 0, .long 0, .ref q599, .ref q600, .ref q601, .ref q602])), (q562, .inr (13, [.int 0, .ref z565, .int 1, .int 1, .ref z566, .int 0, .int 0, .int 0, .ref z567, .int 0, .int 0, .int (-1), .int (-1), .int 0, .int (-1), .int 0, .ref z568, .ref z569]))] sz)) 0 0 (va_A [(h0, .inr (12, [.int 0, .int 1, .int 1, .ref q562, .ref q571, .ref q574, .ref q577, .ref q580, .ref q583, .ref q586, .int 0, .int (-1), .int 0, .int 0, .long 0, .ref q599, .ref q600, .ref q601, .ref q602])), (q562, .inr (13, [.int 0, .ref z565, .int 1, .int 1, .ref z566, .int 0, .int 0, .int 0, .ref z567, .int 0, .int 0, .int (-1), .int (-1), .int 0, .int (-1), .int 0, .ref z568, .ref z569]))] sz) := by
  refine Met.ofW (cc := prog_14_method_12_code) (maxL := 3) (ret := (some .int)) (by decide) rfl ?_
  intro p e s m args below meth c s₁ B0 hml hv
  obtain ⟨rfl, hv⟩ := hv
  have hx := B0.exec
  have hb := B0.bytes
  have hr := B0.returns
  have hts := atoms_spec (ws := (Cond.code y_Mod_run prog_14_method_12_code 3 (some .int)) :: tw) B0.pre
  have htw : ∀ w ∈ tw, w.before _ s = true := fun w hw => hts w (List.mem_cons_of_mem _ hw)
  have hown : s.vm.findClass "DrawingMachineModel" = some m.cls := findClass_of_methodNamed B0.named
  have hlocks := B0.notSynchronized
  obtain ⟨hC, hP, hD, hsz⟩ := wC_init hv
  subst hsz
  generalize hAe : va_A [(h0, .inr (12, [.int 0, .int 1, .int 1, .ref q562, .ref q571, .ref q574, .ref q577, .ref q580, .ref q583, .ref q586, .int 0, .int (-1), .int 0, .int 0, .long 0, .ref q599, .ref q600, .ref q601, .ref q602])), (q562, .inr (13, [.int 0, .ref z565, .int 1, .int 1, .ref z566, .int 0, .int 0, .int 0, .ref z567, .int 0, .int 0, .int (-1), .int (-1), .int 0, .int (-1), .int 0, .ref z568, .ref z569]))] s.heap.size = A at hC hD ⊢
  have hS : va_S A s.heap s.heap [] := va_S.rf
  have hl := lv_entry ([.ref h0, .int 0]) (n := 3) (Nat.le_of_ble_eq_true rfl)
  rw [lg_entry_eq]
  generalize (lg_sl ([.ref h0, .int 0]) ++ List.replicate (3 - (lg_sl ([.ref h0, .int 0])).length) Slot.unset).toArray = ls at hl ⊢
  have hl : lv_has ls 3 [(0, .ref h0), (1, .int 0)] := hl
  refine lv_aload_n hx hb d_Mod_run_0 rfl (lv_at hl 0 rfl) ?_
  refine lv_iload_n hx hb d_Mod_run_1 rfl (lv_at hl 1 rfl) ?_
  refine lv_if_ge (tgt := 9) hx hb d_Mod_run_2 (by decide) (fun c_815 => ?_) (fun c_815 => absurd c_815 (by decide))
  refine lv_iconst (v := 0) hx hb d_Mod_run_9 (by decide) ?_
  refine lv_iload_n hx hb d_Mod_run_10 rfl (lv_at hl 1 rfl) ?_
  refine lv_if_lt (tgt := 28) hx hb d_Mod_run_11 (by decide) (fun c_816 => absurd c_816 (by decide)) (fun c_816 => ?_)
  refine lv_aload_n hx hb d_Mod_run_14 rfl (lv_at hl 0 rfl) ?_
  refine va_get (D := D) (ci := 12) (v := .ref q562) (C := R_Mod) (T := F_Mod) (N := 19) hx hb htw i_Mod hown hC.1 hP 0 rfl rfl 3 (by decide) (htw _ k521) (fun _ h9 => h9) rfl d_Mod_run_15 ?_
  refine va_getN (D := D) (ci := 13) (v := .int 0) (C := R_Cmd) (T := F_Cmd) (N := 18) hx hb htw i_Cmd hown hC.1 hP 1 rfl rfl 9 (by decide) (va_Nw.use rfl (hC.2.1.1 _ kn11)) (fun _ h9 => h9) rfl d_Mod_run_18 ?_
  refine lv_if_eq (tgt := 28) hx hb d_Mod_run_21 (by decide) (fun c_817 => ?_) (fun c_817 => absurd c_817 (by decide))
  refine lv_iconst (v := 0) hx hb d_Mod_run_28 (by decide) ?_
  refine wc_i (wr := [(q562, .inr (13, [.int 0, .ref z565, .int 1, .int 1, .ref z566, .int 0, .int 0, .int 0, .ref z567, .int 0, .int 0, .int (-1), .int (-1), .int 0, .int (-1), .int 0, .ref z568, .ref z569]))]) hC hP hD hS [0] [1] rfl rfl (by decide) (by decide) (va_runV (As := [.int 0, .int 0]) (rest := []) ⟨hx, hb, hml, hown, htw⟩ (c_Mref_00 l D cI cL B _ h0 q562 q571 q574 q577 q580 q583 q586 q599 q600 q601 q602) (cwV 2 htw gV_Mod_94 rfl rfl rfl (by decide +kernel) ⟨Nat.le_of_ble_eq_true rfl, Nat.le_of_ble_eq_true rfl⟩) (wC_preV (As := [.int 0, .int 0]) hC hP hD hS [0] (by decide) rfl (q0 := 0) rfl rfl) rfl rfl hl.1 rfl (lv_room (Nat.le_of_ble_eq_true rfl)) d_Mod_run_29 ⟨Nat.le_of_ble_eq_true rfl, Nat.le_of_ble_eq_true rfl⟩) (fun r820 u818 H locs hw819 hP hD hS => ?_)
  obtain rfl : r820 = 0 := hw819
  have hP : va_P D classes [(q562, .inr (13, [.int 0, .ref z565, .int 1, .int 1, .ref z566, .int 0, .int 0, .int 0, .ref z567, .int 0, .int 0, .int (-1), .int (-1), .int 0, .int (-1), .int 0, .ref z568, .ref z569])), (h0, .inr (12, [.int 0, .int 1, .int 1, .ref q562, .ref q571, .ref q574, .ref q577, .ref q580, .ref q583, .ref q586, .int 0, .int (-1), .int 0, .int 0, .long 0, .ref q599, .ref q600, .ref q601, .ref q602]))] H := hP
  have hD : va_D A [(q562, .inr (13, [.int 0, .ref z565, .int 1, .int 1, .ref z566, .int 0, .int 0, .int 0, .ref z567, .int 0, .int 0, .int (-1), .int (-1), .int 0, .int (-1), .int 0, .ref z568, .ref z569])), (h0, .inr (12, [.int 0, .int 1, .int 1, .ref q562, .ref q571, .ref q574, .ref q577, .ref q580, .ref q583, .ref q586, .int 0, .int (-1), .int 0, .int 0, .long 0, .ref q599, .ref q600, .ref q601, .ref q602]))] := hD
  refine W.widen (k := 0) (n := 0) (by omega) (by omega) ?_
  refine lv_if_eq (tgt := 37) hx hb d_Mod_run_32 (by decide) (fun c_821 => ?_) (fun c_821 => absurd c_821 (by decide))
  refine lv_iconst (v := 0) hx hb d_Mod_run_37 (by decide) ?_
  refine lv_istore_n (lv' := [(2, .int 0), (0, .ref h0), (1, .int 0)]) hx hb d_Mod_run_38 rfl hl (by decide) rfl (fun ls hl => ?_)
  refine lv_iload_n hx hb d_Mod_run_39 rfl (lv_at hl 0 rfl) ?_
  refine lv_iload_n hx hb d_Mod_run_40 rfl (lv_at hl 2 rfl) ?_
  refine lv_icmp_ge (tgt := 67) hx hb d_Mod_run_41 (by decide) (fun c_822 => ?_) (fun c_822 => absurd c_822 (by decide))
  refine lv_iload_n hx hb d_Mod_run_67 rfl (lv_at hl 0 rfl) ?_
  refine W.widen (k := 0) (n := 0) (Nat.le_of_ble_eq_true rfl) (Nat.le_of_ble_eq_true rfl) ?_
  have hP9 := hP.sub (ws' := [(h0, .inr (12, [.int 0, .int 1, .int 1, .ref q562, .ref q571, .ref q574, .ref q577, .ref q580, .ref q583, .ref q586, .int 0, .int (-1), .int 0, .int 0, .long 0, .ref q599, .ref q600, .ref q601, .ref q602]))]) [1] rfl
  have hD9 := hD.sub (ws' := [(h0, .inr (12, [.int 0, .int 1, .int 1, .ref q562, .ref q571, .ref q574, .ref q577, .ref q580, .ref q583, .ref q586, .int 0, .int (-1), .int 0, .int 0, .long 0, .ref q599, .ref q600, .ref q601, .ref q602]))]) [1] (by decide) rfl
  exact W.iret (v := 0) hx hb hr (fun t ht hW => ⟨⟨0, (), rfl, rfl, by rw [ht]; exact hP9, va_K.moved hW.alike hC.1, hD9⟩, hS.F ht⟩) hS.2.2 d_Mod_run_68

theorem d_Mod_run_44 : decode prog_14_method_12_code 44 = .ok (.aload_n 0, 1) := by decide +kernel
theorem d_Mod_run_45 : decode prog_14_method_12_code 45 = .ok (.getfield 19, 3) := by decide +kernel
theorem d_Mod_run_48 : decode prog_14_method_12_code 48 = .ok (.getfield 132, 3) := by decide +kernel
theorem d_Mod_run_51 : decode prog_14_method_12_code 51 = .ok (.ifCond .ne 16, 3) := by decide +kernel
theorem d_Mod_run_54 : decode prog_14_method_12_code 54 = .ok (.aload_n 0, 1) := by decide +kernel
theorem d_Mod_run_55 : decode prog_14_method_12_code 55 = .ok (.invokevirtual 136, 3) := by decide +kernel
theorem d_Mod_run_58 : decode prog_14_method_12_code 58 = .ok (.ifCond .eq 9, 3) := by decide +kernel
theorem d_Mod_run_61 : decode prog_14_method_12_code 61 = .ok (.iinc 2 1, 3) := by decide +kernel
theorem d_Mod_run_64 : decode prog_14_method_12_code 64 = .ok (.goto (-25), 3) := by decide +kernel
theorem gV_Mod_136 : GoodIn tw (wsV "DrawingMachineModel" 136 "DrawingMachineModel" y_Mod_step ((Cond.code y_Mod_step prog_14_method_13_code 2 (some .boolean)) :: tw)) := tw_pre (fun _ h => h) (tw_good (fun _ h => h) k668) (List.forall_mem_cons.mpr ⟨k666, List.forall_mem_cons.mpr ⟨k667, List.forall_mem_cons.mpr ⟨k1010, List.forall_mem_cons.mpr ⟨k116, fun _ h => absurd h List.not_mem_nil⟩⟩⟩⟩)
set_option maxHeartbeats 4000000 in
set_option maxRecDepth 100000 in
theorem c_Mrun_p (l : Launch) (D : va_G) (cI cL : ClassId) (B sz : Nat) (h0 : Nat) (q562 : Nat) (z565 : Nat) (z566 : Nat) (z567 : Nat) (z568 : Nat) (z569 : Nat) (z570 : Nat → Int32) (q571 : Nat) (q574 : Nat) (q577 : Nat) (q580 : Nat) (q583 : Nat) (q586 : Nat) (q599 : Nat) (q600 : Nat) (q601 : Nat) (q602 : Nat) (x : Int32) (hn : 0 < x) : Met l y_Mod_run ((Cond.code y_Mod_run prog_14_method_12_code 3 (some .int)) :: tw) ({ frames := 60, cells := 0, slots := 0, locals := 6000 }) (va_Pc [.ref h0, .int x] (wP D cI cL B sz [(h0, .inr (12, [.int 0, .int 1, .int 1, .ref q562, .ref q571, .ref q574, .ref q577, .ref q580, .ref q583, .ref q586, .int 0, .int (-1), .int 0, .int 0, .long 0, .ref q599, .ref q600, .ref q601, .ref q602])), (q562, .inr (13, [.int 0, .ref z565, .int 1, .int 1, .ref z566, .int 0, .int 0, .int 0, .ref z567, .int 0, .int 0, .int (-1), .int (-1), .int 0, .int (-1), .int 0, .ref z568, .ref z569])), (z569, .inl (cI, 4160, .inl z570)), (q601, .inl (cI, 4, .inl (fun _ => 0)))])) (va_Qi (S := Unit) (fun r u => r = 1) (fun u => wB D cI cL (va_A [(h0, .inr (12, [.int 0, .int 1, .int 1, .ref q562, .ref q571, .ref q574, .ref q577, .ref q580, .ref q583, .ref q586, .int 0, .int (-1), .int 0, .int 0, .long 0, .ref q599, .ref q600, .ref q601, .ref q602])), (q562, .inr (13, [.int 0, .ref z565, .int 1, .int 1, .ref z566, .int 0, .int 0, .int 0, .ref z567, .int 0, .int 0, .int (-1), .int (-1), .int 0, .int (-1), .int 0, .ref z568, .ref z569])), (z569, .inl (cI, 4160, .inl z570)), (q601, .inl (cI, 4, .inl (fun _ => 0)))] sz) ((fun _ : Unit => [(h0, .inr (12, [.int 0, .int 1, .int 1, .ref q562, .ref q571, .ref q574, .ref q577, .ref q580, .ref q583, .ref q586, .int 0, .int (-1), .int 0, .int 0, .long 0, .ref q599, .ref q600, .ref q601, .ref q602]))]) u)) (va_A [(h0, .inr (12, [.int 0, .int 1, .int 1, .ref q562, .ref q571, .ref q574, .ref q577, .ref q580, .ref q583, .ref q586, .int 0, .int (-1), .int 0, .int 0, .long 0, .ref q599, .ref q600, .ref q601, .ref q602])), (q562, .inr (13, [.int 0, .ref z565, .int 1, .int 1, .ref z566, .int 0, .int 0, .int 0, .ref z567, .int 0, .int 0, .int (-1), .int (-1), .int 0, .int (-1), .int 0, .ref z568, .ref z569])), (z569, .inl (cI, 4160, .inl z570)), (q601, .inl (cI, 4, .inl (fun _ => 0)))] sz)) 0 0 (va_A [(h0, .inr (12, [.int 0, .int 1, .int 1, .ref q562, .ref q571, .ref q574, .ref q577, .ref q580, .ref q583, .ref q586, .int 0, .int (-1), .int 0, .int 0, .long 0, .ref q599, .ref q600, .ref q601, .ref q602])), (q562, .inr (13, [.int 0, .ref z565, .int 1, .int 1, .ref z566, .int 0, .int 0, .int 0, .ref z567, .int 0, .int 0, .int (-1), .int (-1), .int 0, .int (-1), .int 0, .ref z568, .ref z569])), (z569, .inl (cI, 4160, .inl z570)), (q601, .inl (cI, 4, .inl (fun _ => 0)))] sz) := by
  refine Met.ofW (cc := prog_14_method_12_code) (maxL := 3) (ret := (some .int)) (by decide) rfl ?_
  intro p e s m args below meth c s₁ B0 hml hv
  obtain ⟨rfl, hv⟩ := hv
  have hx := B0.exec
  have hb := B0.bytes
  have hr := B0.returns
  have hts := atoms_spec (ws := (Cond.code y_Mod_run prog_14_method_12_code 3 (some .int)) :: tw) B0.pre
  have htw : ∀ w ∈ tw, w.before _ s = true := fun w hw => hts w (List.mem_cons_of_mem _ hw)
  have hown : s.vm.findClass "DrawingMachineModel" = some m.cls := findClass_of_methodNamed B0.named
  have hlocks := B0.notSynchronized
  obtain ⟨hC, hP, hD, hsz⟩ := wC_init hv
  subst hsz
  generalize hAe : va_A [(h0, .inr (12, [.int 0, .int 1, .int 1, .ref q562, .ref q571, .ref q574, .ref q577, .ref q580, .ref q583, .ref q586, .int 0, .int (-1), .int 0, .int 0, .long 0, .ref q599, .ref q600, .ref q601, .ref q602])), (q562, .inr (13, [.int 0, .ref z565, .int 1, .int 1, .ref z566, .int 0, .int 0, .int 0, .ref z567, .int 0, .int 0, .int (-1), .int (-1), .int 0, .int (-1), .int 0, .ref z568, .ref z569])), (z569, .inl (cI, 4160, .inl z570)), (q601, .inl (cI, 4, .inl (fun _ => 0)))] s.heap.size = A at hC hD ⊢
  have hS : va_S A s.heap s.heap [] := va_S.rf
  have hl := lv_entry ([.ref h0, .int x]) (n := 3) (Nat.le_of_ble_eq_true rfl)
  rw [lg_entry_eq]
  generalize (lg_sl ([.ref h0, .int x]) ++ List.replicate (3 - (lg_sl ([.ref h0, .int x])).length) Slot.unset).toArray = ls at hl ⊢
  have hl : lv_has ls 3 [(0, .ref h0), (1, .int x)] := hl
  refine lv_aload_n hx hb d_Mod_run_0 rfl (lv_at hl 0 rfl) ?_
  refine lv_iload_n hx hb d_Mod_run_1 rfl (lv_at hl 1 rfl) ?_
  refine lv_if_ge (tgt := 9) hx hb d_Mod_run_2 (by decide) (fun c_823 => ?_) (fun c_823 => absurd (Int32.le_of_lt hn) c_823)
  refine lv_iconst (v := 0) hx hb d_Mod_run_9 (by decide) ?_
  refine lv_iload_n hx hb d_Mod_run_10 rfl (lv_at hl 1 rfl) ?_
  refine lv_if_lt (tgt := 28) hx hb d_Mod_run_11 (by decide) (fun c_824 => absurd c_824 (Int32.not_lt.mpr (Int32.le_of_lt hn))) (fun c_824 => ?_)
  refine lv_aload_n hx hb d_Mod_run_14 rfl (lv_at hl 0 rfl) ?_
  refine va_get (D := D) (ci := 12) (v := .ref q562) (C := R_Mod) (T := F_Mod) (N := 19) hx hb htw i_Mod hown hC.1 hP 0 rfl rfl 3 (by decide) (htw _ k521) (fun _ h9 => h9) rfl d_Mod_run_15 ?_
  refine va_getN (D := D) (ci := 13) (v := .int 0) (C := R_Cmd) (T := F_Cmd) (N := 18) hx hb htw i_Cmd hown hC.1 hP 1 rfl rfl 9 (by decide) (va_Nw.use rfl (hC.2.1.1 _ kn11)) (fun _ h9 => h9) rfl d_Mod_run_18 ?_
  refine lv_if_eq (tgt := 28) hx hb d_Mod_run_21 (by decide) (fun c_825 => ?_) (fun c_825 => absurd c_825 (by decide))
  refine lv_iconst (v := 0) hx hb d_Mod_run_28 (by decide) ?_
  refine wc_i (wr := [(q562, .inr (13, [.int 0, .ref z565, .int 1, .int 1, .ref z566, .int 0, .int 0, .int 0, .ref z567, .int 0, .int 0, .int (-1), .int (-1), .int 0, .int (-1), .int 0, .ref z568, .ref z569])), (z569, .inl (cI, 4160, .inl z570)), (q601, .inl (cI, 4, .inl (fun _ => 0)))]) hC hP hD hS [0] [1, 2, 3] rfl rfl (by decide) (by decide) (va_runV (As := [.int 0, .int 0]) (rest := []) ⟨hx, hb, hml, hown, htw⟩ (c_Mref_00 l D cI cL B _ h0 q562 q571 q574 q577 q580 q583 q586 q599 q600 q601 q602) (cwV 2 htw gV_Mod_94 rfl rfl rfl (by decide +kernel) ⟨Nat.le_of_ble_eq_true rfl, Nat.le_of_ble_eq_true rfl⟩) (wC_preV (As := [.int 0, .int 0]) hC hP hD hS [0] (by decide) rfl (q0 := 0) rfl rfl) rfl rfl hl.1 rfl (lv_room (Nat.le_of_ble_eq_true rfl)) d_Mod_run_29 ⟨Nat.le_of_ble_eq_true rfl, Nat.le_of_ble_eq_true rfl⟩) (fun r828 u826 H locs hw827 hP hD hS => ?_)
  obtain rfl : r828 = 0 := hw827
  have hP : va_P D classes [(q562, .inr (13, [.int 0, .ref z565, .int 1, .int 1, .ref z566, .int 0, .int 0, .int 0, .ref z567, .int 0, .int 0, .int (-1), .int (-1), .int 0, .int (-1), .int 0, .ref z568, .ref z569])), (z569, .inl (cI, 4160, .inl z570)), (q601, .inl (cI, 4, .inl (fun _ => 0))), (h0, .inr (12, [.int 0, .int 1, .int 1, .ref q562, .ref q571, .ref q574, .ref q577, .ref q580, .ref q583, .ref q586, .int 0, .int (-1), .int 0, .int 0, .long 0, .ref q599, .ref q600, .ref q601, .ref q602]))] H := hP
  have hD : va_D A [(q562, .inr (13, [.int 0, .ref z565, .int 1, .int 1, .ref z566, .int 0, .int 0, .int 0, .ref z567, .int 0, .int 0, .int (-1), .int (-1), .int 0, .int (-1), .int 0, .ref z568, .ref z569])), (z569, .inl (cI, 4160, .inl z570)), (q601, .inl (cI, 4, .inl (fun _ => 0))), (h0, .inr (12, [.int 0, .int 1, .int 1, .ref q562, .ref q571, .ref q574, .ref q577, .ref q580, .ref q583, .ref q586, .int 0, .int (-1), .int 0, .int 0, .long 0, .ref q599, .ref q600, .ref q601, .ref q602]))] := hD
  refine W.widen (k := 0) (n := 0) (by omega) (by omega) ?_
  refine lv_if_eq (tgt := 37) hx hb d_Mod_run_32 (by decide) (fun c_829 => ?_) (fun c_829 => absurd c_829 (by decide))
  refine lv_iconst (v := 0) hx hb d_Mod_run_37 (by decide) ?_
  refine lv_istore_n (lv' := [(2, .int 0), (0, .ref h0), (1, .int x)]) hx hb d_Mod_run_38 rfl hl (by decide) rfl (fun ls hl => ?_)
  refine lv_iload_n hx hb d_Mod_run_39 rfl (lv_at hl 0 rfl) ?_
  refine lv_iload_n hx hb d_Mod_run_40 rfl (lv_at hl 2 rfl) ?_
  refine lv_icmp_ge (tgt := 67) hx hb d_Mod_run_41 (by decide) (fun c_830 => absurd c_830 (Int32.not_le.mpr hn)) (fun c_830 => ?_)
  refine lv_aload_n hx hb d_Mod_run_44 rfl (lv_at hl 1 rfl) ?_
  refine va_get (D := D) (ci := 12) (v := .ref q562) (C := R_Mod) (T := F_Mod) (N := 19) hx hb htw i_Mod hown hC.1 hP 3 rfl rfl 3 (by decide) (htw _ k521) (fun _ h9 => h9) rfl d_Mod_run_45 ?_
  refine va_getN (D := D) (ci := 13) (v := .int 0) (C := R_Cmd) (T := F_Cmd) (N := 18) hx hb htw i_Cmd hown hC.1 hP 0 rfl rfl 9 (by decide) (va_Nw.use rfl (hC.2.1.1 _ kn11)) (fun _ h9 => h9) rfl d_Mod_run_48 ?_
  refine lv_if_ne (tgt := 67) hx hb d_Mod_run_51 (by decide) (fun c_831 => absurd c_831 (by decide)) (fun c_831 => ?_)
  refine lv_aload_n hx hb d_Mod_run_54 rfl (lv_at hl 1 rfl) ?_
  refine wc_i (wr := []) hC hP hD hS [3, 0, 1, 2] [] rfl rfl (by decide) (by decide) (va_runV (As := []) (rest := []) ⟨hx, hb, hml, hown, htw⟩ (c_Mstep_0 l D cI cL B _ h0 q562 z565 z566 z567 z568 z569 z570 q571 q574 q577 q580 q583 q586 q599 q600 q601 q602) (cwV 0 htw gV_Mod_136 rfl rfl rfl (by decide +kernel) ⟨Nat.le_of_ble_eq_true rfl, Nat.le_of_ble_eq_true rfl⟩) (wC_preV (As := []) hC hP hD hS [3, 0, 1, 2] (by decide) rfl (q0 := 3) rfl rfl) rfl rfl hl.1 rfl (lv_room (Nat.le_of_ble_eq_true rfl)) d_Mod_run_55 ⟨Nat.le_of_ble_eq_true rfl, Nat.le_of_ble_eq_true rfl⟩) (fun r834 u832 H locs hw833 hP hD hS => ?_)
  obtain rfl : r834 = 1 := hw833
  have hP : va_P D classes [(h0, .inr (12, [.int 0, .int 1, .int 1, .ref q562, .ref q571, .ref q574, .ref q577, .ref q580, .ref q583, .ref q586, .int 0, .int (-1), .int 0, .int 0, .long 0, .ref q599, .ref q600, .ref q601, .ref q602])), (q562, .inr (13, [.int 0, .ref z565, .int 1, .int 1, .ref z566, .int 0, .int 0, .int 0, .ref z567, .int 1, .int 0, .int 0, .int 0, .int 1, .int (-1), .int 0, .ref z568, .ref z569]))] H := hP
  have hD : va_D A [(h0, .inr (12, [.int 0, .int 1, .int 1, .ref q562, .ref q571, .ref q574, .ref q577, .ref q580, .ref q583, .ref q586, .int 0, .int (-1), .int 0, .int 0, .long 0, .ref q599, .ref q600, .ref q601, .ref q602])), (q562, .inr (13, [.int 0, .ref z565, .int 1, .int 1, .ref z566, .int 0, .int 0, .int 0, .ref z567, .int 1, .int 0, .int 0, .int 0, .int 1, .int (-1), .int 0, .ref z568, .ref z569]))] := hD
  refine W.widen (k := 0) (n := 0) (by omega) (by omega) ?_
  refine lv_if_eq (tgt := 67) hx hb d_Mod_run_58 (by decide) (fun c_835 => absurd c_835 (by decide)) (fun c_835 => ?_)
  refine lv_iinc (v := 1) (lv' := [(2, .int 1), (0, .ref h0), (1, .int x)]) hx hb d_Mod_run_61 hl (k := 0) rfl (by decide) (by decide) rfl (fun ls hl => ?_)
  refine lv_goto (tgt := 39) hx hb d_Mod_run_64 (by decide) ?_
  refine lv_iload_n hx hb d_Mod_run_39 rfl (lv_at hl 0 rfl) ?_
  refine lv_iload_n hx hb d_Mod_run_40 rfl (lv_at hl 2 rfl) ?_
  refine lv_icmp_ge (tgt := 67) hx hb d_Mod_run_41 (by decide) (fun c_836 => ?_) (fun c_836 => ?_)
  ·
    refine lv_iload_n hx hb d_Mod_run_67 rfl (lv_at hl 0 rfl) ?_
    refine W.widen (k := 0) (n := 0) (Nat.le_of_ble_eq_true rfl) (Nat.le_of_ble_eq_true rfl) ?_
    have hP9 := hP.sub (ws' := [(h0, .inr (12, [.int 0, .int 1, .int 1, .ref q562, .ref q571, .ref q574, .ref q577, .ref q580, .ref q583, .ref q586, .int 0, .int (-1), .int 0, .int 0, .long 0, .ref q599, .ref q600, .ref q601, .ref q602]))]) [0] rfl
    have hD9 := hD.sub (ws' := [(h0, .inr (12, [.int 0, .int 1, .int 1, .ref q562, .ref q571, .ref q574, .ref q577, .ref q580, .ref q583, .ref q586, .int 0, .int (-1), .int 0, .int 0, .long 0, .ref q599, .ref q600, .ref q601, .ref q602]))]) [0] (by decide) rfl
    exact W.iret (v := 1) hx hb hr (fun t ht hW => ⟨⟨1, (), rfl, rfl, by rw [ht]; exact hP9, va_K.moved hW.alike hC.1, hD9⟩, hS.F ht⟩) hS.2.2 d_Mod_run_68
  ·
    refine lv_aload_n hx hb d_Mod_run_44 rfl (lv_at hl 1 rfl) ?_
    refine va_get (D := D) (ci := 12) (v := .ref q562) (C := R_Mod) (T := F_Mod) (N := 19) hx hb htw i_Mod hown hC.1 hP 0 rfl rfl 3 (by decide) (htw _ k521) (fun _ h9 => h9) rfl d_Mod_run_45 ?_
    refine va_getN (D := D) (ci := 13) (v := .int 1) (C := R_Cmd) (T := F_Cmd) (N := 18) hx hb htw i_Cmd hown hC.1 hP 1 rfl rfl 9 (by decide) (va_Nw.use rfl (hC.2.1.1 _ kn11)) (fun _ h9 => h9) rfl d_Mod_run_48 ?_
    refine lv_if_ne (tgt := 67) hx hb d_Mod_run_51 (by decide) (fun c_837 => ?_) (fun c_837 => absurd c_837 (by decide))
    refine lv_iload_n hx hb d_Mod_run_67 rfl (lv_at hl 0 rfl) ?_
    refine W.widen (k := 0) (n := 0) (Nat.le_of_ble_eq_true rfl) (Nat.le_of_ble_eq_true rfl) ?_
    have hP9 := hP.sub (ws' := [(h0, .inr (12, [.int 0, .int 1, .int 1, .ref q562, .ref q571, .ref q574, .ref q577, .ref q580, .ref q583, .ref q586, .int 0, .int (-1), .int 0, .int 0, .long 0, .ref q599, .ref q600, .ref q601, .ref q602]))]) [0] rfl
    have hD9 := hD.sub (ws' := [(h0, .inr (12, [.int 0, .int 1, .int 1, .ref q562, .ref q571, .ref q574, .ref q577, .ref q580, .ref q583, .ref q586, .int 0, .int (-1), .int 0, .int 0, .long 0, .ref q599, .ref q600, .ref q601, .ref q602]))]) [0] (by decide) rfl
    exact W.iret (v := 1) hx hb hr (fun t ht hW => ⟨⟨1, (), rfl, rfl, by rw [ht]; exact hP9, va_K.moved hW.alike hC.1, hD9⟩, hS.F ht⟩) hS.2.2 d_Mod_run_68

theorem d_Mod_run_5 : decode prog_14_method_12_code 5 = .ok (.iconst 1, 1) := by decide +kernel
theorem d_Mod_run_6 : decode prog_14_method_12_code 6 = .ok (.goto 4, 3) := by decide +kernel
theorem d_Mod_run_35 : decode prog_14_method_12_code 35 = .ok (.iconst 0, 1) := by decide +kernel
theorem d_Mod_run_36 : decode prog_14_method_12_code 36 = .ok (.ireturn, 1) := by decide +kernel
set_option maxHeartbeats 4000000 in
set_option maxRecDepth 100000 in
theorem c_Mrun_b (l : Launch) (D : va_G) (cI cL : ClassId) (B sz : Nat) (h0 : Nat) (q562 : Nat) (q571 : Nat) (q574 : Nat) (q577 : Nat) (q580 : Nat) (q583 : Nat) (q586 : Nat) (q599 : Nat) (q600 : Nat) (q601 : Nat) (q602 : Nat) (x : Int32) (hn : x < 0) : Met l y_Mod_run ((Cond.code y_Mod_run prog_14_method_12_code 3 (some .int)) :: tw) ({ frames := 60, cells := 0, slots := 0, locals := 6000 }) (va_Pc [.ref h0, .int x] (wP D cI cL B sz [(h0, .inr (12, [.int 0, .int 1, .int 1, .ref q562, .ref q571, .ref q574, .ref q577, .ref q580, .ref q583, .ref q586, .int 0, .int (-1), .int 0, .int 0, .long 0, .ref q599, .ref q600, .ref q601, .ref q602]))])) (va_Qi (S := Unit) (fun r u => r = 0) (fun u => wB D cI cL (va_A [(h0, .inr (12, [.int 0, .int 1, .int 1, .ref q562, .ref q571, .ref q574, .ref q577, .ref q580, .ref q583, .ref q586, .int 0, .int (-1), .int 0, .int 0, .long 0, .ref q599, .ref q600, .ref q601, .ref q602]))] sz) ((fun _ : Unit => [(h0, .inr (12, [.int 1, .int 1, .int 1, .ref q562, .ref q571, .ref q574, .ref q577, .ref q580, .ref q583, .ref q586, .int 0, .int (-1), .int 0, .int 0, .long 0, .ref q599, .ref q600, .ref q601, .ref q602]))]) u)) (va_A [(h0, .inr (12, [.int 0, .int 1, .int 1, .ref q562, .ref q571, .ref q574, .ref q577, .ref q580, .ref q583, .ref q586, .int 0, .int (-1), .int 0, .int 0, .long 0, .ref q599, .ref q600, .ref q601, .ref q602]))] sz)) 0 0 (va_A [(h0, .inr (12, [.int 0, .int 1, .int 1, .ref q562, .ref q571, .ref q574, .ref q577, .ref q580, .ref q583, .ref q586, .int 0, .int (-1), .int 0, .int 0, .long 0, .ref q599, .ref q600, .ref q601, .ref q602]))] sz) := by
  refine Met.ofW (cc := prog_14_method_12_code) (maxL := 3) (ret := (some .int)) (by decide) rfl ?_
  intro p e s m args below meth c s₁ B0 hml hv
  obtain ⟨rfl, hv⟩ := hv
  have hx := B0.exec
  have hb := B0.bytes
  have hr := B0.returns
  have hts := atoms_spec (ws := (Cond.code y_Mod_run prog_14_method_12_code 3 (some .int)) :: tw) B0.pre
  have htw : ∀ w ∈ tw, w.before _ s = true := fun w hw => hts w (List.mem_cons_of_mem _ hw)
  have hown : s.vm.findClass "DrawingMachineModel" = some m.cls := findClass_of_methodNamed B0.named
  have hlocks := B0.notSynchronized
  obtain ⟨hC, hP, hD, hsz⟩ := wC_init hv
  subst hsz
  generalize hAe : va_A [(h0, .inr (12, [.int 0, .int 1, .int 1, .ref q562, .ref q571, .ref q574, .ref q577, .ref q580, .ref q583, .ref q586, .int 0, .int (-1), .int 0, .int 0, .long 0, .ref q599, .ref q600, .ref q601, .ref q602]))] s.heap.size = A at hC hD ⊢
  have hS : va_S A s.heap s.heap [] := va_S.rf
  have hl := lv_entry ([.ref h0, .int x]) (n := 3) (Nat.le_of_ble_eq_true rfl)
  rw [lg_entry_eq]
  generalize (lg_sl ([.ref h0, .int x]) ++ List.replicate (3 - (lg_sl ([.ref h0, .int x])).length) Slot.unset).toArray = ls at hl ⊢
  have hl : lv_has ls 3 [(0, .ref h0), (1, .int x)] := hl
  refine lv_aload_n hx hb d_Mod_run_0 rfl (lv_at hl 0 rfl) ?_
  refine lv_iload_n hx hb d_Mod_run_1 rfl (lv_at hl 1 rfl) ?_
  refine lv_if_ge (tgt := 9) hx hb d_Mod_run_2 (by decide) (fun c_838 => absurd c_838 (Int32.not_le.mpr hn)) (fun c_838 => ?_)
  refine lv_iconst (v := 1) hx hb d_Mod_run_5 (by decide) ?_
  refine lv_goto (tgt := 10) hx hb d_Mod_run_6 (by decide) ?_
  refine lv_iload_n hx hb d_Mod_run_10 rfl (lv_at hl 1 rfl) ?_
  refine lv_if_lt (tgt := 28) hx hb d_Mod_run_11 (by decide) (fun c_839 => ?_) (fun c_839 => absurd hn c_839)
  refine lv_iconst (v := 0) hx hb d_Mod_run_28 (by decide) ?_
  refine wc_i (wr := []) hC hP hD hS [0] [] rfl rfl (by decide) (by decide) (va_runV (As := [.int 1, .int 0]) (rest := []) ⟨hx, hb, hml, hown, htw⟩ (c_Mref_10 l D cI cL B _ h0 q562 q571 q574 q577 q580 q583 q586 q599 q600 q601 q602) (cwV 2 htw gV_Mod_94 rfl rfl rfl (by decide +kernel) ⟨Nat.le_of_ble_eq_true rfl, Nat.le_of_ble_eq_true rfl⟩) (wC_preV (As := [.int 1, .int 0]) hC hP hD hS [0] (by decide) rfl (q0 := 0) rfl rfl) rfl rfl hl.1 rfl (lv_room (Nat.le_of_ble_eq_true rfl)) d_Mod_run_29 ⟨Nat.le_of_ble_eq_true rfl, Nat.le_of_ble_eq_true rfl⟩) (fun r842 u840 H locs hw841 hP hD hS => ?_)
  obtain rfl : r842 = 1 := hw841
  have hP : va_P D classes [(h0, .inr (12, [.int 1, .int 1, .int 1, .ref q562, .ref q571, .ref q574, .ref q577, .ref q580, .ref q583, .ref q586, .int 0, .int (-1), .int 0, .int 0, .long 0, .ref q599, .ref q600, .ref q601, .ref q602]))] H := hP
  have hD : va_D A [(h0, .inr (12, [.int 1, .int 1, .int 1, .ref q562, .ref q571, .ref q574, .ref q577, .ref q580, .ref q583, .ref q586, .int 0, .int (-1), .int 0, .int 0, .long 0, .ref q599, .ref q600, .ref q601, .ref q602]))] := hD
  refine W.widen (k := 0) (n := 0) (by omega) (by omega) ?_
  refine lv_if_eq (tgt := 37) hx hb d_Mod_run_32 (by decide) (fun c_843 => absurd c_843 (by decide)) (fun c_843 => ?_)
  refine lv_iconst (v := 0) hx hb d_Mod_run_35 (by decide) ?_
  refine W.widen (k := 0) (n := 0) (Nat.le_of_ble_eq_true rfl) (Nat.le_of_ble_eq_true rfl) ?_
  have hP9 := hP.sub (ws' := [(h0, .inr (12, [.int 1, .int 1, .int 1, .ref q562, .ref q571, .ref q574, .ref q577, .ref q580, .ref q583, .ref q586, .int 0, .int (-1), .int 0, .int 0, .long 0, .ref q599, .ref q600, .ref q601, .ref q602]))]) [0] rfl
  have hD9 := hD.sub (ws' := [(h0, .inr (12, [.int 1, .int 1, .int 1, .ref q562, .ref q571, .ref q574, .ref q577, .ref q580, .ref q583, .ref q586, .int 0, .int (-1), .int 0, .int 0, .long 0, .ref q599, .ref q600, .ref q601, .ref q602]))]) [0] (by decide) rfl
  exact W.iret (v := 0) hx hb hr (fun t ht hW => ⟨⟨0, (), rfl, rfl, by rw [ht]; exact hP9, va_K.moved hW.alike hC.1, hD9⟩, hS.F ht⟩) hS.2.2 d_Mod_run_36

theorem d_Cmd_about_0 : decode prog_15_method_31_code 0 = .ok (.aload_n 0, 1) := by decide +kernel
theorem d_Cmd_about_1 : decode prog_15_method_31_code 1 = .ok (.iload_n 1, 1) := by decide +kernel
theorem d_Cmd_about_2 : decode prog_15_method_31_code 2 = .ok (.i2l, 1) := by decide +kernel
theorem d_Cmd_about_3 : decode prog_15_method_31_code 3 = .ok (.lconst 0, 1) := by decide +kernel
theorem d_Cmd_about_4 : decode prog_15_method_31_code 4 = .ok (.ldc2_w 186, 3) := by decide +kernel
theorem d_Cmd_about_7 : decode prog_15_method_31_code 7 = .ok (.invokestatic 51, 3) := by decide +kernel
theorem d_Cmd_about_10 : decode prog_15_method_31_code 10 = .ok (.ifCond .ne 7, 3) := by decide +kernel
theorem d_Cmd_about_17 : decode prog_15_method_31_code 17 = .ok (.iconst 0, 1) := by decide +kernel
theorem d_Cmd_about_18 : decode prog_15_method_31_code 18 = .ok (.invokevirtual 120, 3) := by decide +kernel
theorem d_Cmd_about_21 : decode prog_15_method_31_code 21 = .ok (.ifCond .eq 5, 3) := by decide +kernel
theorem d_Cmd_about_26 : decode prog_15_method_31_code 26 = .ok (.iload_n 1, 1) := by decide +kernel
theorem d_Cmd_about_27 : decode prog_15_method_31_code 27 = .ok (.tableswitch 75 0 5 #[37, 50, 55, 60, 65, 70], 37) := by decide +kernel
theorem d_Cmd_about_64 : decode prog_15_method_31_code 64 = .ok (.aload_n 0, 1) := by decide +kernel
theorem d_Cmd_about_65 : decode prog_15_method_31_code 65 = .ok (.getfield 133, 3) := by decide +kernel
theorem d_Cmd_about_68 : decode prog_15_method_31_code 68 = .ok (.ifCond .eq 7, 3) := by decide +kernel
theorem d_Cmd_about_75 : decode prog_15_method_31_code 75 = .ok (.iconst 0, 1) := by decide +kernel
theorem d_Cmd_about_76 : decode prog_15_method_31_code 76 = .ok (.ireturn, 1) := by decide +kernel
set_option maxHeartbeats 4000000 in
set_option maxRecDepth 100000 in
theorem c_Cabout_0 (l : Launch) (D : va_G) (cI cL : ClassId) (B sz : Nat) (q562 : Nat) (z565 : Nat) (z566 : Nat) (z567 : Nat) (z568 : Nat) (z569 : Nat) : Met l y_Cmd_about ((Cond.code y_Cmd_about prog_15_method_31_code 2 (some .int)) :: tw) ({ frames := 30, cells := 0, slots := 0, locals := 3000 }) (va_Pc [.ref q562, .int 0] (wP D cI cL B sz [(q562, .inr (13, [.int 0, .ref z565, .int 1, .int 1, .ref z566, .int 0, .int 0, .int 0, .ref z567, .int 0, .int 0, .int (-1), .int (-1), .int 0, .int (-1), .int 0, .ref z568, .ref z569]))])) (va_Qi (S := Unit) (fun r u => r = 0) (fun u => wB D cI cL (va_A [(q562, .inr (13, [.int 0, .ref z565, .int 1, .int 1, .ref z566, .int 0, .int 0, .int 0, .ref z567, .int 0, .int 0, .int (-1), .int (-1), .int 0, .int (-1), .int 0, .ref z568, .ref z569]))] sz) ((fun _ : Unit => []) u)) (va_A [(q562, .inr (13, [.int 0, .ref z565, .int 1, .int 1, .ref z566, .int 0, .int 0, .int 0, .ref z567, .int 0, .int 0, .int (-1), .int (-1), .int 0, .int (-1), .int 0, .ref z568, .ref z569]))] sz)) 0 0 (va_A [(q562, .inr (13, [.int 0, .ref z565, .int 1, .int 1, .ref z566, .int 0, .int 0, .int 0, .ref z567, .int 0, .int 0, .int (-1), .int (-1), .int 0, .int (-1), .int 0, .ref z568, .ref z569]))] sz) := by
  refine Met.ofW (cc := prog_15_method_31_code) (maxL := 2) (ret := (some .int)) (by decide) rfl ?_
  intro p e s m args below meth c s₁ B0 hml hv
  obtain ⟨rfl, hv⟩ := hv
  have hx := B0.exec
  have hb := B0.bytes
  have hr := B0.returns
  have hts := atoms_spec (ws := (Cond.code y_Cmd_about prog_15_method_31_code 2 (some .int)) :: tw) B0.pre
  have htw : ∀ w ∈ tw, w.before _ s = true := fun w hw => hts w (List.mem_cons_of_mem _ hw)
  have hown : s.vm.findClass "DrawingMachineModel$DrawCommandsModel" = some m.cls := findClass_of_methodNamed B0.named
  have hlocks := B0.notSynchronized
  obtain ⟨hC, hP, hD, hsz⟩ := wC_init hv
  subst hsz
  generalize hAe : va_A [(q562, .inr (13, [.int 0, .ref z565, .int 1, .int 1, .ref z566, .int 0, .int 0, .int 0, .ref z567, .int 0, .int 0, .int (-1), .int (-1), .int 0, .int (-1), .int 0, .ref z568, .ref z569]))] s.heap.size = A at hC hD ⊢
  have hS : va_S A s.heap s.heap [] := va_S.rf
  have hl := lv_entry ([.ref q562, .int 0]) (n := 2) (Nat.le_of_ble_eq_true rfl)
  rw [lg_entry_eq]
  generalize (lg_sl ([.ref q562, .int 0]) ++ List.replicate (2 - (lg_sl ([.ref q562, .int 0])).length) Slot.unset).toArray = ls at hl ⊢
  have hl : lv_has ls 2 [(0, .ref q562), (1, .int 0)] := hl
  refine lv_aload_n hx hb d_Cmd_about_0 rfl (lv_at hl 0 rfl) ?_
  refine lv_iload_n hx hb d_Cmd_about_1 rfl (lv_at hl 1 rfl) ?_
  refine lv_i2l (v := 0) hx hb d_Cmd_about_2 (by decide) ?_
  refine lv_lconst (v := 0) hx hb d_Cmd_about_3 (by decide) ?_
  refine lv_ldc2 (v := 6) hx hb hown (htw _ k742) d_Cmd_about_4 ?_
  refine wc_i (wr := [(q562, .inr (13, [.int 0, .ref z565, .int 1, .int 1, .ref z566, .int 0, .int 0, .int 0, .ref z567, .int 0, .int 0, .int (-1), .int (-1), .int 0, .int (-1), .int 0, .ref z568, .ref z569]))]) hC hP hD hS [] [0] rfl rfl (by decide) (by decide) (va_runS (As := [.long 0, .long 0, .long 6]) (rest := [.ref q562]) ⟨hx, hb, hml, hown, htw⟩ (c_Cmd_in_t l D cI cL B _ 0 0 6 (by decide) (by decide)) (va_cwS 3 htw gS_Cmd_51 rfl rfl rfl (by decide +kernel) ⟨Nat.le_of_ble_eq_true rfl, Nat.le_of_ble_eq_true rfl⟩) (wC_pre hC hP hD hS [] (by decide) rfl) rfl rfl hl.1 rfl (lv_room (Nat.le_of_ble_eq_true rfl)) d_Cmd_about_7 ⟨Nat.le_of_ble_eq_true rfl, Nat.le_of_ble_eq_true rfl⟩) (fun r846 u844 H locs hw845 hP hD hS => ?_)
  obtain rfl : r846 = 1 := hw845
  have hP : va_P D classes [(q562, .inr (13, [.int 0, .ref z565, .int 1, .int 1, .ref z566, .int 0, .int 0, .int 0, .ref z567, .int 0, .int 0, .int (-1), .int (-1), .int 0, .int (-1), .int 0, .ref z568, .ref z569]))] H := hP
  have hD : va_D A [(q562, .inr (13, [.int 0, .ref z565, .int 1, .int 1, .ref z566, .int 0, .int 0, .int 0, .ref z567, .int 0, .int 0, .int (-1), .int (-1), .int 0, .int (-1), .int 0, .ref z568, .ref z569]))] := hD
  refine W.widen (k := 0) (n := 0) (by omega) (by omega) ?_
  refine lv_if_ne (tgt := 17) hx hb d_Cmd_about_10 (by decide) (fun c_847 => ?_) (fun c_847 => absurd c_847 (by decide))
  refine lv_iconst (v := 0) hx hb d_Cmd_about_17 (by decide) ?_
  refine wc_i (wr := []) hC hP hD hS [0] [] rfl rfl (by decide) (by decide) (va_runV (As := [.int 0]) (rest := []) ⟨hx, hb, hml, hown, htw⟩ (c_Cref_0 l D cI cL B _ q562 z565 z566 z567 z568 z569 0) (cwV 1 htw gV_Cmd_120 rfl rfl rfl (by decide +kernel) ⟨Nat.le_of_ble_eq_true rfl, Nat.le_of_ble_eq_true rfl⟩) (wC_preV (As := [.int 0]) hC hP hD hS [0] (by decide) rfl (q0 := 0) rfl rfl) rfl rfl hl.1 rfl (lv_room (Nat.le_of_ble_eq_true rfl)) d_Cmd_about_18 ⟨Nat.le_of_ble_eq_true rfl, Nat.le_of_ble_eq_true rfl⟩) (fun r850 u848 H locs hw849 hP hD hS => ?_)
  obtain rfl : r850 = 0 := hw849
  have hP : va_P D classes [(q562, .inr (13, [.int 0, .ref z565, .int 1, .int 1, .ref z566, .int 0, .int 0, .int 0, .ref z567, .int 0, .int 0, .int (-1), .int (-1), .int 0, .int (-1), .int 0, .ref z568, .ref z569]))] H := hP
  have hD : va_D A [(q562, .inr (13, [.int 0, .ref z565, .int 1, .int 1, .ref z566, .int 0, .int 0, .int 0, .ref z567, .int 0, .int 0, .int (-1), .int (-1), .int 0, .int (-1), .int 0, .ref z568, .ref z569]))] := hD
  refine W.widen (k := 0) (n := 0) (by omega) (by omega) ?_
  refine lv_if_eq (tgt := 26) hx hb d_Cmd_about_21 (by decide) (fun c_851 => ?_) (fun c_851 => absurd c_851 (by decide))
  refine lv_iload_n hx hb d_Cmd_about_26 rfl (lv_at hl 1 rfl) ?_
  refine lv_tableIn (off := 37) (tgt := 64) hx hb d_Cmd_about_27 (by decide) (by decide) (by decide) (by decide) ?_
  refine lv_aload_n hx hb d_Cmd_about_64 rfl (lv_at hl 0 rfl) ?_
  refine va_get (D := D) (ci := 13) (v := .int 0) (C := R_Cmd) (T := F_Cmd) (N := 18) hx hb htw i_Cmd hown hC.1 hP 0 rfl rfl 9 (by decide) (htw _ k722) (fun _ h9 => h9) rfl d_Cmd_about_65 ?_
  refine lv_if_eq (tgt := 75) hx hb d_Cmd_about_68 (by decide) (fun c_852 => ?_) (fun c_852 => absurd c_852 (by decide))
  refine lv_iconst (v := 0) hx hb d_Cmd_about_75 (by decide) ?_
  refine W.widen (k := 0) (n := 0) (Nat.le_of_ble_eq_true rfl) (Nat.le_of_ble_eq_true rfl) ?_
  have hP9 := hP.sub (ws' := []) [] rfl
  have hD9 := hD.sub (ws' := []) [] (by decide) rfl
  exact W.iret (v := 0) hx hb hr (fun t ht hW => ⟨⟨0, (), rfl, rfl, by rw [ht]; exact hP9, va_K.moved hW.alike hC.1, hD9⟩, hS.F ht⟩) hS.2.2 d_Cmd_about_76

theorem d_Cmd_about_77 : decode prog_15_method_31_code 77 = .ok (.aload_n 0, 1) := by decide +kernel
theorem d_Cmd_about_78 : decode prog_15_method_31_code 78 = .ok (.getfield 137, 3) := by decide +kernel
theorem d_Cmd_about_81 : decode prog_15_method_31_code 81 = .ok (.ireturn, 1) := by decide +kernel
set_option maxHeartbeats 4000000 in
set_option maxRecDepth 100000 in
theorem c_Cabout_1 (l : Launch) (D : va_G) (cI cL : ClassId) (B sz : Nat) (q562 : Nat) (z565 : Nat) (z566 : Nat) (z567 : Nat) (z568 : Nat) (z569 : Nat) : Met l y_Cmd_about ((Cond.code y_Cmd_about prog_15_method_31_code 2 (some .int)) :: tw) ({ frames := 30, cells := 0, slots := 0, locals := 3000 }) (va_Pc [.ref q562, .int 1] (wP D cI cL B sz [(q562, .inr (13, [.int 0, .ref z565, .int 1, .int 1, .ref z566, .int 0, .int 0, .int 0, .ref z567, .int 0, .int 0, .int (-1), .int (-1), .int 0, .int (-1), .int 0, .ref z568, .ref z569]))])) (va_Qi (S := Unit) (fun r u => r = 0) (fun u => wB D cI cL (va_A [(q562, .inr (13, [.int 0, .ref z565, .int 1, .int 1, .ref z566, .int 0, .int 0, .int 0, .ref z567, .int 0, .int 0, .int (-1), .int (-1), .int 0, .int (-1), .int 0, .ref z568, .ref z569]))] sz) ((fun _ : Unit => []) u)) (va_A [(q562, .inr (13, [.int 0, .ref z565, .int 1, .int 1, .ref z566, .int 0, .int 0, .int 0, .ref z567, .int 0, .int 0, .int (-1), .int (-1), .int 0, .int (-1), .int 0, .ref z568, .ref z569]))] sz)) 0 0 (va_A [(q562, .inr (13, [.int 0, .ref z565, .int 1, .int 1, .ref z566, .int 0, .int 0, .int 0, .ref z567, .int 0, .int 0, .int (-1), .int (-1), .int 0, .int (-1), .int 0, .ref z568, .ref z569]))] sz) := by
  refine Met.ofW (cc := prog_15_method_31_code) (maxL := 2) (ret := (some .int)) (by decide) rfl ?_
  intro p e s m args below meth c s₁ B0 hml hv
  obtain ⟨rfl, hv⟩ := hv
  have hx := B0.exec
  have hb := B0.bytes
  have hr := B0.returns
  have hts := atoms_spec (ws := (Cond.code y_Cmd_about prog_15_method_31_code 2 (some .int)) :: tw) B0.pre
  have htw : ∀ w ∈ tw, w.before _ s = true := fun w hw => hts w (List.mem_cons_of_mem _ hw)
  have hown : s.vm.findClass "DrawingMachineModel$DrawCommandsModel" = some m.cls := findClass_of_methodNamed B0.named
  have hlocks := B0.notSynchronized
  obtain ⟨hC, hP, hD, hsz⟩ := wC_init hv
  subst hsz
  generalize hAe : va_A [(q562, .inr (13, [.int 0, .ref z565, .int 1, .int 1, .ref z566, .int 0, .int 0, .int 0, .ref z567, .int 0, .int 0, .int (-1), .int (-1), .int 0, .int (-1), .int 0, .ref z568, .ref z569]))] s.heap.size = A at hC hD ⊢
  have hS : va_S A s.heap s.heap [] := va_S.rf
  have hl := lv_entry ([.ref q562, .int 1]) (n := 2) (Nat.le_of_ble_eq_true rfl)
  rw [lg_entry_eq]
  generalize (lg_sl ([.ref q562, .int 1]) ++ List.replicate (2 - (lg_sl ([.ref q562, .int 1])).length) Slot.unset).toArray = ls at hl ⊢
  have hl : lv_has ls 2 [(0, .ref q562), (1, .int 1)] := hl
  refine lv_aload_n hx hb d_Cmd_about_0 rfl (lv_at hl 0 rfl) ?_
  refine lv_iload_n hx hb d_Cmd_about_1 rfl (lv_at hl 1 rfl) ?_
  refine lv_i2l (v := 1) hx hb d_Cmd_about_2 (by decide) ?_
  refine lv_lconst (v := 0) hx hb d_Cmd_about_3 (by decide) ?_
  refine lv_ldc2 (v := 6) hx hb hown (htw _ k742) d_Cmd_about_4 ?_
  refine wc_i (wr := [(q562, .inr (13, [.int 0, .ref z565, .int 1, .int 1, .ref z566, .int 0, .int 0, .int 0, .ref z567, .int 0, .int 0, .int (-1), .int (-1), .int 0, .int (-1), .int 0, .ref z568, .ref z569]))]) hC hP hD hS [] [0] rfl rfl (by decide) (by decide) (va_runS (As := [.long 1, .long 0, .long 6]) (rest := [.ref q562]) ⟨hx, hb, hml, hown, htw⟩ (c_Cmd_in_t l D cI cL B _ 1 0 6 (by decide) (by decide)) (va_cwS 3 htw gS_Cmd_51 rfl rfl rfl (by decide +kernel) ⟨Nat.le_of_ble_eq_true rfl, Nat.le_of_ble_eq_true rfl⟩) (wC_pre hC hP hD hS [] (by decide) rfl) rfl rfl hl.1 rfl (lv_room (Nat.le_of_ble_eq_true rfl)) d_Cmd_about_7 ⟨Nat.le_of_ble_eq_true rfl, Nat.le_of_ble_eq_true rfl⟩) (fun r855 u853 H locs hw854 hP hD hS => ?_)
  obtain rfl : r855 = 1 := hw854
  have hP : va_P D classes [(q562, .inr (13, [.int 0, .ref z565, .int 1, .int 1, .ref z566, .int 0, .int 0, .int 0, .ref z567, .int 0, .int 0, .int (-1), .int (-1), .int 0, .int (-1), .int 0, .ref z568, .ref z569]))] H := hP
  have hD : va_D A [(q562, .inr (13, [.int 0, .ref z565, .int 1, .int 1, .ref z566, .int 0, .int 0, .int 0, .ref z567, .int 0, .int 0, .int (-1), .int (-1), .int 0, .int (-1), .int 0, .ref z568, .ref z569]))] := hD
  refine W.widen (k := 0) (n := 0) (by omega) (by omega) ?_
  refine lv_if_ne (tgt := 17) hx hb d_Cmd_about_10 (by decide) (fun c_856 => ?_) (fun c_856 => absurd c_856 (by decide))
  refine lv_iconst (v := 0) hx hb d_Cmd_about_17 (by decide) ?_
  refine wc_i (wr := []) hC hP hD hS [0] [] rfl rfl (by decide) (by decide) (va_runV (As := [.int 0]) (rest := []) ⟨hx, hb, hml, hown, htw⟩ (c_Cref_0 l D cI cL B _ q562 z565 z566 z567 z568 z569 0) (cwV 1 htw gV_Cmd_120 rfl rfl rfl (by decide +kernel) ⟨Nat.le_of_ble_eq_true rfl, Nat.le_of_ble_eq_true rfl⟩) (wC_preV (As := [.int 0]) hC hP hD hS [0] (by decide) rfl (q0 := 0) rfl rfl) rfl rfl hl.1 rfl (lv_room (Nat.le_of_ble_eq_true rfl)) d_Cmd_about_18 ⟨Nat.le_of_ble_eq_true rfl, Nat.le_of_ble_eq_true rfl⟩) (fun r859 u857 H locs hw858 hP hD hS => ?_)
  obtain rfl : r859 = 0 := hw858
  have hP : va_P D classes [(q562, .inr (13, [.int 0, .ref z565, .int 1, .int 1, .ref z566, .int 0, .int 0, .int 0, .ref z567, .int 0, .int 0, .int (-1), .int (-1), .int 0, .int (-1), .int 0, .ref z568, .ref z569]))] H := hP
  have hD : va_D A [(q562, .inr (13, [.int 0, .ref z565, .int 1, .int 1, .ref z566, .int 0, .int 0, .int 0, .ref z567, .int 0, .int 0, .int (-1), .int (-1), .int 0, .int (-1), .int 0, .ref z568, .ref z569]))] := hD
  refine W.widen (k := 0) (n := 0) (by omega) (by omega) ?_
  refine lv_if_eq (tgt := 26) hx hb d_Cmd_about_21 (by decide) (fun c_860 => ?_) (fun c_860 => absurd c_860 (by decide))
  refine lv_iload_n hx hb d_Cmd_about_26 rfl (lv_at hl 1 rfl) ?_
  refine lv_tableIn (off := 50) (tgt := 77) hx hb d_Cmd_about_27 (by decide) (by decide) (by decide) (by decide) ?_
  refine lv_aload_n hx hb d_Cmd_about_77 rfl (lv_at hl 0 rfl) ?_
  refine va_get (D := D) (ci := 13) (v := .int 0) (C := R_Cmd) (T := F_Cmd) (N := 18) hx hb htw i_Cmd hown hC.1 hP 0 rfl rfl 10 (by decide) (htw _ k723) (fun _ h9 => h9) rfl d_Cmd_about_78 ?_
  refine W.widen (k := 0) (n := 0) (Nat.le_of_ble_eq_true rfl) (Nat.le_of_ble_eq_true rfl) ?_
  have hP9 := hP.sub (ws' := []) [] rfl
  have hD9 := hD.sub (ws' := []) [] (by decide) rfl
  exact W.iret (v := 0) hx hb hr (fun t ht hW => ⟨⟨0, (), rfl, rfl, by rw [ht]; exact hP9, va_K.moved hW.alike hC.1, hD9⟩, hS.F ht⟩) hS.2.2 d_Cmd_about_81

theorem d_Cmd_about_82 : decode prog_15_method_31_code 82 = .ok (.aload_n 0, 1) := by decide +kernel
theorem d_Cmd_about_83 : decode prog_15_method_31_code 83 = .ok (.getfield 26, 3) := by decide +kernel
theorem d_Cmd_about_86 : decode prog_15_method_31_code 86 = .ok (.ireturn, 1) := by decide +kernel
set_option maxHeartbeats 4000000 in
set_option maxRecDepth 100000 in
theorem c_Cabout_2 (l : Launch) (D : va_G) (cI cL : ClassId) (B sz : Nat) (q562 : Nat) (z565 : Nat) (z566 : Nat) (z567 : Nat) (z568 : Nat) (z569 : Nat) : Met l y_Cmd_about ((Cond.code y_Cmd_about prog_15_method_31_code 2 (some .int)) :: tw) ({ frames := 30, cells := 0, slots := 0, locals := 3000 }) (va_Pc [.ref q562, .int 2] (wP D cI cL B sz [(q562, .inr (13, [.int 0, .ref z565, .int 1, .int 1, .ref z566, .int 0, .int 0, .int 0, .ref z567, .int 0, .int 0, .int (-1), .int (-1), .int 0, .int (-1), .int 0, .ref z568, .ref z569]))])) (va_Qi (S := Unit) (fun r u => r = (-1)) (fun u => wB D cI cL (va_A [(q562, .inr (13, [.int 0, .ref z565, .int 1, .int 1, .ref z566, .int 0, .int 0, .int 0, .ref z567, .int 0, .int 0, .int (-1), .int (-1), .int 0, .int (-1), .int 0, .ref z568, .ref z569]))] sz) ((fun _ : Unit => []) u)) (va_A [(q562, .inr (13, [.int 0, .ref z565, .int 1, .int 1, .ref z566, .int 0, .int 0, .int 0, .ref z567, .int 0, .int 0, .int (-1), .int (-1), .int 0, .int (-1), .int 0, .ref z568, .ref z569]))] sz)) 0 0 (va_A [(q562, .inr (13, [.int 0, .ref z565, .int 1, .int 1, .ref z566, .int 0, .int 0, .int 0, .ref z567, .int 0, .int 0, .int (-1), .int (-1), .int 0, .int (-1), .int 0, .ref z568, .ref z569]))] sz) := by
  refine Met.ofW (cc := prog_15_method_31_code) (maxL := 2) (ret := (some .int)) (by decide) rfl ?_
  intro p e s m args below meth c s₁ B0 hml hv
  obtain ⟨rfl, hv⟩ := hv
  have hx := B0.exec
  have hb := B0.bytes
  have hr := B0.returns
  have hts := atoms_spec (ws := (Cond.code y_Cmd_about prog_15_method_31_code 2 (some .int)) :: tw) B0.pre
  have htw : ∀ w ∈ tw, w.before _ s = true := fun w hw => hts w (List.mem_cons_of_mem _ hw)
  have hown : s.vm.findClass "DrawingMachineModel$DrawCommandsModel" = some m.cls := findClass_of_methodNamed B0.named
  have hlocks := B0.notSynchronized
  obtain ⟨hC, hP, hD, hsz⟩ := wC_init hv
  subst hsz
  generalize hAe : va_A [(q562, .inr (13, [.int 0, .ref z565, .int 1, .int 1, .ref z566, .int 0, .int 0, .int 0, .ref z567, .int 0, .int 0, .int (-1), .int (-1), .int 0, .int (-1), .int 0, .ref z568, .ref z569]))] s.heap.size = A at hC hD ⊢
  have hS : va_S A s.heap s.heap [] := va_S.rf
  have hl := lv_entry ([.ref q562, .int 2]) (n := 2) (Nat.le_of_ble_eq_true rfl)
  rw [lg_entry_eq]
  generalize (lg_sl ([.ref q562, .int 2]) ++ List.replicate (2 - (lg_sl ([.ref q562, .int 2])).length) Slot.unset).toArray = ls at hl ⊢
  have hl : lv_has ls 2 [(0, .ref q562), (1, .int 2)] := hl
  refine lv_aload_n hx hb d_Cmd_about_0 rfl (lv_at hl 0 rfl) ?_
  refine lv_iload_n hx hb d_Cmd_about_1 rfl (lv_at hl 1 rfl) ?_
  refine lv_i2l (v := 2) hx hb d_Cmd_about_2 (by decide) ?_
  refine lv_lconst (v := 0) hx hb d_Cmd_about_3 (by decide) ?_
  refine lv_ldc2 (v := 6) hx hb hown (htw _ k742) d_Cmd_about_4 ?_
  refine wc_i (wr := [(q562, .inr (13, [.int 0, .ref z565, .int 1, .int 1, .ref z566, .int 0, .int 0, .int 0, .ref z567, .int 0, .int 0, .int (-1), .int (-1), .int 0, .int (-1), .int 0, .ref z568, .ref z569]))]) hC hP hD hS [] [0] rfl rfl (by decide) (by decide) (va_runS (As := [.long 2, .long 0, .long 6]) (rest := [.ref q562]) ⟨hx, hb, hml, hown, htw⟩ (c_Cmd_in_t l D cI cL B _ 2 0 6 (by decide) (by decide)) (va_cwS 3 htw gS_Cmd_51 rfl rfl rfl (by decide +kernel) ⟨Nat.le_of_ble_eq_true rfl, Nat.le_of_ble_eq_true rfl⟩) (wC_pre hC hP hD hS [] (by decide) rfl) rfl rfl hl.1 rfl (lv_room (Nat.le_of_ble_eq_true rfl)) d_Cmd_about_7 ⟨Nat.le_of_ble_eq_true rfl, Nat.le_of_ble_eq_true rfl⟩) (fun r863 u861 H locs hw862 hP hD hS => ?_)
  obtain rfl : r863 = 1 := hw862
  have hP : va_P D classes [(q562, .inr (13, [.int 0, .ref z565, .int 1, .int 1, .ref z566, .int 0, .int 0, .int 0, .ref z567, .int 0, .int 0, .int (-1), .int (-1), .int 0, .int (-1), .int 0, .ref z568, .ref z569]))] H := hP
  have hD : va_D A [(q562, .inr (13, [.int 0, .ref z565, .int 1, .int 1, .ref z566, .int 0, .int 0, .int 0, .ref z567, .int 0, .int 0, .int (-1), .int (-1), .int 0, .int (-1), .int 0, .ref z568, .ref z569]))] := hD
  refine W.widen (k := 0) (n := 0) (by omega) (by omega) ?_
  refine lv_if_ne (tgt := 17) hx hb d_Cmd_about_10 (by decide) (fun c_864 => ?_) (fun c_864 => absurd c_864 (by decide))
  refine lv_iconst (v := 0) hx hb d_Cmd_about_17 (by decide) ?_
  refine wc_i (wr := []) hC hP hD hS [0] [] rfl rfl (by decide) (by decide) (va_runV (As := [.int 0]) (rest := []) ⟨hx, hb, hml, hown, htw⟩ (c_Cref_0 l D cI cL B _ q562 z565 z566 z567 z568 z569 0) (cwV 1 htw gV_Cmd_120 rfl rfl rfl (by decide +kernel) ⟨Nat.le_of_ble_eq_true rfl, Nat.le_of_ble_eq_true rfl⟩) (wC_preV (As := [.int 0]) hC hP hD hS [0] (by decide) rfl (q0 := 0) rfl rfl) rfl rfl hl.1 rfl (lv_room (Nat.le_of_ble_eq_true rfl)) d_Cmd_about_18 ⟨Nat.le_of_ble_eq_true rfl, Nat.le_of_ble_eq_true rfl⟩) (fun r867 u865 H locs hw866 hP hD hS => ?_)
  obtain rfl : r867 = 0 := hw866
  have hP : va_P D classes [(q562, .inr (13, [.int 0, .ref z565, .int 1, .int 1, .ref z566, .int 0, .int 0, .int 0, .ref z567, .int 0, .int 0, .int (-1), .int (-1), .int 0, .int (-1), .int 0, .ref z568, .ref z569]))] H := hP
  have hD : va_D A [(q562, .inr (13, [.int 0, .ref z565, .int 1, .int 1, .ref z566, .int 0, .int 0, .int 0, .ref z567, .int 0, .int 0, .int (-1), .int (-1), .int 0, .int (-1), .int 0, .ref z568, .ref z569]))] := hD
  refine W.widen (k := 0) (n := 0) (by omega) (by omega) ?_
  refine lv_if_eq (tgt := 26) hx hb d_Cmd_about_21 (by decide) (fun c_868 => ?_) (fun c_868 => absurd c_868 (by decide))
  refine lv_iload_n hx hb d_Cmd_about_26 rfl (lv_at hl 1 rfl) ?_
  refine lv_tableIn (off := 55) (tgt := 82) hx hb d_Cmd_about_27 (by decide) (by decide) (by decide) (by decide) ?_
  refine lv_aload_n hx hb d_Cmd_about_82 rfl (lv_at hl 0 rfl) ?_
  refine va_get (D := D) (ci := 13) (v := .int (-1)) (C := R_Cmd) (T := F_Cmd) (N := 18) hx hb htw i_Cmd hown hC.1 hP 0 rfl rfl 11 (by decide) (htw _ k559) (fun _ h9 => h9) rfl d_Cmd_about_83 ?_
  refine W.widen (k := 0) (n := 0) (Nat.le_of_ble_eq_true rfl) (Nat.le_of_ble_eq_true rfl) ?_
  have hP9 := hP.sub (ws' := []) [] rfl
  have hD9 := hD.sub (ws' := []) [] (by decide) rfl
  exact W.iret (v := (-1)) hx hb hr (fun t ht hW => ⟨⟨(-1), (), rfl, rfl, by rw [ht]; exact hP9, va_K.moved hW.alike hC.1, hD9⟩, hS.F ht⟩) hS.2.2 d_Cmd_about_86

theorem d_Cmd_about_87 : decode prog_15_method_31_code 87 = .ok (.aload_n 0, 1) := by decide +kernel
theorem d_Cmd_about_88 : decode prog_15_method_31_code 88 = .ok (.getfield 29, 3) := by decide +kernel
theorem d_Cmd_about_91 : decode prog_15_method_31_code 91 = .ok (.ireturn, 1) := by decide +kernel
set_option maxHeartbeats 4000000 in
set_option maxRecDepth 100000 in
theorem c_Cabout_3 (l : Launch) (D : va_G) (cI cL : ClassId) (B sz : Nat) (q562 : Nat) (z565 : Nat) (z566 : Nat) (z567 : Nat) (z568 : Nat) (z569 : Nat) : Met l y_Cmd_about ((Cond.code y_Cmd_about prog_15_method_31_code 2 (some .int)) :: tw) ({ frames := 30, cells := 0, slots := 0, locals := 3000 }) (va_Pc [.ref q562, .int 3] (wP D cI cL B sz [(q562, .inr (13, [.int 0, .ref z565, .int 1, .int 1, .ref z566, .int 0, .int 0, .int 0, .ref z567, .int 0, .int 0, .int (-1), .int (-1), .int 0, .int (-1), .int 0, .ref z568, .ref z569]))])) (va_Qi (S := Unit) (fun r u => r = (-1)) (fun u => wB D cI cL (va_A [(q562, .inr (13, [.int 0, .ref z565, .int 1, .int 1, .ref z566, .int 0, .int 0, .int 0, .ref z567, .int 0, .int 0, .int (-1), .int (-1), .int 0, .int (-1), .int 0, .ref z568, .ref z569]))] sz) ((fun _ : Unit => []) u)) (va_A [(q562, .inr (13, [.int 0, .ref z565, .int 1, .int 1, .ref z566, .int 0, .int 0, .int 0, .ref z567, .int 0, .int 0, .int (-1), .int (-1), .int 0, .int (-1), .int 0, .ref z568, .ref z569]))] sz)) 0 0 (va_A [(q562, .inr (13, [.int 0, .ref z565, .int 1, .int 1, .ref z566, .int 0, .int 0, .int 0, .ref z567, .int 0, .int 0, .int (-1), .int (-1), .int 0, .int (-1), .int 0, .ref z568, .ref z569]))] sz) := by
  refine Met.ofW (cc := prog_15_method_31_code) (maxL := 2) (ret := (some .int)) (by decide) rfl ?_
  intro p e s m args below meth c s₁ B0 hml hv
  obtain ⟨rfl, hv⟩ := hv
  have hx := B0.exec
  have hb := B0.bytes
  have hr := B0.returns
  have hts := atoms_spec (ws := (Cond.code y_Cmd_about prog_15_method_31_code 2 (some .int)) :: tw) B0.pre
  have htw : ∀ w ∈ tw, w.before _ s = true := fun w hw => hts w (List.mem_cons_of_mem _ hw)
  have hown : s.vm.findClass "DrawingMachineModel$DrawCommandsModel" = some m.cls := findClass_of_methodNamed B0.named
  have hlocks := B0.notSynchronized
  obtain ⟨hC, hP, hD, hsz⟩ := wC_init hv
  subst hsz
  generalize hAe : va_A [(q562, .inr (13, [.int 0, .ref z565, .int 1, .int 1, .ref z566, .int 0, .int 0, .int 0, .ref z567, .int 0, .int 0, .int (-1), .int (-1), .int 0, .int (-1), .int 0, .ref z568, .ref z569]))] s.heap.size = A at hC hD ⊢
  have hS : va_S A s.heap s.heap [] := va_S.rf
  have hl := lv_entry ([.ref q562, .int 3]) (n := 2) (Nat.le_of_ble_eq_true rfl)
  rw [lg_entry_eq]
  generalize (lg_sl ([.ref q562, .int 3]) ++ List.replicate (2 - (lg_sl ([.ref q562, .int 3])).length) Slot.unset).toArray = ls at hl ⊢
  have hl : lv_has ls 2 [(0, .ref q562), (1, .int 3)] := hl
  refine lv_aload_n hx hb d_Cmd_about_0 rfl (lv_at hl 0 rfl) ?_
  refine lv_iload_n hx hb d_Cmd_about_1 rfl (lv_at hl 1 rfl) ?_
  refine lv_i2l (v := 3) hx hb d_Cmd_about_2 (by decide) ?_
  refine lv_lconst (v := 0) hx hb d_Cmd_about_3 (by decide) ?_
  refine lv_ldc2 (v := 6) hx hb hown (htw _ k742) d_Cmd_about_4 ?_
  refine wc_i (wr := [(q562, .inr (13, [.int 0, .ref z565, .int 1, .int 1, .ref z566, .int 0, .int 0, .int 0, .ref z567, .int 0, .int 0, .int (-1), .int (-1), .int 0, .int (-1), .int 0, .ref z568, .ref z569]))]) hC hP hD hS [] [0] rfl rfl (by decide) (by decide) (va_runS (As := [.long 3, .long 0, .long 6]) (rest := [.ref q562]) ⟨hx, hb, hml, hown, htw⟩ (c_Cmd_in_t l D cI cL B _ 3 0 6 (by decide) (by decide)) (va_cwS 3 htw gS_Cmd_51 rfl rfl rfl (by decide +kernel) ⟨Nat.le_of_ble_eq_true rfl, Nat.le_of_ble_eq_true rfl⟩) (wC_pre hC hP hD hS [] (by decide) rfl) rfl rfl hl.1 rfl (lv_room (Nat.le_of_ble_eq_true rfl)) d_Cmd_about_7 ⟨Nat.le_of_ble_eq_true rfl, Nat.le_of_ble_eq_true rfl⟩) (fun r871 u869 H locs hw870 hP hD hS => ?_)
  obtain rfl : r871 = 1 := hw870
  have hP : va_P D classes [(q562, .inr (13, [.int 0, .ref z565, .int 1, .int 1, .ref z566, .int 0, .int 0, .int 0, .ref z567, .int 0, .int 0, .int (-1), .int (-1), .int 0, .int (-1), .int 0, .ref z568, .ref z569]))] H := hP
  have hD : va_D A [(q562, .inr (13, [.int 0, .ref z565, .int 1, .int 1, .ref z566, .int 0, .int 0, .int 0, .ref z567, .int 0, .int 0, .int (-1), .int (-1), .int 0, .int (-1), .int 0, .ref z568, .ref z569]))] := hD
  refine W.widen (k := 0) (n := 0) (by omega) (by omega) ?_
  refine lv_if_ne (tgt := 17) hx hb d_Cmd_about_10 (by decide) (fun c_872 => ?_) (fun c_872 => absurd c_872 (by decide))
  refine lv_iconst (v := 0) hx hb d_Cmd_about_17 (by decide) ?_
  refine wc_i (wr := []) hC hP hD hS [0] [] rfl rfl (by decide) (by decide) (va_runV (As := [.int 0]) (rest := []) ⟨hx, hb, hml, hown, htw⟩ (c_Cref_0 l D cI cL B _ q562 z565 z566 z567 z568 z569 0) (cwV 1 htw gV_Cmd_120 rfl rfl rfl (by decide +kernel) ⟨Nat.le_of_ble_eq_true rfl, Nat.le_of_ble_eq_true rfl⟩) (wC_preV (As := [.int 0]) hC hP hD hS [0] (by decide) rfl (q0 := 0) rfl rfl) rfl rfl hl.1 rfl (lv_room (Nat.le_of_ble_eq_true rfl)) d_Cmd_about_18 ⟨Nat.le_of_ble_eq_true rfl, Nat.le_of_ble_eq_true rfl⟩) (fun r875 u873 H locs hw874 hP hD hS => ?_)
  obtain rfl : r875 = 0 := hw874
  have hP : va_P D classes [(q562, .inr (13, [.int 0, .ref z565, .int 1, .int 1, .ref z566, .int 0, .int 0, .int 0, .ref z567, .int 0, .int 0, .int (-1), .int (-1), .int 0, .int (-1), .int 0, .ref z568, .ref z569]))] H := hP
  have hD : va_D A [(q562, .inr (13, [.int 0, .ref z565, .int 1, .int 1, .ref z566, .int 0, .int 0, .int 0, .ref z567, .int 0, .int 0, .int (-1), .int (-1), .int 0, .int (-1), .int 0, .ref z568, .ref z569]))] := hD
  refine W.widen (k := 0) (n := 0) (by omega) (by omega) ?_
  refine lv_if_eq (tgt := 26) hx hb d_Cmd_about_21 (by decide) (fun c_876 => ?_) (fun c_876 => absurd c_876 (by decide))
  refine lv_iload_n hx hb d_Cmd_about_26 rfl (lv_at hl 1 rfl) ?_
  refine lv_tableIn (off := 60) (tgt := 87) hx hb d_Cmd_about_27 (by decide) (by decide) (by decide) (by decide) ?_
  refine lv_aload_n hx hb d_Cmd_about_87 rfl (lv_at hl 0 rfl) ?_
  refine va_get (D := D) (ci := 13) (v := .int (-1)) (C := R_Cmd) (T := F_Cmd) (N := 18) hx hb htw i_Cmd hown hC.1 hP 0 rfl rfl 12 (by decide) (htw _ k560) (fun _ h9 => h9) rfl d_Cmd_about_88 ?_
  refine W.widen (k := 0) (n := 0) (Nat.le_of_ble_eq_true rfl) (Nat.le_of_ble_eq_true rfl) ?_
  have hP9 := hP.sub (ws' := []) [] rfl
  have hD9 := hD.sub (ws' := []) [] (by decide) rfl
  exact W.iret (v := (-1)) hx hb hr (fun t ht hW => ⟨⟨(-1), (), rfl, rfl, by rw [ht]; exact hP9, va_K.moved hW.alike hC.1, hD9⟩, hS.F ht⟩) hS.2.2 d_Cmd_about_91

theorem d_Cmd_about_92 : decode prog_15_method_31_code 92 = .ok (.aload_n 0, 1) := by decide +kernel
theorem d_Cmd_about_93 : decode prog_15_method_31_code 93 = .ok (.getfield 140, 3) := by decide +kernel
theorem d_Cmd_about_96 : decode prog_15_method_31_code 96 = .ok (.ireturn, 1) := by decide +kernel
set_option maxHeartbeats 4000000 in
set_option maxRecDepth 100000 in
theorem c_Cabout_4 (l : Launch) (D : va_G) (cI cL : ClassId) (B sz : Nat) (q562 : Nat) (z565 : Nat) (z566 : Nat) (z567 : Nat) (z568 : Nat) (z569 : Nat) : Met l y_Cmd_about ((Cond.code y_Cmd_about prog_15_method_31_code 2 (some .int)) :: tw) ({ frames := 30, cells := 0, slots := 0, locals := 3000 }) (va_Pc [.ref q562, .int 4] (wP D cI cL B sz [(q562, .inr (13, [.int 0, .ref z565, .int 1, .int 1, .ref z566, .int 0, .int 0, .int 0, .ref z567, .int 0, .int 0, .int (-1), .int (-1), .int 0, .int (-1), .int 0, .ref z568, .ref z569]))])) (va_Qi (S := Unit) (fun r u => r = 0) (fun u => wB D cI cL (va_A [(q562, .inr (13, [.int 0, .ref z565, .int 1, .int 1, .ref z566, .int 0, .int 0, .int 0, .ref z567, .int 0, .int 0, .int (-1), .int (-1), .int 0, .int (-1), .int 0, .ref z568, .ref z569]))] sz) ((fun _ : Unit => []) u)) (va_A [(q562, .inr (13, [.int 0, .ref z565, .int 1, .int 1, .ref z566, .int 0, .int 0, .int 0, .ref z567, .int 0, .int 0, .int (-1), .int (-1), .int 0, .int (-1), .int 0, .ref z568, .ref z569]))] sz)) 0 0 (va_A [(q562, .inr (13, [.int 0, .ref z565, .int 1, .int 1, .ref z566, .int 0, .int 0, .int 0, .ref z567, .int 0, .int 0, .int (-1), .int (-1), .int 0, .int (-1), .int 0, .ref z568, .ref z569]))] sz) := by
  refine Met.ofW (cc := prog_15_method_31_code) (maxL := 2) (ret := (some .int)) (by decide) rfl ?_
  intro p e s m args below meth c s₁ B0 hml hv
  obtain ⟨rfl, hv⟩ := hv
  have hx := B0.exec
  have hb := B0.bytes
  have hr := B0.returns
  have hts := atoms_spec (ws := (Cond.code y_Cmd_about prog_15_method_31_code 2 (some .int)) :: tw) B0.pre
  have htw : ∀ w ∈ tw, w.before _ s = true := fun w hw => hts w (List.mem_cons_of_mem _ hw)
  have hown : s.vm.findClass "DrawingMachineModel$DrawCommandsModel" = some m.cls := findClass_of_methodNamed B0.named
  have hlocks := B0.notSynchronized
  obtain ⟨hC, hP, hD, hsz⟩ := wC_init hv
  subst hsz
  generalize hAe : va_A [(q562, .inr (13, [.int 0, .ref z565, .int 1, .int 1, .ref z566, .int 0, .int 0, .int 0, .ref z567, .int 0, .int 0, .int (-1), .int (-1), .int 0, .int (-1), .int 0, .ref z568, .ref z569]))] s.heap.size = A at hC hD ⊢
  have hS : va_S A s.heap s.heap [] := va_S.rf
  have hl := lv_entry ([.ref q562, .int 4]) (n := 2) (Nat.le_of_ble_eq_true rfl)
  rw [lg_entry_eq]
  generalize (lg_sl ([.ref q562, .int 4]) ++ List.replicate (2 - (lg_sl ([.ref q562, .int 4])).length) Slot.unset).toArray = ls at hl ⊢
  have hl : lv_has ls 2 [(0, .ref q562), (1, .int 4)] := hl
  refine lv_aload_n hx hb d_Cmd_about_0 rfl (lv_at hl 0 rfl) ?_
  refine lv_iload_n hx hb d_Cmd_about_1 rfl (lv_at hl 1 rfl) ?_
  refine lv_i2l (v := 4) hx hb d_Cmd_about_2 (by decide) ?_
  refine lv_lconst (v := 0) hx hb d_Cmd_about_3 (by decide) ?_
  refine lv_ldc2 (v := 6) hx hb hown (htw _ k742) d_Cmd_about_4 ?_
  refine wc_i (wr := [(q562, .inr (13, [.int 0, .ref z565, .int 1, .int 1, .ref z566, .int 0, .int 0, .int 0, .ref z567, .int 0, .int 0, .int (-1), .int (-1), .int 0, .int (-1), .int 0, .ref z568, .ref z569]))]) hC hP hD hS [] [0] rfl rfl (by decide) (by decide) (va_runS (As := [.long 4, .long 0, .long 6]) (rest := [.ref q562]) ⟨hx, hb, hml, hown, htw⟩ (c_Cmd_in_t l D cI cL B _ 4 0 6 (by decide) (by decide)) (va_cwS 3 htw gS_Cmd_51 rfl rfl rfl (by decide +kernel) ⟨Nat.le_of_ble_eq_true rfl, Nat.le_of_ble_eq_true rfl⟩) (wC_pre hC hP hD hS [] (by decide) rfl) rfl rfl hl.1 rfl (lv_room (Nat.le_of_ble_eq_true rfl)) d_Cmd_about_7 ⟨Nat.le_of_ble_eq_true rfl, Nat.le_of_ble_eq_true rfl⟩) (fun r879 u877 H locs hw878 hP hD hS => ?_)
  obtain rfl : r879 = 1 := hw878
  have hP : va_P D classes [(q562, .inr (13, [.int 0, .ref z565, .int 1, .int 1, .ref z566, .int 0, .int 0, .int 0, .ref z567, .int 0, .int 0, .int (-1), .int (-1), .int 0, .int (-1), .int 0, .ref z568, .ref z569]))] H := hP
  have hD : va_D A [(q562, .inr (13, [.int 0, .ref z565, .int 1, .int 1, .ref z566, .int 0, .int 0, .int 0, .ref z567, .int 0, .int 0, .int (-1), .int (-1), .int 0, .int (-1), .int 0, .ref z568, .ref z569]))] := hD
  refine W.widen (k := 0) (n := 0) (by omega) (by omega) ?_
  refine lv_if_ne (tgt := 17) hx hb d_Cmd_about_10 (by decide) (fun c_880 => ?_) (fun c_880 => absurd c_880 (by decide))
  refine lv_iconst (v := 0) hx hb d_Cmd_about_17 (by decide) ?_
  refine wc_i (wr := []) hC hP hD hS [0] [] rfl rfl (by decide) (by decide) (va_runV (As := [.int 0]) (rest := []) ⟨hx, hb, hml, hown, htw⟩ (c_Cref_0 l D cI cL B _ q562 z565 z566 z567 z568 z569 0) (cwV 1 htw gV_Cmd_120 rfl rfl rfl (by decide +kernel) ⟨Nat.le_of_ble_eq_true rfl, Nat.le_of_ble_eq_true rfl⟩) (wC_preV (As := [.int 0]) hC hP hD hS [0] (by decide) rfl (q0 := 0) rfl rfl) rfl rfl hl.1 rfl (lv_room (Nat.le_of_ble_eq_true rfl)) d_Cmd_about_18 ⟨Nat.le_of_ble_eq_true rfl, Nat.le_of_ble_eq_true rfl⟩) (fun r883 u881 H locs hw882 hP hD hS => ?_)
  obtain rfl : r883 = 0 := hw882
  have hP : va_P D classes [(q562, .inr (13, [.int 0, .ref z565, .int 1, .int 1, .ref z566, .int 0, .int 0, .int 0, .ref z567, .int 0, .int 0, .int (-1), .int (-1), .int 0, .int (-1), .int 0, .ref z568, .ref z569]))] H := hP
  have hD : va_D A [(q562, .inr (13, [.int 0, .ref z565, .int 1, .int 1, .ref z566, .int 0, .int 0, .int 0, .ref z567, .int 0, .int 0, .int (-1), .int (-1), .int 0, .int (-1), .int 0, .ref z568, .ref z569]))] := hD
  refine W.widen (k := 0) (n := 0) (by omega) (by omega) ?_
  refine lv_if_eq (tgt := 26) hx hb d_Cmd_about_21 (by decide) (fun c_884 => ?_) (fun c_884 => absurd c_884 (by decide))
  refine lv_iload_n hx hb d_Cmd_about_26 rfl (lv_at hl 1 rfl) ?_
  refine lv_tableIn (off := 65) (tgt := 92) hx hb d_Cmd_about_27 (by decide) (by decide) (by decide) (by decide) ?_
  refine lv_aload_n hx hb d_Cmd_about_92 rfl (lv_at hl 0 rfl) ?_
  refine va_get (D := D) (ci := 13) (v := .int 0) (C := R_Cmd) (T := F_Cmd) (N := 18) hx hb htw i_Cmd hown hC.1 hP 0 rfl rfl 13 (by decide) (htw _ k724) (fun _ h9 => h9) rfl d_Cmd_about_93 ?_
  refine W.widen (k := 0) (n := 0) (Nat.le_of_ble_eq_true rfl) (Nat.le_of_ble_eq_true rfl) ?_
  have hP9 := hP.sub (ws' := []) [] rfl
  have hD9 := hD.sub (ws' := []) [] (by decide) rfl
  exact W.iret (v := 0) hx hb hr (fun t ht hW => ⟨⟨0, (), rfl, rfl, by rw [ht]; exact hP9, va_K.moved hW.alike hC.1, hD9⟩, hS.F ht⟩) hS.2.2 d_Cmd_about_96

theorem d_Cmd_about_97 : decode prog_15_method_31_code 97 = .ok (.aload_n 0, 1) := by decide +kernel
theorem d_Cmd_about_98 : decode prog_15_method_31_code 98 = .ok (.getfield 32, 3) := by decide +kernel
theorem d_Cmd_about_101 : decode prog_15_method_31_code 101 = .ok (.ireturn, 1) := by decide +kernel
set_option maxHeartbeats 4000000 in
set_option maxRecDepth 100000 in
theorem c_Cabout_5 (l : Launch) (D : va_G) (cI cL : ClassId) (B sz : Nat) (q562 : Nat) (z565 : Nat) (z566 : Nat) (z567 : Nat) (z568 : Nat) (z569 : Nat) : Met l y_Cmd_about ((Cond.code y_Cmd_about prog_15_method_31_code 2 (some .int)) :: tw) ({ frames := 30, cells := 0, slots := 0, locals := 3000 }) (va_Pc [.ref q562, .int 5] (wP D cI cL B sz [(q562, .inr (13, [.int 0, .ref z565, .int 1, .int 1, .ref z566, .int 0, .int 0, .int 0, .ref z567, .int 0, .int 0, .int (-1), .int (-1), .int 0, .int (-1), .int 0, .ref z568, .ref z569]))])) (va_Qi (S := Unit) (fun r u => r = (-1)) (fun u => wB D cI cL (va_A [(q562, .inr (13, [.int 0, .ref z565, .int 1, .int 1, .ref z566, .int 0, .int 0, .int 0, .ref z567, .int 0, .int 0, .int (-1), .int (-1), .int 0, .int (-1), .int 0, .ref z568, .ref z569]))] sz) ((fun _ : Unit => []) u)) (va_A [(q562, .inr (13, [.int 0, .ref z565, .int 1, .int 1, .ref z566, .int 0, .int 0, .int 0, .ref z567, .int 0, .int 0, .int (-1), .int (-1), .int 0, .int (-1), .int 0, .ref z568, .ref z569]))] sz)) 0 0 (va_A [(q562, .inr (13, [.int 0, .ref z565, .int 1, .int 1, .ref z566, .int 0, .int 0, .int 0, .ref z567, .int 0, .int 0, .int (-1), .int (-1), .int 0, .int (-1), .int 0, .ref z568, .ref z569]))] sz) := by
  refine Met.ofW (cc := prog_15_method_31_code) (maxL := 2) (ret := (some .int)) (by decide) rfl ?_
  intro p e s m args below meth c s₁ B0 hml hv
  obtain ⟨rfl, hv⟩ := hv
  have hx := B0.exec
  have hb := B0.bytes
  have hr := B0.returns
  have hts := atoms_spec (ws := (Cond.code y_Cmd_about prog_15_method_31_code 2 (some .int)) :: tw) B0.pre
  have htw : ∀ w ∈ tw, w.before _ s = true := fun w hw => hts w (List.mem_cons_of_mem _ hw)
  have hown : s.vm.findClass "DrawingMachineModel$DrawCommandsModel" = some m.cls := findClass_of_methodNamed B0.named
  have hlocks := B0.notSynchronized
  obtain ⟨hC, hP, hD, hsz⟩ := wC_init hv
  subst hsz
  generalize hAe : va_A [(q562, .inr (13, [.int 0, .ref z565, .int 1, .int 1, .ref z566, .int 0, .int 0, .int 0, .ref z567, .int 0, .int 0, .int (-1), .int (-1), .int 0, .int (-1), .int 0, .ref z568, .ref z569]))] s.heap.size = A at hC hD ⊢
  have hS : va_S A s.heap s.heap [] := va_S.rf
  have hl := lv_entry ([.ref q562, .int 5]) (n := 2) (Nat.le_of_ble_eq_true rfl)
  rw [lg_entry_eq]
  generalize (lg_sl ([.ref q562, .int 5]) ++ List.replicate (2 - (lg_sl ([.ref q562, .int 5])).length) Slot.unset).toArray = ls at hl ⊢
  have hl : lv_has ls 2 [(0, .ref q562), (1, .int 5)] := hl
  refine lv_aload_n hx hb d_Cmd_about_0 rfl (lv_at hl 0 rfl) ?_
  refine lv_iload_n hx hb d_Cmd_about_1 rfl (lv_at hl 1 rfl) ?_
  refine lv_i2l (v := 5) hx hb d_Cmd_about_2 (by decide) ?_
  refine lv_lconst (v := 0) hx hb d_Cmd_about_3 (by decide) ?_
  refine lv_ldc2 (v := 6) hx hb hown (htw _ k742) d_Cmd_about_4 ?_
  refine wc_i (wr := [(q562, .inr (13, [.int 0, .ref z565, .int 1, .int 1, .ref z566, .int 0, .int 0, .int 0, .ref z567, .int 0, .int 0, .int (-1), .int (-1), .int 0, .int (-1), .int 0, .ref z568, .ref z569]))]) hC hP hD hS [] [0] rfl rfl (by decide) (by decide) (va_runS (As := [.long 5, .long 0, .long 6]) (rest := [.ref q562]) ⟨hx, hb, hml, hown, htw⟩ (c_Cmd_in_t l D cI cL B _ 5 0 6 (by decide) (by decide)) (va_cwS 3 htw gS_Cmd_51 rfl rfl rfl (by decide +kernel) ⟨Nat.le_of_ble_eq_true rfl, Nat.le_of_ble_eq_true rfl⟩) (wC_pre hC hP hD hS [] (by decide) rfl) rfl rfl hl.1 rfl (lv_room (Nat.le_of_ble_eq_true rfl)) d_Cmd_about_7 ⟨Nat.le_of_ble_eq_true rfl, Nat.le_of_ble_eq_true rfl⟩) (fun r887 u885 H locs hw886 hP hD hS => ?_)
  obtain rfl : r887 = 1 := hw886
  have hP : va_P D classes [(q562, .inr (13, [.int 0, .ref z565, .int 1, .int 1, .ref z566, .int 0, .int 0, .int 0, .ref z567, .int 0, .int 0, .int (-1), .int (-1), .int 0, .int (-1), .int 0, .ref z568, .ref z569]))] H := hP
  have hD : va_D A [(q562, .inr (13, [.int 0, .ref z565, .int 1, .int 1, .ref z566, .int 0, .int 0, .int 0, .ref z567, .int 0, .int 0, .int (-1), .int (-1), .int 0, .int (-1), .int 0, .ref z568, .ref z569]))] := hD
  refine W.widen (k := 0) (n := 0) (by omega) (by omega) ?_
  refine lv_if_ne (tgt := 17) hx hb d_Cmd_about_10 (by decide) (fun c_888 => ?_) (fun c_888 => absurd c_888 (by decide))
  refine lv_iconst (v := 0) hx hb d_Cmd_about_17 (by decide) ?_
  refine wc_i (wr := []) hC hP hD hS [0] [] rfl rfl (by decide) (by decide) (va_runV (As := [.int 0]) (rest := []) ⟨hx, hb, hml, hown, htw⟩ (c_Cref_0 l D cI cL B _ q562 z565 z566 z567 z568 z569 0) (cwV 1 htw gV_Cmd_120 rfl rfl rfl (by decide +kernel) ⟨Nat.le_of_ble_eq_true rfl, Nat.le_of_ble_eq_true rfl⟩) (wC_preV (As := [.int 0]) hC hP hD hS [0] (by decide) rfl (q0 := 0) rfl rfl) rfl rfl hl.1 rfl (lv_room (Nat.le_of_ble_eq_true rfl)) d_Cmd_about_18 ⟨Nat.le_of_ble_eq_true rfl, Nat.le_of_ble_eq_true rfl⟩) (fun r891 u889 H locs hw890 hP hD hS => ?_)
  obtain rfl : r891 = 0 := hw890
  have hP : va_P D classes [(q562, .inr (13, [.int 0, .ref z565, .int 1, .int 1, .ref z566, .int 0, .int 0, .int 0, .ref z567, .int 0, .int 0, .int (-1), .int (-1), .int 0, .int (-1), .int 0, .ref z568, .ref z569]))] H := hP
  have hD : va_D A [(q562, .inr (13, [.int 0, .ref z565, .int 1, .int 1, .ref z566, .int 0, .int 0, .int 0, .ref z567, .int 0, .int 0, .int (-1), .int (-1), .int 0, .int (-1), .int 0, .ref z568, .ref z569]))] := hD
  refine W.widen (k := 0) (n := 0) (by omega) (by omega) ?_
  refine lv_if_eq (tgt := 26) hx hb d_Cmd_about_21 (by decide) (fun c_892 => ?_) (fun c_892 => absurd c_892 (by decide))
  refine lv_iload_n hx hb d_Cmd_about_26 rfl (lv_at hl 1 rfl) ?_
  refine lv_tableIn (off := 70) (tgt := 97) hx hb d_Cmd_about_27 (by decide) (by decide) (by decide) (by decide) ?_
  refine lv_aload_n hx hb d_Cmd_about_97 rfl (lv_at hl 0 rfl) ?_
  refine va_get (D := D) (ci := 13) (v := .int (-1)) (C := R_Cmd) (T := F_Cmd) (N := 18) hx hb htw i_Cmd hown hC.1 hP 0 rfl rfl 14 (by decide) (htw _ k561) (fun _ h9 => h9) rfl d_Cmd_about_98 ?_
  refine W.widen (k := 0) (n := 0) (Nat.le_of_ble_eq_true rfl) (Nat.le_of_ble_eq_true rfl) ?_
  have hP9 := hP.sub (ws' := []) [] rfl
  have hD9 := hD.sub (ws' := []) [] (by decide) rfl
  exact W.iret (v := (-1)) hx hb hr (fun t ht hW => ⟨⟨(-1), (), rfl, rfl, by rw [ht]; exact hP9, va_K.moved hW.alike hC.1, hD9⟩, hS.F ht⟩) hS.2.2 d_Cmd_about_101

theorem d_Cmd_about_102 : decode prog_15_method_31_code 102 = .ok (.aload_n 0, 1) := by decide +kernel
theorem d_Cmd_about_103 : decode prog_15_method_31_code 103 = .ok (.getfield 124, 3) := by decide +kernel
theorem d_Cmd_about_106 : decode prog_15_method_31_code 106 = .ok (.ireturn, 1) := by decide +kernel
set_option maxHeartbeats 4000000 in
set_option maxRecDepth 100000 in
theorem c_Cabout_6 (l : Launch) (D : va_G) (cI cL : ClassId) (B sz : Nat) (q562 : Nat) (z565 : Nat) (z566 : Nat) (z567 : Nat) (z568 : Nat) (z569 : Nat) : Met l y_Cmd_about ((Cond.code y_Cmd_about prog_15_method_31_code 2 (some .int)) :: tw) ({ frames := 30, cells := 0, slots := 0, locals := 3000 }) (va_Pc [.ref q562, .int 6] (wP D cI cL B sz [(q562, .inr (13, [.int 0, .ref z565, .int 1, .int 1, .ref z566, .int 0, .int 0, .int 0, .ref z567, .int 0, .int 0, .int (-1), .int (-1), .int 0, .int (-1), .int 0, .ref z568, .ref z569]))])) (va_Qi (S := Unit) (fun r u => r = 0) (fun u => wB D cI cL (va_A [(q562, .inr (13, [.int 0, .ref z565, .int 1, .int 1, .ref z566, .int 0, .int 0, .int 0, .ref z567, .int 0, .int 0, .int (-1), .int (-1), .int 0, .int (-1), .int 0, .ref z568, .ref z569]))] sz) ((fun _ : Unit => []) u)) (va_A [(q562, .inr (13, [.int 0, .ref z565, .int 1, .int 1, .ref z566, .int 0, .int 0, .int 0, .ref z567, .int 0, .int 0, .int (-1), .int (-1), .int 0, .int (-1), .int 0, .ref z568, .ref z569]))] sz)) 0 0 (va_A [(q562, .inr (13, [.int 0, .ref z565, .int 1, .int 1, .ref z566, .int 0, .int 0, .int 0, .ref z567, .int 0, .int 0, .int (-1), .int (-1), .int 0, .int (-1), .int 0, .ref z568, .ref z569]))] sz) := by
  refine Met.ofW (cc := prog_15_method_31_code) (maxL := 2) (ret := (some .int)) (by decide) rfl ?_
  intro p e s m args below meth c s₁ B0 hml hv
  obtain ⟨rfl, hv⟩ := hv
  have hx := B0.exec
  have hb := B0.bytes
  have hr := B0.returns
  have hts := atoms_spec (ws := (Cond.code y_Cmd_about prog_15_method_31_code 2 (some .int)) :: tw) B0.pre
  have htw : ∀ w ∈ tw, w.before _ s = true := fun w hw => hts w (List.mem_cons_of_mem _ hw)
  have hown : s.vm.findClass "DrawingMachineModel$DrawCommandsModel" = some m.cls := findClass_of_methodNamed B0.named
  have hlocks := B0.notSynchronized
  obtain ⟨hC, hP, hD, hsz⟩ := wC_init hv
  subst hsz
  generalize hAe : va_A [(q562, .inr (13, [.int 0, .ref z565, .int 1, .int 1, .ref z566, .int 0, .int 0, .int 0, .ref z567, .int 0, .int 0, .int (-1), .int (-1), .int 0, .int (-1), .int 0, .ref z568, .ref z569]))] s.heap.size = A at hC hD ⊢
  have hS : va_S A s.heap s.heap [] := va_S.rf
  have hl := lv_entry ([.ref q562, .int 6]) (n := 2) (Nat.le_of_ble_eq_true rfl)
  rw [lg_entry_eq]
  generalize (lg_sl ([.ref q562, .int 6]) ++ List.replicate (2 - (lg_sl ([.ref q562, .int 6])).length) Slot.unset).toArray = ls at hl ⊢
  have hl : lv_has ls 2 [(0, .ref q562), (1, .int 6)] := hl
  refine lv_aload_n hx hb d_Cmd_about_0 rfl (lv_at hl 0 rfl) ?_
  refine lv_iload_n hx hb d_Cmd_about_1 rfl (lv_at hl 1 rfl) ?_
  refine lv_i2l (v := 6) hx hb d_Cmd_about_2 (by decide) ?_
  refine lv_lconst (v := 0) hx hb d_Cmd_about_3 (by decide) ?_
  refine lv_ldc2 (v := 6) hx hb hown (htw _ k742) d_Cmd_about_4 ?_
  refine wc_i (wr := [(q562, .inr (13, [.int 0, .ref z565, .int 1, .int 1, .ref z566, .int 0, .int 0, .int 0, .ref z567, .int 0, .int 0, .int (-1), .int (-1), .int 0, .int (-1), .int 0, .ref z568, .ref z569]))]) hC hP hD hS [] [0] rfl rfl (by decide) (by decide) (va_runS (As := [.long 6, .long 0, .long 6]) (rest := [.ref q562]) ⟨hx, hb, hml, hown, htw⟩ (c_Cmd_in_t l D cI cL B _ 6 0 6 (by decide) (by decide)) (va_cwS 3 htw gS_Cmd_51 rfl rfl rfl (by decide +kernel) ⟨Nat.le_of_ble_eq_true rfl, Nat.le_of_ble_eq_true rfl⟩) (wC_pre hC hP hD hS [] (by decide) rfl) rfl rfl hl.1 rfl (lv_room (Nat.le_of_ble_eq_true rfl)) d_Cmd_about_7 ⟨Nat.le_of_ble_eq_true rfl, Nat.le_of_ble_eq_true rfl⟩) (fun r895 u893 H locs hw894 hP hD hS => ?_)
  obtain rfl : r895 = 1 := hw894
  have hP : va_P D classes [(q562, .inr (13, [.int 0, .ref z565, .int 1, .int 1, .ref z566, .int 0, .int 0, .int 0, .ref z567, .int 0, .int 0, .int (-1), .int (-1), .int 0, .int (-1), .int 0, .ref z568, .ref z569]))] H := hP
  have hD : va_D A [(q562, .inr (13, [.int 0, .ref z565, .int 1, .int 1, .ref z566, .int 0, .int 0, .int 0, .ref z567, .int 0, .int 0, .int (-1), .int (-1), .int 0, .int (-1), .int 0, .ref z568, .ref z569]))] := hD
  refine W.widen (k := 0) (n := 0) (by omega) (by omega) ?_
  refine lv_if_ne (tgt := 17) hx hb d_Cmd_about_10 (by decide) (fun c_896 => ?_) (fun c_896 => absurd c_896 (by decide))
  refine lv_iconst (v := 0) hx hb d_Cmd_about_17 (by decide) ?_
  refine wc_i (wr := []) hC hP hD hS [0] [] rfl rfl (by decide) (by decide) (va_runV (As := [.int 0]) (rest := []) ⟨hx, hb, hml, hown, htw⟩ (c_Cref_0 l D cI cL B _ q562 z565 z566 z567 z568 z569 0) (cwV 1 htw gV_Cmd_120 rfl rfl rfl (by decide +kernel) ⟨Nat.le_of_ble_eq_true rfl, Nat.le_of_ble_eq_true rfl⟩) (wC_preV (As := [.int 0]) hC hP hD hS [0] (by decide) rfl (q0 := 0) rfl rfl) rfl rfl hl.1 rfl (lv_room (Nat.le_of_ble_eq_true rfl)) d_Cmd_about_18 ⟨Nat.le_of_ble_eq_true rfl, Nat.le_of_ble_eq_true rfl⟩) (fun r899 u897 H locs hw898 hP hD hS => ?_)
  obtain rfl : r899 = 0 := hw898
  have hP : va_P D classes [(q562, .inr (13, [.int 0, .ref z565, .int 1, .int 1, .ref z566, .int 0, .int 0, .int 0, .ref z567, .int 0, .int 0, .int (-1), .int (-1), .int 0, .int (-1), .int 0, .ref z568, .ref z569]))] H := hP
  have hD : va_D A [(q562, .inr (13, [.int 0, .ref z565, .int 1, .int 1, .ref z566, .int 0, .int 0, .int 0, .ref z567, .int 0, .int 0, .int (-1), .int (-1), .int 0, .int (-1), .int 0, .ref z568, .ref z569]))] := hD
  refine W.widen (k := 0) (n := 0) (by omega) (by omega) ?_
  refine lv_if_eq (tgt := 26) hx hb d_Cmd_about_21 (by decide) (fun c_900 => ?_) (fun c_900 => absurd c_900 (by decide))
  refine lv_iload_n hx hb d_Cmd_about_26 rfl (lv_at hl 1 rfl) ?_
  refine lv_tableOut (tgt := 102) hx hb d_Cmd_about_27 (by decide) (by decide) ?_
  refine lv_aload_n hx hb d_Cmd_about_102 rfl (lv_at hl 0 rfl) ?_
  refine va_get (D := D) (ci := 13) (v := .int 0) (C := R_Cmd) (T := F_Cmd) (N := 18) hx hb htw i_Cmd hown hC.1 hP 0 rfl rfl 5 (by decide) (htw _ k718) (fun _ h9 => h9) rfl d_Cmd_about_103 ?_
  refine W.widen (k := 0) (n := 0) (Nat.le_of_ble_eq_true rfl) (Nat.le_of_ble_eq_true rfl) ?_
  have hP9 := hP.sub (ws' := []) [] rfl
  have hD9 := hD.sub (ws' := []) [] (by decide) rfl
  exact W.iret (v := 0) hx hb hr (fun t ht hW => ⟨⟨0, (), rfl, rfl, by rw [ht]; exact hP9, va_K.moved hW.alike hC.1, hD9⟩, hS.F ht⟩) hS.2.2 d_Cmd_about_106

theorem d_Mod_about_0 : decode prog_14_method_28_code 0 = .ok (.aload_n 0, 1) := by decide +kernel
theorem d_Mod_about_1 : decode prog_14_method_28_code 1 = .ok (.iload_n 1, 1) := by decide +kernel
theorem d_Mod_about_2 : decode prog_14_method_28_code 2 = .ok (.i2l, 1) := by decide +kernel
theorem d_Mod_about_3 : decode prog_14_method_28_code 3 = .ok (.lconst 0, 1) := by decide +kernel
theorem d_Mod_about_4 : decode prog_14_method_28_code 4 = .ok (.ldc2_w 362, 3) := by decide +kernel
theorem d_Mod_about_7 : decode prog_14_method_28_code 7 = .ok (.invokestatic 90, 3) := by decide +kernel
theorem d_Mod_about_10 : decode prog_14_method_28_code 10 = .ok (.ifCond .ne 7, 3) := by decide +kernel
theorem d_Mod_about_17 : decode prog_14_method_28_code 17 = .ok (.iconst 0, 1) := by decide +kernel
theorem d_Mod_about_18 : decode prog_14_method_28_code 18 = .ok (.iconst 0, 1) := by decide +kernel
theorem d_Mod_about_19 : decode prog_14_method_28_code 19 = .ok (.invokevirtual 94, 3) := by decide +kernel
theorem d_Mod_about_22 : decode prog_14_method_28_code 22 = .ok (.ifCond .eq 5, 3) := by decide +kernel
theorem d_Mod_about_27 : decode prog_14_method_28_code 27 = .ok (.iload_n 1, 1) := by decide +kernel
theorem d_Mod_about_28 : decode prog_14_method_28_code 28 = .ok (.bipush 7, 2) := by decide +kernel
theorem d_Mod_about_30 : decode prog_14_method_28_code 30 = .ok (.if_icmp .ne 10, 3) := by decide +kernel
theorem d_Mod_about_40 : decode prog_14_method_28_code 40 = .ok (.iload_n 1, 1) := by decide +kernel
theorem d_Mod_about_41 : decode prog_14_method_28_code 41 = .ok (.bipush 8, 2) := by decide +kernel
theorem d_Mod_about_43 : decode prog_14_method_28_code 43 = .ok (.if_icmp .ne 10, 3) := by decide +kernel
theorem d_Mod_about_53 : decode prog_14_method_28_code 53 = .ok (.aload_n 0, 1) := by decide +kernel
theorem d_Mod_about_54 : decode prog_14_method_28_code 54 = .ok (.getfield 19, 3) := by decide +kernel
theorem d_Mod_about_57 : decode prog_14_method_28_code 57 = .ok (.iload_n 1, 1) := by decide +kernel
theorem d_Mod_about_58 : decode prog_14_method_28_code 58 = .ok (.invokevirtual 364, 3) := by decide +kernel
theorem d_Mod_about_61 : decode prog_14_method_28_code 61 = .ok (.ireturn, 1) := by decide +kernel
theorem gV_Mod_364 : GoodIn tw (wsV "DrawingMachineModel" 364 "DrawingMachineModel$DrawCommandsModel" y_Cmd_about ((Cond.code y_Cmd_about prog_15_method_31_code 2 (some .int)) :: tw)) := tw_pre (fun _ h => h) (tw_good (fun _ h => h) k688) (List.forall_mem_cons.mpr ⟨k685, List.forall_mem_cons.mpr ⟨k686, List.forall_mem_cons.mpr ⟨k687, List.forall_mem_cons.mpr ⟨k137, fun _ h => absurd h List.not_mem_nil⟩⟩⟩⟩)
set_option maxHeartbeats 4000000 in
set_option maxRecDepth 100000 in
theorem c_Mabout_0 (l : Launch) (D : va_G) (cI cL : ClassId) (B sz : Nat) (h0 : Nat) (q562 : Nat) (z565 : Nat) (z566 : Nat) (z567 : Nat) (z568 : Nat) (z569 : Nat) (q571 : Nat) (q574 : Nat) (q577 : Nat) (q580 : Nat) (q583 : Nat) (q586 : Nat) (q599 : Nat) (q600 : Nat) (q601 : Nat) (q602 : Nat) : Met l y_Mod_about ((Cond.code y_Mod_about prog_14_method_28_code 2 (some .int)) :: tw) ({ frames := 40, cells := 0, slots := 0, locals := 4000 }) (va_Pc [.ref h0, .int 0] (wP D cI cL B sz [(h0, .inr (12, [.int 0, .int 1, .int 1, .ref q562, .ref q571, .ref q574, .ref q577, .ref q580, .ref q583, .ref q586, .int 0, .int (-1), .int 0, .int 0, .long 0, .ref q599, .ref q600, .ref q601, .ref q602])), (q562, .inr (13, [.int 0, .ref z565, .int 1, .int 1, .ref z566, .int 0, .int 0, .int 0, .ref z567, .int 0, .int 0, .int (-1), .int (-1), .int 0, .int (-1), .int 0, .ref z568, .ref z569]))])) (va_Qi (S := Unit) (fun r u => r = 0) (fun u => wB D cI cL (va_A [(h0, .inr (12, [.int 0, .int 1, .int 1, .ref q562, .ref q571, .ref q574, .ref q577, .ref q580, .ref q583, .ref q586, .int 0, .int (-1), .int 0, .int 0, .long 0, .ref q599, .ref q600, .ref q601, .ref q602])), (q562, .inr (13, [.int 0, .ref z565, .int 1, .int 1, .ref z566, .int 0, .int 0, .int 0, .ref z567, .int 0, .int 0, .int (-1), .int (-1), .int 0, .int (-1), .int 0, .ref z568, .ref z569]))] sz) ((fun _ : Unit => [(h0, .inr (12, [.int 0, .int 1, .int 1, .ref q562, .ref q571, .ref q574, .ref q577, .ref q580, .ref q583, .ref q586, .int 0, .int (-1), .int 0, .int 0, .long 0, .ref q599, .ref q600, .ref q601, .ref q602]))]) u)) (va_A [(h0, .inr (12, [.int 0, .int 1, .int 1, .ref q562, .ref q571, .ref q574, .ref q577, .ref q580, .ref q583, .ref q586, .int 0, .int (-1), .int 0, .int 0, .long 0, .ref q599, .ref q600, .ref q601, .ref q602])), (q562, .inr (13, [.int 0, .ref z565, .int 1, .int 1, .ref z566, .int 0, .int 0, .int 0, .ref z567, .int 0, .int 0, .int (-1), .int (-1), .int 0, .int (-1), .int 0, .ref z568, .ref z569]))] sz)) 0 0 (va_A [(h0, .inr (12, [.int 0, .int 1, .int 1, .ref q562, .ref q571, .ref q574, .ref q577, .ref q580, .ref q583, .ref q586, .int 0, .int (-1), .int 0, .int 0, .long 0, .ref q599, .ref q600, .ref q601, .ref q602])), (q562, .inr (13, [.int 0, .ref z565, .int 1, .int 1, .ref z566, .int 0, .int 0, .int 0, .ref z567, .int 0, .int 0, .int (-1), .int (-1), .int 0, .int (-1), .int 0, .ref z568, .ref z569]))] sz) := by
  refine Met.ofW (cc := prog_14_method_28_code) (maxL := 2) (ret := (some .int)) (by decide) rfl ?_
  intro p e s m args below meth c s₁ B0 hml hv
  obtain ⟨rfl, hv⟩ := hv
  have hx := B0.exec
  have hb := B0.bytes
  have hr := B0.returns
  have hts := atoms_spec (ws := (Cond.code y_Mod_about prog_14_method_28_code 2 (some .int)) :: tw) B0.pre
  have htw : ∀ w ∈ tw, w.before _ s = true := fun w hw => hts w (List.mem_cons_of_mem _ hw)
  have hown : s.vm.findClass "DrawingMachineModel" = some m.cls := findClass_of_methodNamed B0.named
  have hlocks := B0.notSynchronized
  obtain ⟨hC, hP, hD, hsz⟩ := wC_init hv
  subst hsz
  generalize hAe : va_A [(h0, .inr (12, [.int 0, .int 1, .int 1, .ref q562, .ref q571, .ref q574, .ref q577, .ref q580, .ref q583, .ref q586, .int 0, .int (-1), .int 0, .int 0, .long 0, .ref q599, .ref q600, .ref q601, .ref q602])), (q562, .inr (13, [.int 0, .ref z565, .int 1, .int 1, .ref z566, .int 0, .int 0, .int 0, .ref z567, .int 0, .int 0, .int (-1), .int (-1), .int 0, .int (-1), .int 0, .ref z568, .ref z569]))] s.heap.size = A at hC hD ⊢
  have hS : va_S A s.heap s.heap [] := va_S.rf
  have hl := lv_entry ([.ref h0, .int 0]) (n := 2) (Nat.le_of_ble_eq_true rfl)
  rw [lg_entry_eq]
  generalize (lg_sl ([.ref h0, .int 0]) ++ List.replicate (2 - (lg_sl ([.ref h0, .int 0])).length) Slot.unset).toArray = ls at hl ⊢
  have hl : lv_has ls 2 [(0, .ref h0), (1, .int 0)] := hl
  refine lv_aload_n hx hb d_Mod_about_0 rfl (lv_at hl 0 rfl) ?_
  refine lv_iload_n hx hb d_Mod_about_1 rfl (lv_at hl 1 rfl) ?_
  refine lv_i2l (v := 0) hx hb d_Mod_about_2 (by decide) ?_
  refine lv_lconst (v := 0) hx hb d_Mod_about_3 (by decide) ?_
  refine lv_ldc2 (v := 8) hx hb hown (htw _ k683) d_Mod_about_4 ?_
  refine wc_i (wr := [(h0, .inr (12, [.int 0, .int 1, .int 1, .ref q562, .ref q571, .ref q574, .ref q577, .ref q580, .ref q583, .ref q586, .int 0, .int (-1), .int 0, .int 0, .long 0, .ref q599, .ref q600, .ref q601, .ref q602])), (q562, .inr (13, [.int 0, .ref z565, .int 1, .int 1, .ref z566, .int 0, .int 0, .int 0, .ref z567, .int 0, .int 0, .int (-1), .int (-1), .int 0, .int (-1), .int 0, .ref z568, .ref z569]))]) hC hP hD hS [] [0, 1] rfl rfl (by decide) (by decide) (va_runS (As := [.long 0, .long 0, .long 8]) (rest := [.ref h0]) ⟨hx, hb, hml, hown, htw⟩ (c_Mod_in_t l D cI cL B _ 0 0 8 (by decide) (by decide)) (va_cwS 3 htw gS_Mod_90 rfl rfl rfl (by decide +kernel) ⟨Nat.le_of_ble_eq_true rfl, Nat.le_of_ble_eq_true rfl⟩) (wC_pre hC hP hD hS [] (by decide) rfl) rfl rfl hl.1 rfl (lv_room (Nat.le_of_ble_eq_true rfl)) d_Mod_about_7 ⟨Nat.le_of_ble_eq_true rfl, Nat.le_of_ble_eq_true rfl⟩) (fun r903 u901 H locs hw902 hP hD hS => ?_)
  obtain rfl : r903 = 1 := hw902
  have hP : va_P D classes [(h0, .inr (12, [.int 0, .int 1, .int 1, .ref q562, .ref q571, .ref q574, .ref q577, .ref q580, .ref q583, .ref q586, .int 0, .int (-1), .int 0, .int 0, .long 0, .ref q599, .ref q600, .ref q601, .ref q602])), (q562, .inr (13, [.int 0, .ref z565, .int 1, .int 1, .ref z566, .int 0, .int 0, .int 0, .ref z567, .int 0, .int 0, .int (-1), .int (-1), .int 0, .int (-1), .int 0, .ref z568, .ref z569]))] H := hP
  have hD : va_D A [(h0, .inr (12, [.int 0, .int 1, .int 1, .ref q562, .ref q571, .ref q574, .ref q577, .ref q580, .ref q583, .ref q586, .int 0, .int (-1), .int 0, .int 0, .long 0, .ref q599, .ref q600, .ref q601, .ref q602])), (q562, .inr (13, [.int 0, .ref z565, .int 1, .int 1, .ref z566, .int 0, .int 0, .int 0, .ref z567, .int 0, .int 0, .int (-1), .int (-1), .int 0, .int (-1), .int 0, .ref z568, .ref z569]))] := hD
  refine W.widen (k := 0) (n := 0) (by omega) (by omega) ?_
  refine lv_if_ne (tgt := 17) hx hb d_Mod_about_10 (by decide) (fun c_904 => ?_) (fun c_904 => absurd c_904 (by decide))
  refine lv_iconst (v := 0) hx hb d_Mod_about_17 (by decide) ?_
  refine lv_iconst (v := 0) hx hb d_Mod_about_18 (by decide) ?_
  refine wc_i (wr := [(q562, .inr (13, [.int 0, .ref z565, .int 1, .int 1, .ref z566, .int 0, .int 0, .int 0, .ref z567, .int 0, .int 0, .int (-1), .int (-1), .int 0, .int (-1), .int 0, .ref z568, .ref z569]))]) hC hP hD hS [0] [1] rfl rfl (by decide) (by decide) (va_runV (As := [.int 0, .int 0]) (rest := []) ⟨hx, hb, hml, hown, htw⟩ (c_Mref_00 l D cI cL B _ h0 q562 q571 q574 q577 q580 q583 q586 q599 q600 q601 q602) (cwV 2 htw gV_Mod_94 rfl rfl rfl (by decide +kernel) ⟨Nat.le_of_ble_eq_true rfl, Nat.le_of_ble_eq_true rfl⟩) (wC_preV (As := [.int 0, .int 0]) hC hP hD hS [0] (by decide) rfl (q0 := 0) rfl rfl) rfl rfl hl.1 rfl (lv_room (Nat.le_of_ble_eq_true rfl)) d_Mod_about_19 ⟨Nat.le_of_ble_eq_true rfl, Nat.le_of_ble_eq_true rfl⟩) (fun r907 u905 H locs hw906 hP hD hS => ?_)
  obtain rfl : r907 = 0 := hw906
  have hP : va_P D classes [(q562, .inr (13, [.int 0, .ref z565, .int 1, .int 1, .ref z566, .int 0, .int 0, .int 0, .ref z567, .int 0, .int 0, .int (-1), .int (-1), .int 0, .int (-1), .int 0, .ref z568, .ref z569])), (h0, .inr (12, [.int 0, .int 1, .int 1, .ref q562, .ref q571, .ref q574, .ref q577, .ref q580, .ref q583, .ref q586, .int 0, .int (-1), .int 0, .int 0, .long 0, .ref q599, .ref q600, .ref q601, .ref q602]))] H := hP
  have hD : va_D A [(q562, .inr (13, [.int 0, .ref z565, .int 1, .int 1, .ref z566, .int 0, .int 0, .int 0, .ref z567, .int 0, .int 0, .int (-1), .int (-1), .int 0, .int (-1), .int 0, .ref z568, .ref z569])), (h0, .inr (12, [.int 0, .int 1, .int 1, .ref q562, .ref q571, .ref q574, .ref q577, .ref q580, .ref q583, .ref q586, .int 0, .int (-1), .int 0, .int 0, .long 0, .ref q599, .ref q600, .ref q601, .ref q602]))] := hD
  refine W.widen (k := 0) (n := 0) (by omega) (by omega) ?_
  refine lv_if_eq (tgt := 27) hx hb d_Mod_about_22 (by decide) (fun c_908 => ?_) (fun c_908 => absurd c_908 (by decide))
  refine lv_iload_n hx hb d_Mod_about_27 rfl (lv_at hl 1 rfl) ?_
  refine lv_bipush (v := 7) hx hb d_Mod_about_28 (by decide) ?_
  refine lv_icmp_ne (tgt := 40) hx hb d_Mod_about_30 (by decide) (fun c_909 => ?_) (fun c_909 => absurd c_909 (by decide))
  refine lv_iload_n hx hb d_Mod_about_40 rfl (lv_at hl 1 rfl) ?_
  refine lv_bipush (v := 8) hx hb d_Mod_about_41 (by decide) ?_
  refine lv_icmp_ne (tgt := 53) hx hb d_Mod_about_43 (by decide) (fun c_910 => ?_) (fun c_910 => absurd c_910 (by decide))
  refine lv_aload_n hx hb d_Mod_about_53 rfl (lv_at hl 0 rfl) ?_
  refine va_get (D := D) (ci := 12) (v := .ref q562) (C := R_Mod) (T := F_Mod) (N := 19) hx hb htw i_Mod hown hC.1 hP 1 rfl rfl 3 (by decide) (htw _ k521) (fun _ h9 => h9) rfl d_Mod_about_54 ?_
  refine lv_iload_n hx hb d_Mod_about_57 rfl (lv_at hl 1 rfl) ?_
  refine wc_i (wr := [(h0, .inr (12, [.int 0, .int 1, .int 1, .ref q562, .ref q571, .ref q574, .ref q577, .ref q580, .ref q583, .ref q586, .int 0, .int (-1), .int 0, .int 0, .long 0, .ref q599, .ref q600, .ref q601, .ref q602]))]) hC hP hD hS [0] [1] rfl rfl (by decide) (by decide) (va_runV (As := [.int 0]) (rest := []) ⟨hx, hb, hml, hown, htw⟩ (c_Cabout_0 l D cI cL B _ q562 z565 z566 z567 z568 z569) (cwV 1 htw gV_Mod_364 rfl rfl rfl (by decide +kernel) ⟨Nat.le_of_ble_eq_true rfl, Nat.le_of_ble_eq_true rfl⟩) (wC_preV (As := [.int 0]) hC hP hD hS [0] (by decide) rfl (q0 := 0) rfl rfl) rfl rfl hl.1 rfl (lv_room (Nat.le_of_ble_eq_true rfl)) d_Mod_about_58 ⟨Nat.le_of_ble_eq_true rfl, Nat.le_of_ble_eq_true rfl⟩) (fun r913 u911 H locs hw912 hP hD hS => ?_)
  obtain rfl : r913 = 0 := hw912
  have hP : va_P D classes [(h0, .inr (12, [.int 0, .int 1, .int 1, .ref q562, .ref q571, .ref q574, .ref q577, .ref q580, .ref q583, .ref q586, .int 0, .int (-1), .int 0, .int 0, .long 0, .ref q599, .ref q600, .ref q601, .ref q602]))] H := hP
  have hD : va_D A [(h0, .inr (12, [.int 0, .int 1, .int 1, .ref q562, .ref q571, .ref q574, .ref q577, .ref q580, .ref q583, .ref q586, .int 0, .int (-1), .int 0, .int 0, .long 0, .ref q599, .ref q600, .ref q601, .ref q602]))] := hD
  refine W.widen (k := 0) (n := 0) (by omega) (by omega) ?_
  refine W.widen (k := 0) (n := 0) (Nat.le_of_ble_eq_true rfl) (Nat.le_of_ble_eq_true rfl) ?_
  have hP9 := hP.sub (ws' := [(h0, .inr (12, [.int 0, .int 1, .int 1, .ref q562, .ref q571, .ref q574, .ref q577, .ref q580, .ref q583, .ref q586, .int 0, .int (-1), .int 0, .int 0, .long 0, .ref q599, .ref q600, .ref q601, .ref q602]))]) [0] rfl
  have hD9 := hD.sub (ws' := [(h0, .inr (12, [.int 0, .int 1, .int 1, .ref q562, .ref q571, .ref q574, .ref q577, .ref q580, .ref q583, .ref q586, .int 0, .int (-1), .int 0, .int 0, .long 0, .ref q599, .ref q600, .ref q601, .ref q602]))]) [0] (by decide) rfl
  exact W.iret (v := 0) hx hb hr (fun t ht hW => ⟨⟨0, (), rfl, rfl, by rw [ht]; exact hP9, va_K.moved hW.alike hC.1, hD9⟩, hS.F ht⟩) hS.2.2 d_Mod_about_61

set_option maxHeartbeats 4000000 in
set_option maxRecDepth 100000 in
theorem c_Mabout_1 (l : Launch) (D : va_G) (cI cL : ClassId) (B sz : Nat) (h0 : Nat) (q562 : Nat) (z565 : Nat) (z566 : Nat) (z567 : Nat) (z568 : Nat) (z569 : Nat) (q571 : Nat) (q574 : Nat) (q577 : Nat) (q580 : Nat) (q583 : Nat) (q586 : Nat) (q599 : Nat) (q600 : Nat) (q601 : Nat) (q602 : Nat) : Met l y_Mod_about ((Cond.code y_Mod_about prog_14_method_28_code 2 (some .int)) :: tw) ({ frames := 40, cells := 0, slots := 0, locals := 4000 }) (va_Pc [.ref h0, .int 1] (wP D cI cL B sz [(h0, .inr (12, [.int 0, .int 1, .int 1, .ref q562, .ref q571, .ref q574, .ref q577, .ref q580, .ref q583, .ref q586, .int 0, .int (-1), .int 0, .int 0, .long 0, .ref q599, .ref q600, .ref q601, .ref q602])), (q562, .inr (13, [.int 0, .ref z565, .int 1, .int 1, .ref z566, .int 0, .int 0, .int 0, .ref z567, .int 0, .int 0, .int (-1), .int (-1), .int 0, .int (-1), .int 0, .ref z568, .ref z569]))])) (va_Qi (S := Unit) (fun r u => r = 0) (fun u => wB D cI cL (va_A [(h0, .inr (12, [.int 0, .int 1, .int 1, .ref q562, .ref q571, .ref q574, .ref q577, .ref q580, .ref q583, .ref q586, .int 0, .int (-1), .int 0, .int 0, .long 0, .ref q599, .ref q600, .ref q601, .ref q602])), (q562, .inr (13, [.int 0, .ref z565, .int 1, .int 1, .ref z566, .int 0, .int 0, .int 0, .ref z567, .int 0, .int 0, .int (-1), .int (-1), .int 0, .int (-1), .int 0, .ref z568, .ref z569]))] sz) ((fun _ : Unit => [(h0, .inr (12, [.int 0, .int 1, .int 1, .ref q562, .ref q571, .ref q574, .ref q577, .ref q580, .ref q583, .ref q586, .int 0, .int (-1), .int 0, .int 0, .long 0, .ref q599, .ref q600, .ref q601, .ref q602]))]) u)) (va_A [(h0, .inr (12, [.int 0, .int 1, .int 1, .ref q562, .ref q571, .ref q574, .ref q577, .ref q580, .ref q583, .ref q586, .int 0, .int (-1), .int 0, .int 0, .long 0, .ref q599, .ref q600, .ref q601, .ref q602])), (q562, .inr (13, [.int 0, .ref z565, .int 1, .int 1, .ref z566, .int 0, .int 0, .int 0, .ref z567, .int 0, .int 0, .int (-1), .int (-1), .int 0, .int (-1), .int 0, .ref z568, .ref z569]))] sz)) 0 0 (va_A [(h0, .inr (12, [.int 0, .int 1, .int 1, .ref q562, .ref q571, .ref q574, .ref q577, .ref q580, .ref q583, .ref q586, .int 0, .int (-1), .int 0, .int 0, .long 0, .ref q599, .ref q600, .ref q601, .ref q602])), (q562, .inr (13, [.int 0, .ref z565, .int 1, .int 1, .ref z566, .int 0, .int 0, .int 0, .ref z567, .int 0, .int 0, .int (-1), .int (-1), .int 0, .int (-1), .int 0, .ref z568, .ref z569]))] sz) := by
  refine Met.ofW (cc := prog_14_method_28_code) (maxL := 2) (ret := (some .int)) (by decide) rfl ?_
  intro p e s m args below meth c s₁ B0 hml hv
  obtain ⟨rfl, hv⟩ := hv
  have hx := B0.exec
  have hb := B0.bytes
  have hr := B0.returns
  have hts := atoms_spec (ws := (Cond.code y_Mod_about prog_14_method_28_code 2 (some .int)) :: tw) B0.pre
  have htw : ∀ w ∈ tw, w.before _ s = true := fun w hw => hts w (List.mem_cons_of_mem _ hw)
  have hown : s.vm.findClass "DrawingMachineModel" = some m.cls := findClass_of_methodNamed B0.named
  have hlocks := B0.notSynchronized
  obtain ⟨hC, hP, hD, hsz⟩ := wC_init hv
  subst hsz
  generalize hAe : va_A [(h0, .inr (12, [.int 0, .int 1, .int 1, .ref q562, .ref q571, .ref q574, .ref q577, .ref q580, .ref q583, .ref q586, .int 0, .int (-1), .int 0, .int 0, .long 0, .ref q599, .ref q600, .ref q601, .ref q602])), (q562, .inr (13, [.int 0, .ref z565, .int 1, .int 1, .ref z566, .int 0, .int 0, .int 0, .ref z567, .int 0, .int 0, .int (-1), .int (-1), .int 0, .int (-1), .int 0, .ref z568, .ref z569]))] s.heap.size = A at hC hD ⊢
  have hS : va_S A s.heap s.heap [] := va_S.rf
  have hl := lv_entry ([.ref h0, .int 1]) (n := 2) (Nat.le_of_ble_eq_true rfl)
  rw [lg_entry_eq]
  generalize (lg_sl ([.ref h0, .int 1]) ++ List.replicate (2 - (lg_sl ([.ref h0, .int 1])).length) Slot.unset).toArray = ls at hl ⊢
  have hl : lv_has ls 2 [(0, .ref h0), (1, .int 1)] := hl
  refine lv_aload_n hx hb d_Mod_about_0 rfl (lv_at hl 0 rfl) ?_
  refine lv_iload_n hx hb d_Mod_about_1 rfl (lv_at hl 1 rfl) ?_
  refine lv_i2l (v := 1) hx hb d_Mod_about_2 (by decide) ?_
  refine lv_lconst (v := 0) hx hb d_Mod_about_3 (by decide) ?_
  refine lv_ldc2 (v := 8) hx hb hown (htw _ k683) d_Mod_about_4 ?_
  refine wc_i (wr := [(h0, .inr (12, [.int 0, .int 1, .int 1, .ref q562, .ref q571, .ref q574, .ref q577, .ref q580, .ref q583, .ref q586, .int 0, .int (-1), .int 0, .int 0, .long 0, .ref q599, .ref q600, .ref q601, .ref q602])), (q562, .inr (13, [.int 0, .ref z565, .int 1, .int 1, .ref z566, .int 0, .int 0, .int 0, .ref z567, .int 0, .int 0, .int (-1), .int (-1), .int 0, .int (-1), .int 0, .ref z568, .ref z569]))]) hC hP hD hS [] [0, 1] rfl rfl (by decide) (by decide) (va_runS (As := [.long 1, .long 0, .long 8]) (rest := [.ref h0]) ⟨hx, hb, hml, hown, htw⟩ (c_Mod_in_t l D cI cL B _ 1 0 8 (by decide) (by decide)) (va_cwS 3 htw gS_Mod_90 rfl rfl rfl (by decide +kernel) ⟨Nat.le_of_ble_eq_true rfl, Nat.le_of_ble_eq_true rfl⟩) (wC_pre hC hP hD hS [] (by decide) rfl) rfl rfl hl.1 rfl (lv_room (Nat.le_of_ble_eq_true rfl)) d_Mod_about_7 ⟨Nat.le_of_ble_eq_true rfl, Nat.le_of_ble_eq_true rfl⟩) (fun r916 u914 H locs hw915 hP hD hS => ?_)
  obtain rfl : r916 = 1 := hw915
  have hP : va_P D classes [(h0, .inr (12, [.int 0, .int 1, .int 1, .ref q562, .ref q571, .ref q574, .ref q577, .ref q580, .ref q583, .ref q586, .int 0, .int (-1), .int 0, .int 0, .long 0, .ref q599, .ref q600, .ref q601, .ref q602])), (q562, .inr (13, [.int 0, .ref z565, .int 1, .int 1, .ref z566, .int 0, .int 0, .int 0, .ref z567, .int 0, .int 0, .int (-1), .int (-1), .int 0, .int (-1), .int 0, .ref z568, .ref z569]))] H := hP
  have hD : va_D A [(h0, .inr (12, [.int 0, .int 1, .int 1, .ref q562, .ref q571, .ref q574, .ref q577, .ref q580, .ref q583, .ref q586, .int 0, .int (-1), .int 0, .int 0, .long 0, .ref q599, .ref q600, .ref q601, .ref q602])), (q562, .inr (13, [.int 0, .ref z565, .int 1, .int 1, .ref z566, .int 0, .int 0, .int 0, .ref z567, .int 0, .int 0, .int (-1), .int (-1), .int 0, .int (-1), .int 0, .ref z568, .ref z569]))] := hD
  refine W.widen (k := 0) (n := 0) (by omega) (by omega) ?_
  refine lv_if_ne (tgt := 17) hx hb d_Mod_about_10 (by decide) (fun c_917 => ?_) (fun c_917 => absurd c_917 (by decide))
  refine lv_iconst (v := 0) hx hb d_Mod_about_17 (by decide) ?_
  refine lv_iconst (v := 0) hx hb d_Mod_about_18 (by decide) ?_
  refine wc_i (wr := [(q562, .inr (13, [.int 0, .ref z565, .int 1, .int 1, .ref z566, .int 0, .int 0, .int 0, .ref z567, .int 0, .int 0, .int (-1), .int (-1), .int 0, .int (-1), .int 0, .ref z568, .ref z569]))]) hC hP hD hS [0] [1] rfl rfl (by decide) (by decide) (va_runV (As := [.int 0, .int 0]) (rest := []) ⟨hx, hb, hml, hown, htw⟩ (c_Mref_00 l D cI cL B _ h0 q562 q571 q574 q577 q580 q583 q586 q599 q600 q601 q602) (cwV 2 htw gV_Mod_94 rfl rfl rfl (by decide +kernel) ⟨Nat.le_of_ble_eq_true rfl, Nat.le_of_ble_eq_true rfl⟩) (wC_preV (As := [.int 0, .int 0]) hC hP hD hS [0] (by decide) rfl (q0 := 0) rfl rfl) rfl rfl hl.1 rfl (lv_room (Nat.le_of_ble_eq_true rfl)) d_Mod_about_19 ⟨Nat.le_of_ble_eq_true rfl, Nat.le_of_ble_eq_true rfl⟩) (fun r920 u918 H locs hw919 hP hD hS => ?_)
  obtain rfl : r920 = 0 := hw919
  have hP : va_P D classes [(q562, .inr (13, [.int 0, .ref z565, .int 1, .int 1, .ref z566, .int 0, .int 0, .int 0, .ref z567, .int 0, .int 0, .int (-1), .int (-1), .int 0, .int (-1), .int 0, .ref z568, .ref z569])), (h0, .inr (12, [.int 0, .int 1, .int 1, .ref q562, .ref q571, .ref q574, .ref q577, .ref q580, .ref q583, .ref q586, .int 0, .int (-1), .int 0, .int 0, .long 0, .ref q599, .ref q600, .ref q601, .ref q602]))] H := hP
  have hD : va_D A [(q562, .inr (13, [.int 0, .ref z565, .int 1, .int 1, .ref z566, .int 0, .int 0, .int 0, .ref z567, .int 0, .int 0, .int (-1), .int (-1), .int 0, .int (-1), .int 0, .ref z568, .ref z569])), (h0, .inr (12, [.int 0, .int 1, .int 1, .ref q562, .ref q571, .ref q574, .ref q577, .ref q580, .ref q583, .ref q586, .int 0, .int (-1), .int 0, .int 0, .long 0, .ref q599, .ref q600, .ref q601, .ref q602]))] := hD
  refine W.widen (k := 0) (n := 0) (by omega) (by omega) ?_
  refine lv_if_eq (tgt := 27) hx hb d_Mod_about_22 (by decide) (fun c_921 => ?_) (fun c_921 => absurd c_921 (by decide))
  refine lv_iload_n hx hb d_Mod_about_27 rfl (lv_at hl 1 rfl) ?_
  refine lv_bipush (v := 7) hx hb d_Mod_about_28 (by decide) ?_
  refine lv_icmp_ne (tgt := 40) hx hb d_Mod_about_30 (by decide) (fun c_922 => ?_) (fun c_922 => absurd c_922 (by decide))
  refine lv_iload_n hx hb d_Mod_about_40 rfl (lv_at hl 1 rfl) ?_
  refine lv_bipush (v := 8) hx hb d_Mod_about_41 (by decide) ?_
  refine lv_icmp_ne (tgt := 53) hx hb d_Mod_about_43 (by decide) (fun c_923 => ?_) (fun c_923 => absurd c_923 (by decide))
  refine lv_aload_n hx hb d_Mod_about_53 rfl (lv_at hl 0 rfl) ?_
  refine va_get (D := D) (ci := 12) (v := .ref q562) (C := R_Mod) (T := F_Mod) (N := 19) hx hb htw i_Mod hown hC.1 hP 1 rfl rfl 3 (by decide) (htw _ k521) (fun _ h9 => h9) rfl d_Mod_about_54 ?_
  refine lv_iload_n hx hb d_Mod_about_57 rfl (lv_at hl 1 rfl) ?_
  refine wc_i (wr := [(h0, .inr (12, [.int 0, .int 1, .int 1, .ref q562, .ref q571, .ref q574, .ref q577, .ref q580, .ref q583, .ref q586, .int 0, .int (-1), .int 0, .int 0, .long 0, .ref q599, .ref q600, .ref q601, .ref q602]))]) hC hP hD hS [0] [1] rfl rfl (by decide) (by decide) (va_runV (As := [.int 1]) (rest := []) ⟨hx, hb, hml, hown, htw⟩ (c_Cabout_1 l D cI cL B _ q562 z565 z566 z567 z568 z569) (cwV 1 htw gV_Mod_364 rfl rfl rfl (by decide +kernel) ⟨Nat.le_of_ble_eq_true rfl, Nat.le_of_ble_eq_true rfl⟩) (wC_preV (As := [.int 1]) hC hP hD hS [0] (by decide) rfl (q0 := 0) rfl rfl) rfl rfl hl.1 rfl (lv_room (Nat.le_of_ble_eq_true rfl)) d_Mod_about_58 ⟨Nat.le_of_ble_eq_true rfl, Nat.le_of_ble_eq_true rfl⟩) (fun r926 u924 H locs hw925 hP hD hS => ?_)
  obtain rfl : r926 = 0 := hw925
  have hP : va_P D classes [(h0, .inr (12, [.int 0, .int 1, .int 1, .ref q562, .ref q571, .ref q574, .ref q577, .ref q580, .ref q583, .ref q586, .int 0, .int (-1), .int 0, .int 0, .long 0, .ref q599, .ref q600, .ref q601, .ref q602]))] H := hP
  have hD : va_D A [(h0, .inr (12, [.int 0, .int 1, .int 1, .ref q562, .ref q571, .ref q574, .ref q577, .ref q580, .ref q583, .ref q586, .int 0, .int (-1), .int 0, .int 0, .long 0, .ref q599, .ref q600, .ref q601, .ref q602]))] := hD
  refine W.widen (k := 0) (n := 0) (by omega) (by omega) ?_
  refine W.widen (k := 0) (n := 0) (Nat.le_of_ble_eq_true rfl) (Nat.le_of_ble_eq_true rfl) ?_
  have hP9 := hP.sub (ws' := [(h0, .inr (12, [.int 0, .int 1, .int 1, .ref q562, .ref q571, .ref q574, .ref q577, .ref q580, .ref q583, .ref q586, .int 0, .int (-1), .int 0, .int 0, .long 0, .ref q599, .ref q600, .ref q601, .ref q602]))]) [0] rfl
  have hD9 := hD.sub (ws' := [(h0, .inr (12, [.int 0, .int 1, .int 1, .ref q562, .ref q571, .ref q574, .ref q577, .ref q580, .ref q583, .ref q586, .int 0, .int (-1), .int 0, .int 0, .long 0, .ref q599, .ref q600, .ref q601, .ref q602]))]) [0] (by decide) rfl
  exact W.iret (v := 0) hx hb hr (fun t ht hW => ⟨⟨0, (), rfl, rfl, by rw [ht]; exact hP9, va_K.moved hW.alike hC.1, hD9⟩, hS.F ht⟩) hS.2.2 d_Mod_about_61

set_option maxHeartbeats 4000000 in
set_option maxRecDepth 100000 in
theorem c_Mabout_2 (l : Launch) (D : va_G) (cI cL : ClassId) (B sz : Nat) (h0 : Nat) (q562 : Nat) (z565 : Nat) (z566 : Nat) (z567 : Nat) (z568 : Nat) (z569 : Nat) (q571 : Nat) (q574 : Nat) (q577 : Nat) (q580 : Nat) (q583 : Nat) (q586 : Nat) (q599 : Nat) (q600 : Nat) (q601 : Nat) (q602 : Nat) : Met l y_Mod_about ((Cond.code y_Mod_about prog_14_method_28_code 2 (some .int)) :: tw) ({ frames := 40, cells := 0, slots := 0, locals := 4000 }) (va_Pc [.ref h0, .int 2] (wP D cI cL B sz [(h0, .inr (12, [.int 0, .int 1, .int 1, .ref q562, .ref q571, .ref q574, .ref q577, .ref q580, .ref q583, .ref q586, .int 0, .int (-1), .int 0, .int 0, .long 0, .ref q599, .ref q600, .ref q601, .ref q602])), (q562, .inr (13, [.int 0, .ref z565, .int 1, .int 1, .ref z566, .int 0, .int 0, .int 0, .ref z567, .int 0, .int 0, .int (-1), .int (-1), .int 0, .int (-1), .int 0, .ref z568, .ref z569]))])) (va_Qi (S := Unit) (fun r u => r = (-1)) (fun u => wB D cI cL (va_A [(h0, .inr (12, [.int 0, .int 1, .int 1, .ref q562, .ref q571, .ref q574, .ref q577, .ref q580, .ref q583, .ref q586, .int 0, .int (-1), .int 0, .int 0, .long 0, .ref q599, .ref q600, .ref q601, .ref q602])), (q562, .inr (13, [.int 0, .ref z565, .int 1, .int 1, .ref z566, .int 0, .int 0, .int 0, .ref z567, .int 0, .int 0, .int (-1), .int (-1), .int 0, .int (-1), .int 0, .ref z568, .ref z569]))] sz) ((fun _ : Unit => [(h0, .inr (12, [.int 0, .int 1, .int 1, .ref q562, .ref q571, .ref q574, .ref q577, .ref q580, .ref q583, .ref q586, .int 0, .int (-1), .int 0, .int 0, .long 0, .ref q599, .ref q600, .ref q601, .ref q602]))]) u)) (va_A [(h0, .inr (12, [.int 0, .int 1, .int 1, .ref q562, .ref q571, .ref q574, .ref q577, .ref q580, .ref q583, .ref q586, .int 0, .int (-1), .int 0, .int 0, .long 0, .ref q599, .ref q600, .ref q601, .ref q602])), (q562, .inr (13, [.int 0, .ref z565, .int 1, .int 1, .ref z566, .int 0, .int 0, .int 0, .ref z567, .int 0, .int 0, .int (-1), .int (-1), .int 0, .int (-1), .int 0, .ref z568, .ref z569]))] sz)) 0 0 (va_A [(h0, .inr (12, [.int 0, .int 1, .int 1, .ref q562, .ref q571, .ref q574, .ref q577, .ref q580, .ref q583, .ref q586, .int 0, .int (-1), .int 0, .int 0, .long 0, .ref q599, .ref q600, .ref q601, .ref q602])), (q562, .inr (13, [.int 0, .ref z565, .int 1, .int 1, .ref z566, .int 0, .int 0, .int 0, .ref z567, .int 0, .int 0, .int (-1), .int (-1), .int 0, .int (-1), .int 0, .ref z568, .ref z569]))] sz) := by
  refine Met.ofW (cc := prog_14_method_28_code) (maxL := 2) (ret := (some .int)) (by decide) rfl ?_
  intro p e s m args below meth c s₁ B0 hml hv
  obtain ⟨rfl, hv⟩ := hv
  have hx := B0.exec
  have hb := B0.bytes
  have hr := B0.returns
  have hts := atoms_spec (ws := (Cond.code y_Mod_about prog_14_method_28_code 2 (some .int)) :: tw) B0.pre
  have htw : ∀ w ∈ tw, w.before _ s = true := fun w hw => hts w (List.mem_cons_of_mem _ hw)
  have hown : s.vm.findClass "DrawingMachineModel" = some m.cls := findClass_of_methodNamed B0.named
  have hlocks := B0.notSynchronized
  obtain ⟨hC, hP, hD, hsz⟩ := wC_init hv
  subst hsz
  generalize hAe : va_A [(h0, .inr (12, [.int 0, .int 1, .int 1, .ref q562, .ref q571, .ref q574, .ref q577, .ref q580, .ref q583, .ref q586, .int 0, .int (-1), .int 0, .int 0, .long 0, .ref q599, .ref q600, .ref q601, .ref q602])), (q562, .inr (13, [.int 0, .ref z565, .int 1, .int 1, .ref z566, .int 0, .int 0, .int 0, .ref z567, .int 0, .int 0, .int (-1), .int (-1), .int 0, .int (-1), .int 0, .ref z568, .ref z569]))] s.heap.size = A at hC hD ⊢
  have hS : va_S A s.heap s.heap [] := va_S.rf
  have hl := lv_entry ([.ref h0, .int 2]) (n := 2) (Nat.le_of_ble_eq_true rfl)
  rw [lg_entry_eq]
  generalize (lg_sl ([.ref h0, .int 2]) ++ List.replicate (2 - (lg_sl ([.ref h0, .int 2])).length) Slot.unset).toArray = ls at hl ⊢
  have hl : lv_has ls 2 [(0, .ref h0), (1, .int 2)] := hl
  refine lv_aload_n hx hb d_Mod_about_0 rfl (lv_at hl 0 rfl) ?_
  refine lv_iload_n hx hb d_Mod_about_1 rfl (lv_at hl 1 rfl) ?_
  refine lv_i2l (v := 2) hx hb d_Mod_about_2 (by decide) ?_
  refine lv_lconst (v := 0) hx hb d_Mod_about_3 (by decide) ?_
  refine lv_ldc2 (v := 8) hx hb hown (htw _ k683) d_Mod_about_4 ?_
  refine wc_i (wr := [(h0, .inr (12, [.int 0, .int 1, .int 1, .ref q562, .ref q571, .ref q574, .ref q577, .ref q580, .ref q583, .ref q586, .int 0, .int (-1), .int 0, .int 0, .long 0, .ref q599, .ref q600, .ref q601, .ref q602])), (q562, .inr (13, [.int 0, .ref z565, .int 1, .int 1, .ref z566, .int 0, .int 0, .int 0, .ref z567, .int 0, .int 0, .int (-1), .int (-1), .int 0, .int (-1), .int 0, .ref z568, .ref z569]))]) hC hP hD hS [] [0, 1] rfl rfl (by decide) (by decide) (va_runS (As := [.long 2, .long 0, .long 8]) (rest := [.ref h0]) ⟨hx, hb, hml, hown, htw⟩ (c_Mod_in_t l D cI cL B _ 2 0 8 (by decide) (by decide)) (va_cwS 3 htw gS_Mod_90 rfl rfl rfl (by decide +kernel) ⟨Nat.le_of_ble_eq_true rfl, Nat.le_of_ble_eq_true rfl⟩) (wC_pre hC hP hD hS [] (by decide) rfl) rfl rfl hl.1 rfl (lv_room (Nat.le_of_ble_eq_true rfl)) d_Mod_about_7 ⟨Nat.le_of_ble_eq_true rfl, Nat.le_of_ble_eq_true rfl⟩) (fun r929 u927 H locs hw928 hP hD hS => ?_)
  obtain rfl : r929 = 1 := hw928
  have hP : va_P D classes [(h0, .inr (12, [.int 0, .int 1, .int 1, .ref q562, .ref q571, .ref q574, .ref q577, .ref q580, .ref q583, .ref q586, .int 0, .int (-1), .int 0, .int 0, .long 0, .ref q599, .ref q600, .ref q601, .ref q602])), (q562, .inr (13, [.int 0, .ref z565, .int 1, .int 1, .ref z566, .int 0, .int 0, .int 0, .ref z567, .int 0, .int 0, .int (-1), .int (-1), .int 0, .int (-1), .int 0, .ref z568, .ref z569]))] H := hP
  have hD : va_D A [(h0, .inr (12, [.int 0, .int 1, .int 1, .ref q562, .ref q571, .ref q574, .ref q577, .ref q580, .ref q583, .ref q586, .int 0, .int (-1), .int 0, .int 0, .long 0, .ref q599, .ref q600, .ref q601, .ref q602])), (q562, .inr (13, [.int 0, .ref z565, .int 1, .int 1, .ref z566, .int 0, .int 0, .int 0, .ref z567, .int 0, .int 0, .int (-1), .int (-1), .int 0, .int (-1), .int 0, .ref z568, .ref z569]))] := hD
  refine W.widen (k := 0) (n := 0) (by omega) (by omega) ?_
  refine lv_if_ne (tgt := 17) hx hb d_Mod_about_10 (by decide) (fun c_930 => ?_) (fun c_930 => absurd c_930 (by decide))
  refine lv_iconst (v := 0) hx hb d_Mod_about_17 (by decide) ?_
  refine lv_iconst (v := 0) hx hb d_Mod_about_18 (by decide) ?_
  refine wc_i (wr := [(q562, .inr (13, [.int 0, .ref z565, .int 1, .int 1, .ref z566, .int 0, .int 0, .int 0, .ref z567, .int 0, .int 0, .int (-1), .int (-1), .int 0, .int (-1), .int 0, .ref z568, .ref z569]))]) hC hP hD hS [0] [1] rfl rfl (by decide) (by decide) (va_runV (As := [.int 0, .int 0]) (rest := []) ⟨hx, hb, hml, hown, htw⟩ (c_Mref_00 l D cI cL B _ h0 q562 q571 q574 q577 q580 q583 q586 q599 q600 q601 q602) (cwV 2 htw gV_Mod_94 rfl rfl rfl (by decide +kernel) ⟨Nat.le_of_ble_eq_true rfl, Nat.le_of_ble_eq_true rfl⟩) (wC_preV (As := [.int 0, .int 0]) hC hP hD hS [0] (by decide) rfl (q0 := 0) rfl rfl) rfl rfl hl.1 rfl (lv_room (Nat.le_of_ble_eq_true rfl)) d_Mod_about_19 ⟨Nat.le_of_ble_eq_true rfl, Nat.le_of_ble_eq_true rfl⟩) (fun r933 u931 H locs hw932 hP hD hS => ?_)
  obtain rfl : r933 = 0 := hw932
  have hP : va_P D classes [(q562, .inr (13, [.int 0, .ref z565, .int 1, .int 1, .ref z566, .int 0, .int 0, .int 0, .ref z567, .int 0, .int 0, .int (-1), .int (-1), .int 0, .int (-1), .int 0, .ref z568, .ref z569])), (h0, .inr (12, [.int 0, .int 1, .int 1, .ref q562, .ref q571, .ref q574, .ref q577, .ref q580, .ref q583, .ref q586, .int 0, .int (-1), .int 0, .int 0, .long 0, .ref q599, .ref q600, .ref q601, .ref q602]))] H := hP
  have hD : va_D A [(q562, .inr (13, [.int 0, .ref z565, .int 1, .int 1, .ref z566, .int 0, .int 0, .int 0, .ref z567, .int 0, .int 0, .int (-1), .int (-1), .int 0, .int (-1), .int 0, .ref z568, .ref z569])), (h0, .inr (12, [.int 0, .int 1, .int 1, .ref q562, .ref q571, .ref q574, .ref q577, .ref q580, .ref q583, .ref q586, .int 0, .int (-1), .int 0, .int 0, .long 0, .ref q599, .ref q600, .ref q601, .ref q602]))] := hD
  refine W.widen (k := 0) (n := 0) (by omega) (by omega) ?_
  refine lv_if_eq (tgt := 27) hx hb d_Mod_about_22 (by decide) (fun c_934 => ?_) (fun c_934 => absurd c_934 (by decide))
  refine lv_iload_n hx hb d_Mod_about_27 rfl (lv_at hl 1 rfl) ?_
  refine lv_bipush (v := 7) hx hb d_Mod_about_28 (by decide) ?_
  refine lv_icmp_ne (tgt := 40) hx hb d_Mod_about_30 (by decide) (fun c_935 => ?_) (fun c_935 => absurd c_935 (by decide))
  refine lv_iload_n hx hb d_Mod_about_40 rfl (lv_at hl 1 rfl) ?_
  refine lv_bipush (v := 8) hx hb d_Mod_about_41 (by decide) ?_
  refine lv_icmp_ne (tgt := 53) hx hb d_Mod_about_43 (by decide) (fun c_936 => ?_) (fun c_936 => absurd c_936 (by decide))
  refine lv_aload_n hx hb d_Mod_about_53 rfl (lv_at hl 0 rfl) ?_
  refine va_get (D := D) (ci := 12) (v := .ref q562) (C := R_Mod) (T := F_Mod) (N := 19) hx hb htw i_Mod hown hC.1 hP 1 rfl rfl 3 (by decide) (htw _ k521) (fun _ h9 => h9) rfl d_Mod_about_54 ?_
  refine lv_iload_n hx hb d_Mod_about_57 rfl (lv_at hl 1 rfl) ?_
  refine wc_i (wr := [(h0, .inr (12, [.int 0, .int 1, .int 1, .ref q562, .ref q571, .ref q574, .ref q577, .ref q580, .ref q583, .ref q586, .int 0, .int (-1), .int 0, .int 0, .long 0, .ref q599, .ref q600, .ref q601, .ref q602]))]) hC hP hD hS [0] [1] rfl rfl (by decide) (by decide) (va_runV (As := [.int 2]) (rest := []) ⟨hx, hb, hml, hown, htw⟩ (c_Cabout_2 l D cI cL B _ q562 z565 z566 z567 z568 z569) (cwV 1 htw gV_Mod_364 rfl rfl rfl (by decide +kernel) ⟨Nat.le_of_ble_eq_true rfl, Nat.le_of_ble_eq_true rfl⟩) (wC_preV (As := [.int 2]) hC hP hD hS [0] (by decide) rfl (q0 := 0) rfl rfl) rfl rfl hl.1 rfl (lv_room (Nat.le_of_ble_eq_true rfl)) d_Mod_about_58 ⟨Nat.le_of_ble_eq_true rfl, Nat.le_of_ble_eq_true rfl⟩) (fun r939 u937 H locs hw938 hP hD hS => ?_)
  obtain rfl : r939 = (-1) := hw938
  have hP : va_P D classes [(h0, .inr (12, [.int 0, .int 1, .int 1, .ref q562, .ref q571, .ref q574, .ref q577, .ref q580, .ref q583, .ref q586, .int 0, .int (-1), .int 0, .int 0, .long 0, .ref q599, .ref q600, .ref q601, .ref q602]))] H := hP
  have hD : va_D A [(h0, .inr (12, [.int 0, .int 1, .int 1, .ref q562, .ref q571, .ref q574, .ref q577, .ref q580, .ref q583, .ref q586, .int 0, .int (-1), .int 0, .int 0, .long 0, .ref q599, .ref q600, .ref q601, .ref q602]))] := hD
  refine W.widen (k := 0) (n := 0) (by omega) (by omega) ?_
  refine W.widen (k := 0) (n := 0) (Nat.le_of_ble_eq_true rfl) (Nat.le_of_ble_eq_true rfl) ?_
  have hP9 := hP.sub (ws' := [(h0, .inr (12, [.int 0, .int 1, .int 1, .ref q562, .ref q571, .ref q574, .ref q577, .ref q580, .ref q583, .ref q586, .int 0, .int (-1), .int 0, .int 0, .long 0, .ref q599, .ref q600, .ref q601, .ref q602]))]) [0] rfl
  have hD9 := hD.sub (ws' := [(h0, .inr (12, [.int 0, .int 1, .int 1, .ref q562, .ref q571, .ref q574, .ref q577, .ref q580, .ref q583, .ref q586, .int 0, .int (-1), .int 0, .int 0, .long 0, .ref q599, .ref q600, .ref q601, .ref q602]))]) [0] (by decide) rfl
  exact W.iret (v := (-1)) hx hb hr (fun t ht hW => ⟨⟨(-1), (), rfl, rfl, by rw [ht]; exact hP9, va_K.moved hW.alike hC.1, hD9⟩, hS.F ht⟩) hS.2.2 d_Mod_about_61

set_option maxHeartbeats 4000000 in
set_option maxRecDepth 100000 in
theorem c_Mabout_3 (l : Launch) (D : va_G) (cI cL : ClassId) (B sz : Nat) (h0 : Nat) (q562 : Nat) (z565 : Nat) (z566 : Nat) (z567 : Nat) (z568 : Nat) (z569 : Nat) (q571 : Nat) (q574 : Nat) (q577 : Nat) (q580 : Nat) (q583 : Nat) (q586 : Nat) (q599 : Nat) (q600 : Nat) (q601 : Nat) (q602 : Nat) : Met l y_Mod_about ((Cond.code y_Mod_about prog_14_method_28_code 2 (some .int)) :: tw) ({ frames := 40, cells := 0, slots := 0, locals := 4000 }) (va_Pc [.ref h0, .int 3] (wP D cI cL B sz [(h0, .inr (12, [.int 0, .int 1, .int 1, .ref q562, .ref q571, .ref q574, .ref q577, .ref q580, .ref q583, .ref q586, .int 0, .int (-1), .int 0, .int 0, .long 0, .ref q599, .ref q600, .ref q601, .ref q602])), (q562, .inr (13, [.int 0, .ref z565, .int 1, .int 1, .ref z566, .int 0, .int 0, .int 0, .ref z567, .int 0, .int 0, .int (-1), .int (-1), .int 0, .int (-1), .int 0, .ref z568, .ref z569]))])) (va_Qi (S := Unit) (fun r u => r = (-1)) (fun u => wB D cI cL (va_A [(h0, .inr (12, [.int 0, .int 1, .int 1, .ref q562, .ref q571, .ref q574, .ref q577, .ref q580, .ref q583, .ref q586, .int 0, .int (-1), .int 0, .int 0, .long 0, .ref q599, .ref q600, .ref q601, .ref q602])), (q562, .inr (13, [.int 0, .ref z565, .int 1, .int 1, .ref z566, .int 0, .int 0, .int 0, .ref z567, .int 0, .int 0, .int (-1), .int (-1), .int 0, .int (-1), .int 0, .ref z568, .ref z569]))] sz) ((fun _ : Unit => [(h0, .inr (12, [.int 0, .int 1, .int 1, .ref q562, .ref q571, .ref q574, .ref q577, .ref q580, .ref q583, .ref q586, .int 0, .int (-1), .int 0, .int 0, .long 0, .ref q599, .ref q600, .ref q601, .ref q602]))]) u)) (va_A [(h0, .inr (12, [.int 0, .int 1, .int 1, .ref q562, .ref q571, .ref q574, .ref q577, .ref q580, .ref q583, .ref q586, .int 0, .int (-1), .int 0, .int 0, .long 0, .ref q599, .ref q600, .ref q601, .ref q602])), (q562, .inr (13, [.int 0, .ref z565, .int 1, .int 1, .ref z566, .int 0, .int 0, .int 0, .ref z567, .int 0, .int 0, .int (-1), .int (-1), .int 0, .int (-1), .int 0, .ref z568, .ref z569]))] sz)) 0 0 (va_A [(h0, .inr (12, [.int 0, .int 1, .int 1, .ref q562, .ref q571, .ref q574, .ref q577, .ref q580, .ref q583, .ref q586, .int 0, .int (-1), .int 0, .int 0, .long 0, .ref q599, .ref q600, .ref q601, .ref q602])), (q562, .inr (13, [.int 0, .ref z565, .int 1, .int 1, .ref z566, .int 0, .int 0, .int 0, .ref z567, .int 0, .int 0, .int (-1), .int (-1), .int 0, .int (-1), .int 0, .ref z568, .ref z569]))] sz) := by
  refine Met.ofW (cc := prog_14_method_28_code) (maxL := 2) (ret := (some .int)) (by decide) rfl ?_
  intro p e s m args below meth c s₁ B0 hml hv
  obtain ⟨rfl, hv⟩ := hv
  have hx := B0.exec
  have hb := B0.bytes
  have hr := B0.returns
  have hts := atoms_spec (ws := (Cond.code y_Mod_about prog_14_method_28_code 2 (some .int)) :: tw) B0.pre
  have htw : ∀ w ∈ tw, w.before _ s = true := fun w hw => hts w (List.mem_cons_of_mem _ hw)
  have hown : s.vm.findClass "DrawingMachineModel" = some m.cls := findClass_of_methodNamed B0.named
  have hlocks := B0.notSynchronized
  obtain ⟨hC, hP, hD, hsz⟩ := wC_init hv
  subst hsz
  generalize hAe : va_A [(h0, .inr (12, [.int 0, .int 1, .int 1, .ref q562, .ref q571, .ref q574, .ref q577, .ref q580, .ref q583, .ref q586, .int 0, .int (-1), .int 0, .int 0, .long 0, .ref q599, .ref q600, .ref q601, .ref q602])), (q562, .inr (13, [.int 0, .ref z565, .int 1, .int 1, .ref z566, .int 0, .int 0, .int 0, .ref z567, .int 0, .int 0, .int (-1), .int (-1), .int 0, .int (-1), .int 0, .ref z568, .ref z569]))] s.heap.size = A at hC hD ⊢
  have hS : va_S A s.heap s.heap [] := va_S.rf
  have hl := lv_entry ([.ref h0, .int 3]) (n := 2) (Nat.le_of_ble_eq_true rfl)
  rw [lg_entry_eq]
  generalize (lg_sl ([.ref h0, .int 3]) ++ List.replicate (2 - (lg_sl ([.ref h0, .int 3])).length) Slot.unset).toArray = ls at hl ⊢
  have hl : lv_has ls 2 [(0, .ref h0), (1, .int 3)] := hl
  refine lv_aload_n hx hb d_Mod_about_0 rfl (lv_at hl 0 rfl) ?_
  refine lv_iload_n hx hb d_Mod_about_1 rfl (lv_at hl 1 rfl) ?_
  refine lv_i2l (v := 3) hx hb d_Mod_about_2 (by decide) ?_
  refine lv_lconst (v := 0) hx hb d_Mod_about_3 (by decide) ?_
  refine lv_ldc2 (v := 8) hx hb hown (htw _ k683) d_Mod_about_4 ?_
  refine wc_i (wr := [(h0, .inr (12, [.int 0, .int 1, .int 1, .ref q562, .ref q571, .ref q574, .ref q577, .ref q580, .ref q583, .ref q586, .int 0, .int (-1), .int 0, .int 0, .long 0, .ref q599, .ref q600, .ref q601, .ref q602])), (q562, .inr (13, [.int 0, .ref z565, .int 1, .int 1, .ref z566, .int 0, .int 0, .int 0, .ref z567, .int 0, .int 0, .int (-1), .int (-1), .int 0, .int (-1), .int 0, .ref z568, .ref z569]))]) hC hP hD hS [] [0, 1] rfl rfl (by decide) (by decide) (va_runS (As := [.long 3, .long 0, .long 8]) (rest := [.ref h0]) ⟨hx, hb, hml, hown, htw⟩ (c_Mod_in_t l D cI cL B _ 3 0 8 (by decide) (by decide)) (va_cwS 3 htw gS_Mod_90 rfl rfl rfl (by decide +kernel) ⟨Nat.le_of_ble_eq_true rfl, Nat.le_of_ble_eq_true rfl⟩) (wC_pre hC hP hD hS [] (by decide) rfl) rfl rfl hl.1 rfl (lv_room (Nat.le_of_ble_eq_true rfl)) d_Mod_about_7 ⟨Nat.le_of_ble_eq_true rfl, Nat.le_of_ble_eq_true rfl⟩) (fun r942 u940 H locs hw941 hP hD hS => ?_)
  obtain rfl : r942 = 1 := hw941
  have hP : va_P D classes [(h0, .inr (12, [.int 0, .int 1, .int 1, .ref q562, .ref q571, .ref q574, .ref q577, .ref q580, .ref q583, .ref q586, .int 0, .int (-1), .int 0, .int 0, .long 0, .ref q599, .ref q600, .ref q601, .ref q602])), (q562, .inr (13, [.int 0, .ref z565, .int 1, .int 1, .ref z566, .int 0, .int 0, .int 0, .ref z567, .int 0, .int 0, .int (-1), .int (-1), .int 0, .int (-1), .int 0, .ref z568, .ref z569]))] H := hP
  have hD : va_D A [(h0, .inr (12, [.int 0, .int 1, .int 1, .ref q562, .ref q571, .ref q574, .ref q577, .ref q580, .ref q583, .ref q586, .int 0, .int (-1), .int 0, .int 0, .long 0, .ref q599, .ref q600, .ref q601, .ref q602])), (q562, .inr (13, [.int 0, .ref z565, .int 1, .int 1, .ref z566, .int 0, .int 0, .int 0, .ref z567, .int 0, .int 0, .int (-1), .int (-1), .int 0, .int (-1), .int 0, .ref z568, .ref z569]))] := hD
  refine W.widen (k := 0) (n := 0) (by omega) (by omega) ?_
  refine lv_if_ne (tgt := 17) hx hb d_Mod_about_10 (by decide) (fun c_943 => ?_) (fun c_943 => absurd c_943 (by decide))
  refine lv_iconst (v := 0) hx hb d_Mod_about_17 (by decide) ?_
  refine lv_iconst (v := 0) hx hb d_Mod_about_18 (by decide) ?_
  refine wc_i (wr := [(q562, .inr (13, [.int 0, .ref z565, .int 1, .int 1, .ref z566, .int 0, .int 0, .int 0, .ref z567, .int 0, .int 0, .int (-1), .int (-1), .int 0, .int (-1), .int 0, .ref z568, .ref z569]))]) hC hP hD hS [0] [1] rfl rfl (by decide) (by decide) (va_runV (As := [.int 0, .int 0]) (rest := []) ⟨hx, hb, hml, hown, htw⟩ (c_Mref_00 l D cI cL B _ h0 q562 q571 q574 q577 q580 q583 q586 q599 q600 q601 q602) (cwV 2 htw gV_Mod_94 rfl rfl rfl (by decide +kernel) ⟨Nat.le_of_ble_eq_true rfl, Nat.le_of_ble_eq_true rfl⟩) (wC_preV (As := [.int 0, .int 0]) hC hP hD hS [0] (by decide) rfl (q0 := 0) rfl rfl) rfl rfl hl.1 rfl (lv_room (Nat.le_of_ble_eq_true rfl)) d_Mod_about_19 ⟨Nat.le_of_ble_eq_true rfl, Nat.le_of_ble_eq_true rfl⟩) (fun r946 u944 H locs hw945 hP hD hS => ?_)
  obtain rfl : r946 = 0 := hw945
  have hP : va_P D classes [(q562, .inr (13, [.int 0, .ref z565, .int 1, .int 1, .ref z566, .int 0, .int 0, .int 0, .ref z567, .int 0, .int 0, .int (-1), .int (-1), .int 0, .int (-1), .int 0, .ref z568, .ref z569])), (h0, .inr (12, [.int 0, .int 1, .int 1, .ref q562, .ref q571, .ref q574, .ref q577, .ref q580, .ref q583, .ref q586, .int 0, .int (-1), .int 0, .int 0, .long 0, .ref q599, .ref q600, .ref q601, .ref q602]))] H := hP
  have hD : va_D A [(q562, .inr (13, [.int 0, .ref z565, .int 1, .int 1, .ref z566, .int 0, .int 0, .int 0, .ref z567, .int 0, .int 0, .int (-1), .int (-1), .int 0, .int (-1), .int 0, .ref z568, .ref z569])), (h0, .inr (12, [.int 0, .int 1, .int 1, .ref q562, .ref q571, .ref q574, .ref q577, .ref q580, .ref q583, .ref q586, .int 0, .int (-1), .int 0, .int 0, .long 0, .ref q599, .ref q600, .ref q601, .ref q602]))] := hD
  refine W.widen (k := 0) (n := 0) (by omega) (by omega) ?_
  refine lv_if_eq (tgt := 27) hx hb d_Mod_about_22 (by decide) (fun c_947 => ?_) (fun c_947 => absurd c_947 (by decide))
  refine lv_iload_n hx hb d_Mod_about_27 rfl (lv_at hl 1 rfl) ?_
  refine lv_bipush (v := 7) hx hb d_Mod_about_28 (by decide) ?_
  refine lv_icmp_ne (tgt := 40) hx hb d_Mod_about_30 (by decide) (fun c_948 => ?_) (fun c_948 => absurd c_948 (by decide))
  refine lv_iload_n hx hb d_Mod_about_40 rfl (lv_at hl 1 rfl) ?_
  refine lv_bipush (v := 8) hx hb d_Mod_about_41 (by decide) ?_
  refine lv_icmp_ne (tgt := 53) hx hb d_Mod_about_43 (by decide) (fun c_949 => ?_) (fun c_949 => absurd c_949 (by decide))
  refine lv_aload_n hx hb d_Mod_about_53 rfl (lv_at hl 0 rfl) ?_
  refine va_get (D := D) (ci := 12) (v := .ref q562) (C := R_Mod) (T := F_Mod) (N := 19) hx hb htw i_Mod hown hC.1 hP 1 rfl rfl 3 (by decide) (htw _ k521) (fun _ h9 => h9) rfl d_Mod_about_54 ?_
  refine lv_iload_n hx hb d_Mod_about_57 rfl (lv_at hl 1 rfl) ?_
  refine wc_i (wr := [(h0, .inr (12, [.int 0, .int 1, .int 1, .ref q562, .ref q571, .ref q574, .ref q577, .ref q580, .ref q583, .ref q586, .int 0, .int (-1), .int 0, .int 0, .long 0, .ref q599, .ref q600, .ref q601, .ref q602]))]) hC hP hD hS [0] [1] rfl rfl (by decide) (by decide) (va_runV (As := [.int 3]) (rest := []) ⟨hx, hb, hml, hown, htw⟩ (c_Cabout_3 l D cI cL B _ q562 z565 z566 z567 z568 z569) (cwV 1 htw gV_Mod_364 rfl rfl rfl (by decide +kernel) ⟨Nat.le_of_ble_eq_true rfl, Nat.le_of_ble_eq_true rfl⟩) (wC_preV (As := [.int 3]) hC hP hD hS [0] (by decide) rfl (q0 := 0) rfl rfl) rfl rfl hl.1 rfl (lv_room (Nat.le_of_ble_eq_true rfl)) d_Mod_about_58 ⟨Nat.le_of_ble_eq_true rfl, Nat.le_of_ble_eq_true rfl⟩) (fun r952 u950 H locs hw951 hP hD hS => ?_)
  obtain rfl : r952 = (-1) := hw951
  have hP : va_P D classes [(h0, .inr (12, [.int 0, .int 1, .int 1, .ref q562, .ref q571, .ref q574, .ref q577, .ref q580, .ref q583, .ref q586, .int 0, .int (-1), .int 0, .int 0, .long 0, .ref q599, .ref q600, .ref q601, .ref q602]))] H := hP
  have hD : va_D A [(h0, .inr (12, [.int 0, .int 1, .int 1, .ref q562, .ref q571, .ref q574, .ref q577, .ref q580, .ref q583, .ref q586, .int 0, .int (-1), .int 0, .int 0, .long 0, .ref q599, .ref q600, .ref q601, .ref q602]))] := hD
  refine W.widen (k := 0) (n := 0) (by omega) (by omega) ?_
  refine W.widen (k := 0) (n := 0) (Nat.le_of_ble_eq_true rfl) (Nat.le_of_ble_eq_true rfl) ?_
  have hP9 := hP.sub (ws' := [(h0, .inr (12, [.int 0, .int 1, .int 1, .ref q562, .ref q571, .ref q574, .ref q577, .ref q580, .ref q583, .ref q586, .int 0, .int (-1), .int 0, .int 0, .long 0, .ref q599, .ref q600, .ref q601, .ref q602]))]) [0] rfl
  have hD9 := hD.sub (ws' := [(h0, .inr (12, [.int 0, .int 1, .int 1, .ref q562, .ref q571, .ref q574, .ref q577, .ref q580, .ref q583, .ref q586, .int 0, .int (-1), .int 0, .int 0, .long 0, .ref q599, .ref q600, .ref q601, .ref q602]))]) [0] (by decide) rfl
  exact W.iret (v := (-1)) hx hb hr (fun t ht hW => ⟨⟨(-1), (), rfl, rfl, by rw [ht]; exact hP9, va_K.moved hW.alike hC.1, hD9⟩, hS.F ht⟩) hS.2.2 d_Mod_about_61

set_option maxHeartbeats 4000000 in
set_option maxRecDepth 100000 in
theorem c_Mabout_4 (l : Launch) (D : va_G) (cI cL : ClassId) (B sz : Nat) (h0 : Nat) (q562 : Nat) (z565 : Nat) (z566 : Nat) (z567 : Nat) (z568 : Nat) (z569 : Nat) (q571 : Nat) (q574 : Nat) (q577 : Nat) (q580 : Nat) (q583 : Nat) (q586 : Nat) (q599 : Nat) (q600 : Nat) (q601 : Nat) (q602 : Nat) : Met l y_Mod_about ((Cond.code y_Mod_about prog_14_method_28_code 2 (some .int)) :: tw) ({ frames := 40, cells := 0, slots := 0, locals := 4000 }) (va_Pc [.ref h0, .int 4] (wP D cI cL B sz [(h0, .inr (12, [.int 0, .int 1, .int 1, .ref q562, .ref q571, .ref q574, .ref q577, .ref q580, .ref q583, .ref q586, .int 0, .int (-1), .int 0, .int 0, .long 0, .ref q599, .ref q600, .ref q601, .ref q602])), (q562, .inr (13, [.int 0, .ref z565, .int 1, .int 1, .ref z566, .int 0, .int 0, .int 0, .ref z567, .int 0, .int 0, .int (-1), .int (-1), .int 0, .int (-1), .int 0, .ref z568, .ref z569]))])) (va_Qi (S := Unit) (fun r u => r = 0) (fun u => wB D cI cL (va_A [(h0, .inr (12, [.int 0, .int 1, .int 1, .ref q562, .ref q571, .ref q574, .ref q577, .ref q580, .ref q583, .ref q586, .int 0, .int (-1), .int 0, .int 0, .long 0, .ref q599, .ref q600, .ref q601, .ref q602])), (q562, .inr (13, [.int 0, .ref z565, .int 1, .int 1, .ref z566, .int 0, .int 0, .int 0, .ref z567, .int 0, .int 0, .int (-1), .int (-1), .int 0, .int (-1), .int 0, .ref z568, .ref z569]))] sz) ((fun _ : Unit => [(h0, .inr (12, [.int 0, .int 1, .int 1, .ref q562, .ref q571, .ref q574, .ref q577, .ref q580, .ref q583, .ref q586, .int 0, .int (-1), .int 0, .int 0, .long 0, .ref q599, .ref q600, .ref q601, .ref q602]))]) u)) (va_A [(h0, .inr (12, [.int 0, .int 1, .int 1, .ref q562, .ref q571, .ref q574, .ref q577, .ref q580, .ref q583, .ref q586, .int 0, .int (-1), .int 0, .int 0, .long 0, .ref q599, .ref q600, .ref q601, .ref q602])), (q562, .inr (13, [.int 0, .ref z565, .int 1, .int 1, .ref z566, .int 0, .int 0, .int 0, .ref z567, .int 0, .int 0, .int (-1), .int (-1), .int 0, .int (-1), .int 0, .ref z568, .ref z569]))] sz)) 0 0 (va_A [(h0, .inr (12, [.int 0, .int 1, .int 1, .ref q562, .ref q571, .ref q574, .ref q577, .ref q580, .ref q583, .ref q586, .int 0, .int (-1), .int 0, .int 0, .long 0, .ref q599, .ref q600, .ref q601, .ref q602])), (q562, .inr (13, [.int 0, .ref z565, .int 1, .int 1, .ref z566, .int 0, .int 0, .int 0, .ref z567, .int 0, .int 0, .int (-1), .int (-1), .int 0, .int (-1), .int 0, .ref z568, .ref z569]))] sz) := by
  refine Met.ofW (cc := prog_14_method_28_code) (maxL := 2) (ret := (some .int)) (by decide) rfl ?_
  intro p e s m args below meth c s₁ B0 hml hv
  obtain ⟨rfl, hv⟩ := hv
  have hx := B0.exec
  have hb := B0.bytes
  have hr := B0.returns
  have hts := atoms_spec (ws := (Cond.code y_Mod_about prog_14_method_28_code 2 (some .int)) :: tw) B0.pre
  have htw : ∀ w ∈ tw, w.before _ s = true := fun w hw => hts w (List.mem_cons_of_mem _ hw)
  have hown : s.vm.findClass "DrawingMachineModel" = some m.cls := findClass_of_methodNamed B0.named
  have hlocks := B0.notSynchronized
  obtain ⟨hC, hP, hD, hsz⟩ := wC_init hv
  subst hsz
  generalize hAe : va_A [(h0, .inr (12, [.int 0, .int 1, .int 1, .ref q562, .ref q571, .ref q574, .ref q577, .ref q580, .ref q583, .ref q586, .int 0, .int (-1), .int 0, .int 0, .long 0, .ref q599, .ref q600, .ref q601, .ref q602])), (q562, .inr (13, [.int 0, .ref z565, .int 1, .int 1, .ref z566, .int 0, .int 0, .int 0, .ref z567, .int 0, .int 0, .int (-1), .int (-1), .int 0, .int (-1), .int 0, .ref z568, .ref z569]))] s.heap.size = A at hC hD ⊢
  have hS : va_S A s.heap s.heap [] := va_S.rf
  have hl := lv_entry ([.ref h0, .int 4]) (n := 2) (Nat.le_of_ble_eq_true rfl)
  rw [lg_entry_eq]
  generalize (lg_sl ([.ref h0, .int 4]) ++ List.replicate (2 - (lg_sl ([.ref h0, .int 4])).length) Slot.unset).toArray = ls at hl ⊢
  have hl : lv_has ls 2 [(0, .ref h0), (1, .int 4)] := hl
  refine lv_aload_n hx hb d_Mod_about_0 rfl (lv_at hl 0 rfl) ?_
  refine lv_iload_n hx hb d_Mod_about_1 rfl (lv_at hl 1 rfl) ?_
  refine lv_i2l (v := 4) hx hb d_Mod_about_2 (by decide) ?_
  refine lv_lconst (v := 0) hx hb d_Mod_about_3 (by decide) ?_
  refine lv_ldc2 (v := 8) hx hb hown (htw _ k683) d_Mod_about_4 ?_
  refine wc_i (wr := [(h0, .inr (12, [.int 0, .int 1, .int 1, .ref q562, .ref q571, .ref q574, .ref q577, .ref q580, .ref q583, .ref q586, .int 0, .int (-1), .int 0, .int 0, .long 0, .ref q599, .ref q600, .ref q601, .ref q602])), (q562, .inr (13, [.int 0, .ref z565, .int 1, .int 1, .ref z566, .int 0, .int 0, .int 0, .ref z567, .int 0, .int 0, .int (-1), .int (-1), .int 0, .int (-1), .int 0, .ref z568, .ref z569]))]) hC hP hD hS [] [0, 1] rfl rfl (by decide) (by decide) (va_runS (As := [.long 4, .long 0, .long 8]) (rest := [.ref h0]) ⟨hx, hb, hml, hown, htw⟩ (c_Mod_in_t l D cI cL B _ 4 0 8 (by decide) (by decide)) (va_cwS 3 htw gS_Mod_90 rfl rfl rfl (by decide +kernel) ⟨Nat.le_of_ble_eq_true rfl, Nat.le_of_ble_eq_true rfl⟩) (wC_pre hC hP hD hS [] (by decide) rfl) rfl rfl hl.1 rfl (lv_room (Nat.le_of_ble_eq_true rfl)) d_Mod_about_7 ⟨Nat.le_of_ble_eq_true rfl, Nat.le_of_ble_eq_true rfl⟩) (fun r955 u953 H locs hw954 hP hD hS => ?_)
  obtain rfl : r955 = 1 := hw954
  have hP : va_P D classes [(h0, .inr (12, [.int 0, .int 1, .int 1, .ref q562, .ref q571, .ref q574, .ref q577, .ref q580, .ref q583, .ref q586, .int 0, .int (-1), .int 0, .int 0, .long 0, .ref q599, .ref q600, .ref q601, .ref q602])), (q562, .inr (13, [.int 0, .ref z565, .int 1, .int 1, .ref z566, .int 0, .int 0, .int 0, .ref z567, .int 0, .int 0, .int (-1), .int (-1), .int 0, .int (-1), .int 0, .ref z568, .ref z569]))] H := hP
  have hD : va_D A [(h0, .inr (12, [.int 0, .int 1, .int 1, .ref q562, .ref q571, .ref q574, .ref q577, .ref q580, .ref q583, .ref q586, .int 0, .int (-1), .int 0, .int 0, .long 0, .ref q599, .ref q600, .ref q601, .ref q602])), (q562, .inr (13, [.int 0, .ref z565, .int 1, .int 1, .ref z566, .int 0, .int 0, .int 0, .ref z567, .int 0, .int 0, .int (-1), .int (-1), .int 0, .int (-1), .int 0, .ref z568, .ref z569]))] := hD
  refine W.widen (k := 0) (n := 0) (by omega) (by omega) ?_
  refine lv_if_ne (tgt := 17) hx hb d_Mod_about_10 (by decide) (fun c_956 => ?_) (fun c_956 => absurd c_956 (by decide))
  refine lv_iconst (v := 0) hx hb d_Mod_about_17 (by decide) ?_
  refine lv_iconst (v := 0) hx hb d_Mod_about_18 (by decide) ?_
  refine wc_i (wr := [(q562, .inr (13, [.int 0, .ref z565, .int 1, .int 1, .ref z566, .int 0, .int 0, .int 0, .ref z567, .int 0, .int 0, .int (-1), .int (-1), .int 0, .int (-1), .int 0, .ref z568, .ref z569]))]) hC hP hD hS [0] [1] rfl rfl (by decide) (by decide) (va_runV (As := [.int 0, .int 0]) (rest := []) ⟨hx, hb, hml, hown, htw⟩ (c_Mref_00 l D cI cL B _ h0 q562 q571 q574 q577 q580 q583 q586 q599 q600 q601 q602) (cwV 2 htw gV_Mod_94 rfl rfl rfl (by decide +kernel) ⟨Nat.le_of_ble_eq_true rfl, Nat.le_of_ble_eq_true rfl⟩) (wC_preV (As := [.int 0, .int 0]) hC hP hD hS [0] (by decide) rfl (q0 := 0) rfl rfl) rfl rfl hl.1 rfl (lv_room (Nat.le_of_ble_eq_true rfl)) d_Mod_about_19 ⟨Nat.le_of_ble_eq_true rfl, Nat.le_of_ble_eq_true rfl⟩) (fun r959 u957 H locs hw958 hP hD hS => ?_)
  obtain rfl : r959 = 0 := hw958
  have hP : va_P D classes [(q562, .inr (13, [.int 0, .ref z565, .int 1, .int 1, .ref z566, .int 0, .int 0, .int 0, .ref z567, .int 0, .int 0, .int (-1), .int (-1), .int 0, .int (-1), .int 0, .ref z568, .ref z569])), (h0, .inr (12, [.int 0, .int 1, .int 1, .ref q562, .ref q571, .ref q574, .ref q577, .ref q580, .ref q583, .ref q586, .int 0, .int (-1), .int 0, .int 0, .long 0, .ref q599, .ref q600, .ref q601, .ref q602]))] H := hP
  have hD : va_D A [(q562, .inr (13, [.int 0, .ref z565, .int 1, .int 1, .ref z566, .int 0, .int 0, .int 0, .ref z567, .int 0, .int 0, .int (-1), .int (-1), .int 0, .int (-1), .int 0, .ref z568, .ref z569])), (h0, .inr (12, [.int 0, .int 1, .int 1, .ref q562, .ref q571, .ref q574, .ref q577, .ref q580, .ref q583, .ref q586, .int 0, .int (-1), .int 0, .int 0, .long 0, .ref q599, .ref q600, .ref q601, .ref q602]))] := hD
  refine W.widen (k := 0) (n := 0) (by omega) (by omega) ?_
  refine lv_if_eq (tgt := 27) hx hb d_Mod_about_22 (by decide) (fun c_960 => ?_) (fun c_960 => absurd c_960 (by decide))
  refine lv_iload_n hx hb d_Mod_about_27 rfl (lv_at hl 1 rfl) ?_
  refine lv_bipush (v := 7) hx hb d_Mod_about_28 (by decide) ?_
  refine lv_icmp_ne (tgt := 40) hx hb d_Mod_about_30 (by decide) (fun c_961 => ?_) (fun c_961 => absurd c_961 (by decide))
  refine lv_iload_n hx hb d_Mod_about_40 rfl (lv_at hl 1 rfl) ?_
  refine lv_bipush (v := 8) hx hb d_Mod_about_41 (by decide) ?_
  refine lv_icmp_ne (tgt := 53) hx hb d_Mod_about_43 (by decide) (fun c_962 => ?_) (fun c_962 => absurd c_962 (by decide))
  refine lv_aload_n hx hb d_Mod_about_53 rfl (lv_at hl 0 rfl) ?_
  refine va_get (D := D) (ci := 12) (v := .ref q562) (C := R_Mod) (T := F_Mod) (N := 19) hx hb htw i_Mod hown hC.1 hP 1 rfl rfl 3 (by decide) (htw _ k521) (fun _ h9 => h9) rfl d_Mod_about_54 ?_
  refine lv_iload_n hx hb d_Mod_about_57 rfl (lv_at hl 1 rfl) ?_
  refine wc_i (wr := [(h0, .inr (12, [.int 0, .int 1, .int 1, .ref q562, .ref q571, .ref q574, .ref q577, .ref q580, .ref q583, .ref q586, .int 0, .int (-1), .int 0, .int 0, .long 0, .ref q599, .ref q600, .ref q601, .ref q602]))]) hC hP hD hS [0] [1] rfl rfl (by decide) (by decide) (va_runV (As := [.int 4]) (rest := []) ⟨hx, hb, hml, hown, htw⟩ (c_Cabout_4 l D cI cL B _ q562 z565 z566 z567 z568 z569) (cwV 1 htw gV_Mod_364 rfl rfl rfl (by decide +kernel) ⟨Nat.le_of_ble_eq_true rfl, Nat.le_of_ble_eq_true rfl⟩) (wC_preV (As := [.int 4]) hC hP hD hS [0] (by decide) rfl (q0 := 0) rfl rfl) rfl rfl hl.1 rfl (lv_room (Nat.le_of_ble_eq_true rfl)) d_Mod_about_58 ⟨Nat.le_of_ble_eq_true rfl, Nat.le_of_ble_eq_true rfl⟩) (fun r965 u963 H locs hw964 hP hD hS => ?_)
  obtain rfl : r965 = 0 := hw964
  have hP : va_P D classes [(h0, .inr (12, [.int 0, .int 1, .int 1, .ref q562, .ref q571, .ref q574, .ref q577, .ref q580, .ref q583, .ref q586, .int 0, .int (-1), .int 0, .int 0, .long 0, .ref q599, .ref q600, .ref q601, .ref q602]))] H := hP
  have hD : va_D A [(h0, .inr (12, [.int 0, .int 1, .int 1, .ref q562, .ref q571, .ref q574, .ref q577, .ref q580, .ref q583, .ref q586, .int 0, .int (-1), .int 0, .int 0, .long 0, .ref q599, .ref q600, .ref q601, .ref q602]))] := hD
  refine W.widen (k := 0) (n := 0) (by omega) (by omega) ?_
  refine W.widen (k := 0) (n := 0) (Nat.le_of_ble_eq_true rfl) (Nat.le_of_ble_eq_true rfl) ?_
  have hP9 := hP.sub (ws' := [(h0, .inr (12, [.int 0, .int 1, .int 1, .ref q562, .ref q571, .ref q574, .ref q577, .ref q580, .ref q583, .ref q586, .int 0, .int (-1), .int 0, .int 0, .long 0, .ref q599, .ref q600, .ref q601, .ref q602]))]) [0] rfl
  have hD9 := hD.sub (ws' := [(h0, .inr (12, [.int 0, .int 1, .int 1, .ref q562, .ref q571, .ref q574, .ref q577, .ref q580, .ref q583, .ref q586, .int 0, .int (-1), .int 0, .int 0, .long 0, .ref q599, .ref q600, .ref q601, .ref q602]))]) [0] (by decide) rfl
  exact W.iret (v := 0) hx hb hr (fun t ht hW => ⟨⟨0, (), rfl, rfl, by rw [ht]; exact hP9, va_K.moved hW.alike hC.1, hD9⟩, hS.F ht⟩) hS.2.2 d_Mod_about_61

set_option maxHeartbeats 4000000 in
set_option maxRecDepth 100000 in
theorem c_Mabout_5 (l : Launch) (D : va_G) (cI cL : ClassId) (B sz : Nat) (h0 : Nat) (q562 : Nat) (z565 : Nat) (z566 : Nat) (z567 : Nat) (z568 : Nat) (z569 : Nat) (q571 : Nat) (q574 : Nat) (q577 : Nat) (q580 : Nat) (q583 : Nat) (q586 : Nat) (q599 : Nat) (q600 : Nat) (q601 : Nat) (q602 : Nat) : Met l y_Mod_about ((Cond.code y_Mod_about prog_14_method_28_code 2 (some .int)) :: tw) ({ frames := 40, cells := 0, slots := 0, locals := 4000 }) (va_Pc [.ref h0, .int 5] (wP D cI cL B sz [(h0, .inr (12, [.int 0, .int 1, .int 1, .ref q562, .ref q571, .ref q574, .ref q577, .ref q580, .ref q583, .ref q586, .int 0, .int (-1), .int 0, .int 0, .long 0, .ref q599, .ref q600, .ref q601, .ref q602])), (q562, .inr (13, [.int 0, .ref z565, .int 1, .int 1, .ref z566, .int 0, .int 0, .int 0, .ref z567, .int 0, .int 0, .int (-1), .int (-1), .int 0, .int (-1), .int 0, .ref z568, .ref z569]))])) (va_Qi (S := Unit) (fun r u => r = (-1)) (fun u => wB D cI cL (va_A [(h0, .inr (12, [.int 0, .int 1, .int 1, .ref q562, .ref q571, .ref q574, .ref q577, .ref q580, .ref q583, .ref q586, .int 0, .int (-1), .int 0, .int 0, .long 0, .ref q599, .ref q600, .ref q601, .ref q602])), (q562, .inr (13, [.int 0, .ref z565, .int 1, .int 1, .ref z566, .int 0, .int 0, .int 0, .ref z567, .int 0, .int 0, .int (-1), .int (-1), .int 0, .int (-1), .int 0, .ref z568, .ref z569]))] sz) ((fun _ : Unit => [(h0, .inr (12, [.int 0, .int 1, .int 1, .ref q562, .ref q571, .ref q574, .ref q577, .ref q580, .ref q583, .ref q586, .int 0, .int (-1), .int 0, .int 0, .long 0, .ref q599, .ref q600, .ref q601, .ref q602]))]) u)) (va_A [(h0, .inr (12, [.int 0, .int 1, .int 1, .ref q562, .ref q571, .ref q574, .ref q577, .ref q580, .ref q583, .ref q586, .int 0, .int (-1), .int 0, .int 0, .long 0, .ref q599, .ref q600, .ref q601, .ref q602])), (q562, .inr (13, [.int 0, .ref z565, .int 1, .int 1, .ref z566, .int 0, .int 0, .int 0, .ref z567, .int 0, .int 0, .int (-1), .int (-1), .int 0, .int (-1), .int 0, .ref z568, .ref z569]))] sz)) 0 0 (va_A [(h0, .inr (12, [.int 0, .int 1, .int 1, .ref q562, .ref q571, .ref q574, .ref q577, .ref q580, .ref q583, .ref q586, .int 0, .int (-1), .int 0, .int 0, .long 0, .ref q599, .ref q600, .ref q601, .ref q602])), (q562, .inr (13, [.int 0, .ref z565, .int 1, .int 1, .ref z566, .int 0, .int 0, .int 0, .ref z567, .int 0, .int 0, .int (-1), .int (-1), .int 0, .int (-1), .int 0, .ref z568, .ref z569]))] sz) := by
  refine Met.ofW (cc := prog_14_method_28_code) (maxL := 2) (ret := (some .int)) (by decide) rfl ?_
  intro p e s m args below meth c s₁ B0 hml hv
  obtain ⟨rfl, hv⟩ := hv
  have hx := B0.exec
  have hb := B0.bytes
  have hr := B0.returns
  have hts := atoms_spec (ws := (Cond.code y_Mod_about prog_14_method_28_code 2 (some .int)) :: tw) B0.pre
  have htw : ∀ w ∈ tw, w.before _ s = true := fun w hw => hts w (List.mem_cons_of_mem _ hw)
  have hown : s.vm.findClass "DrawingMachineModel" = some m.cls := findClass_of_methodNamed B0.named
  have hlocks := B0.notSynchronized
  obtain ⟨hC, hP, hD, hsz⟩ := wC_init hv
  subst hsz
  generalize hAe : va_A [(h0, .inr (12, [.int 0, .int 1, .int 1, .ref q562, .ref q571, .ref q574, .ref q577, .ref q580, .ref q583, .ref q586, .int 0, .int (-1), .int 0, .int 0, .long 0, .ref q599, .ref q600, .ref q601, .ref q602])), (q562, .inr (13, [.int 0, .ref z565, .int 1, .int 1, .ref z566, .int 0, .int 0, .int 0, .ref z567, .int 0, .int 0, .int (-1), .int (-1), .int 0, .int (-1), .int 0, .ref z568, .ref z569]))] s.heap.size = A at hC hD ⊢
  have hS : va_S A s.heap s.heap [] := va_S.rf
  have hl := lv_entry ([.ref h0, .int 5]) (n := 2) (Nat.le_of_ble_eq_true rfl)
  rw [lg_entry_eq]
  generalize (lg_sl ([.ref h0, .int 5]) ++ List.replicate (2 - (lg_sl ([.ref h0, .int 5])).length) Slot.unset).toArray = ls at hl ⊢
  have hl : lv_has ls 2 [(0, .ref h0), (1, .int 5)] := hl
  refine lv_aload_n hx hb d_Mod_about_0 rfl (lv_at hl 0 rfl) ?_
  refine lv_iload_n hx hb d_Mod_about_1 rfl (lv_at hl 1 rfl) ?_
  refine lv_i2l (v := 5) hx hb d_Mod_about_2 (by decide) ?_
  refine lv_lconst (v := 0) hx hb d_Mod_about_3 (by decide) ?_
  refine lv_ldc2 (v := 8) hx hb hown (htw _ k683) d_Mod_about_4 ?_
  refine wc_i (wr := [(h0, .inr (12, [.int 0, .int 1, .int 1, .ref q562, .ref q571, .ref q574, .ref q577, .ref q580, .ref q583, .ref q586, .int 0, .int (-1), .int 0, .int 0, .long 0, .ref q599, .ref q600, .ref q601, .ref q602])), (q562, .inr (13, [.int 0, .ref z565, .int 1, .int 1, .ref z566, .int 0, .int 0, .int 0, .ref z567, .int 0, .int 0, .int (-1), .int (-1), .int 0, .int (-1), .int 0, .ref z568, .ref z569]))]) hC hP hD hS [] [0, 1] rfl rfl (by decide) (by decide) (va_runS (As := [.long 5, .long 0, .long 8]) (rest := [.ref h0]) ⟨hx, hb, hml, hown, htw⟩ (c_Mod_in_t l D cI cL B _ 5 0 8 (by decide) (by decide)) (va_cwS 3 htw gS_Mod_90 rfl rfl rfl (by decide +kernel) ⟨Nat.le_of_ble_eq_true rfl, Nat.le_of_ble_eq_true rfl⟩) (wC_pre hC hP hD hS [] (by decide) rfl) rfl rfl hl.1 rfl (lv_room (Nat.le_of_ble_eq_true rfl)) d_Mod_about_7 ⟨Nat.le_of_ble_eq_true rfl, Nat.le_of_ble_eq_true rfl⟩) (fun r968 u966 H locs hw967 hP hD hS => ?_)
  obtain rfl : r968 = 1 := hw967
  have hP : va_P D classes [(h0, .inr (12, [.int 0, .int 1, .int 1, .ref q562, .ref q571, .ref q574, .ref q577, .ref q580, .ref q583, .ref q586, .int 0, .int (-1), .int 0, .int 0, .long 0, .ref q599, .ref q600, .ref q601, .ref q602])), (q562, .inr (13, [.int 0, .ref z565, .int 1, .int 1, .ref z566, .int 0, .int 0, .int 0, .ref z567, .int 0, .int 0, .int (-1), .int (-1), .int 0, .int (-1), .int 0, .ref z568, .ref z569]))] H := hP
  have hD : va_D A [(h0, .inr (12, [.int 0, .int 1, .int 1, .ref q562, .ref q571, .ref q574, .ref q577, .ref q580, .ref q583, .ref q586, .int 0, .int (-1), .int 0, .int 0, .long 0, .ref q599, .ref q600, .ref q601, .ref q602])), (q562, .inr (13, [.int 0, .ref z565, .int 1, .int 1, .ref z566, .int 0, .int 0, .int 0, .ref z567, .int 0, .int 0, .int (-1), .int (-1), .int 0, .int (-1), .int 0, .ref z568, .ref z569]))] := hD
  refine W.widen (k := 0) (n := 0) (by omega) (by omega) ?_
  refine lv_if_ne (tgt := 17) hx hb d_Mod_about_10 (by decide) (fun c_969 => ?_) (fun c_969 => absurd c_969 (by decide))
  refine lv_iconst (v := 0) hx hb d_Mod_about_17 (by decide) ?_
  refine lv_iconst (v := 0) hx hb d_Mod_about_18 (by decide) ?_
  refine wc_i (wr := [(q562, .inr (13, [.int 0, .ref z565, .int 1, .int 1, .ref z566, .int 0, .int 0, .int 0, .ref z567, .int 0, .int 0, .int (-1), .int (-1), .int 0, .int (-1), .int 0, .ref z568, .ref z569]))]) hC hP hD hS [0] [1] rfl rfl (by decide) (by decide) (va_runV (As := [.int 0, .int 0]) (rest := []) ⟨hx, hb, hml, hown, htw⟩ (c_Mref_00 l D cI cL B _ h0 q562 q571 q574 q577 q580 q583 q586 q599 q600 q601 q602) (cwV 2 htw gV_Mod_94 rfl rfl rfl (by decide +kernel) ⟨Nat.le_of_ble_eq_true rfl, Nat.le_of_ble_eq_true rfl⟩) (wC_preV (As := [.int 0, .int 0]) hC hP hD hS [0] (by decide) rfl (q0 := 0) rfl rfl) rfl rfl hl.1 rfl (lv_room (Nat.le_of_ble_eq_true rfl)) d_Mod_about_19 ⟨Nat.le_of_ble_eq_true rfl, Nat.le_of_ble_eq_true rfl⟩) (fun r972 u970 H locs hw971 hP hD hS => ?_)
  obtain rfl : r972 = 0 := hw971
  have hP : va_P D classes [(q562, .inr (13, [.int 0, .ref z565, .int 1, .int 1, .ref z566, .int 0, .int 0, .int 0, .ref z567, .int 0, .int 0, .int (-1), .int (-1), .int 0, .int (-1), .int 0, .ref z568, .ref z569])), (h0, .inr (12, [.int 0, .int 1, .int 1, .ref q562, .ref q571, .ref q574, .ref q577, .ref q580, .ref q583, .ref q586, .int 0, .int (-1), .int 0, .int 0, .long 0, .ref q599, .ref q600, .ref q601, .ref q602]))] H := hP
  have hD : va_D A [(q562, .inr (13, [.int 0, .ref z565, .int 1, .int 1, .ref z566, .int 0, .int 0, .int 0, .ref z567, .int 0, .int 0, .int (-1), .int (-1), .int 0, .int (-1), .int 0, .ref z568, .ref z569])), (h0, .inr (12, [.int 0, .int 1, .int 1, .ref q562, .ref q571, .ref q574, .ref q577, .ref q580, .ref q583, .ref q586, .int 0, .int (-1), .int 0, .int 0, .long 0, .ref q599, .ref q600, .ref q601, .ref q602]))] := hD
  refine W.widen (k := 0) (n := 0) (by omega) (by omega) ?_
  refine lv_if_eq (tgt := 27) hx hb d_Mod_about_22 (by decide) (fun c_973 => ?_) (fun c_973 => absurd c_973 (by decide))
  refine lv_iload_n hx hb d_Mod_about_27 rfl (lv_at hl 1 rfl) ?_
  refine lv_bipush (v := 7) hx hb d_Mod_about_28 (by decide) ?_
  refine lv_icmp_ne (tgt := 40) hx hb d_Mod_about_30 (by decide) (fun c_974 => ?_) (fun c_974 => absurd c_974 (by decide))
  refine lv_iload_n hx hb d_Mod_about_40 rfl (lv_at hl 1 rfl) ?_
  refine lv_bipush (v := 8) hx hb d_Mod_about_41 (by decide) ?_
  refine lv_icmp_ne (tgt := 53) hx hb d_Mod_about_43 (by decide) (fun c_975 => ?_) (fun c_975 => absurd c_975 (by decide))
  refine lv_aload_n hx hb d_Mod_about_53 rfl (lv_at hl 0 rfl) ?_
  refine va_get (D := D) (ci := 12) (v := .ref q562) (C := R_Mod) (T := F_Mod) (N := 19) hx hb htw i_Mod hown hC.1 hP 1 rfl rfl 3 (by decide) (htw _ k521) (fun _ h9 => h9) rfl d_Mod_about_54 ?_
  refine lv_iload_n hx hb d_Mod_about_57 rfl (lv_at hl 1 rfl) ?_
  refine wc_i (wr := [(h0, .inr (12, [.int 0, .int 1, .int 1, .ref q562, .ref q571, .ref q574, .ref q577, .ref q580, .ref q583, .ref q586, .int 0, .int (-1), .int 0, .int 0, .long 0, .ref q599, .ref q600, .ref q601, .ref q602]))]) hC hP hD hS [0] [1] rfl rfl (by decide) (by decide) (va_runV (As := [.int 5]) (rest := []) ⟨hx, hb, hml, hown, htw⟩ (c_Cabout_5 l D cI cL B _ q562 z565 z566 z567 z568 z569) (cwV 1 htw gV_Mod_364 rfl rfl rfl (by decide +kernel) ⟨Nat.le_of_ble_eq_true rfl, Nat.le_of_ble_eq_true rfl⟩) (wC_preV (As := [.int 5]) hC hP hD hS [0] (by decide) rfl (q0 := 0) rfl rfl) rfl rfl hl.1 rfl (lv_room (Nat.le_of_ble_eq_true rfl)) d_Mod_about_58 ⟨Nat.le_of_ble_eq_true rfl, Nat.le_of_ble_eq_true rfl⟩) (fun r978 u976 H locs hw977 hP hD hS => ?_)
  obtain rfl : r978 = (-1) := hw977
  have hP : va_P D classes [(h0, .inr (12, [.int 0, .int 1, .int 1, .ref q562, .ref q571, .ref q574, .ref q577, .ref q580, .ref q583, .ref q586, .int 0, .int (-1), .int 0, .int 0, .long 0, .ref q599, .ref q600, .ref q601, .ref q602]))] H := hP
  have hD : va_D A [(h0, .inr (12, [.int 0, .int 1, .int 1, .ref q562, .ref q571, .ref q574, .ref q577, .ref q580, .ref q583, .ref q586, .int 0, .int (-1), .int 0, .int 0, .long 0, .ref q599, .ref q600, .ref q601, .ref q602]))] := hD
  refine W.widen (k := 0) (n := 0) (by omega) (by omega) ?_
  refine W.widen (k := 0) (n := 0) (Nat.le_of_ble_eq_true rfl) (Nat.le_of_ble_eq_true rfl) ?_
  have hP9 := hP.sub (ws' := [(h0, .inr (12, [.int 0, .int 1, .int 1, .ref q562, .ref q571, .ref q574, .ref q577, .ref q580, .ref q583, .ref q586, .int 0, .int (-1), .int 0, .int 0, .long 0, .ref q599, .ref q600, .ref q601, .ref q602]))]) [0] rfl
  have hD9 := hD.sub (ws' := [(h0, .inr (12, [.int 0, .int 1, .int 1, .ref q562, .ref q571, .ref q574, .ref q577, .ref q580, .ref q583, .ref q586, .int 0, .int (-1), .int 0, .int 0, .long 0, .ref q599, .ref q600, .ref q601, .ref q602]))]) [0] (by decide) rfl
  exact W.iret (v := (-1)) hx hb hr (fun t ht hW => ⟨⟨(-1), (), rfl, rfl, by rw [ht]; exact hP9, va_K.moved hW.alike hC.1, hD9⟩, hS.F ht⟩) hS.2.2 d_Mod_about_61

set_option maxHeartbeats 4000000 in
set_option maxRecDepth 100000 in
theorem c_Mabout_6 (l : Launch) (D : va_G) (cI cL : ClassId) (B sz : Nat) (h0 : Nat) (q562 : Nat) (z565 : Nat) (z566 : Nat) (z567 : Nat) (z568 : Nat) (z569 : Nat) (q571 : Nat) (q574 : Nat) (q577 : Nat) (q580 : Nat) (q583 : Nat) (q586 : Nat) (q599 : Nat) (q600 : Nat) (q601 : Nat) (q602 : Nat) : Met l y_Mod_about ((Cond.code y_Mod_about prog_14_method_28_code 2 (some .int)) :: tw) ({ frames := 40, cells := 0, slots := 0, locals := 4000 }) (va_Pc [.ref h0, .int 6] (wP D cI cL B sz [(h0, .inr (12, [.int 0, .int 1, .int 1, .ref q562, .ref q571, .ref q574, .ref q577, .ref q580, .ref q583, .ref q586, .int 0, .int (-1), .int 0, .int 0, .long 0, .ref q599, .ref q600, .ref q601, .ref q602])), (q562, .inr (13, [.int 0, .ref z565, .int 1, .int 1, .ref z566, .int 0, .int 0, .int 0, .ref z567, .int 0, .int 0, .int (-1), .int (-1), .int 0, .int (-1), .int 0, .ref z568, .ref z569]))])) (va_Qi (S := Unit) (fun r u => r = 0) (fun u => wB D cI cL (va_A [(h0, .inr (12, [.int 0, .int 1, .int 1, .ref q562, .ref q571, .ref q574, .ref q577, .ref q580, .ref q583, .ref q586, .int 0, .int (-1), .int 0, .int 0, .long 0, .ref q599, .ref q600, .ref q601, .ref q602])), (q562, .inr (13, [.int 0, .ref z565, .int 1, .int 1, .ref z566, .int 0, .int 0, .int 0, .ref z567, .int 0, .int 0, .int (-1), .int (-1), .int 0, .int (-1), .int 0, .ref z568, .ref z569]))] sz) ((fun _ : Unit => [(h0, .inr (12, [.int 0, .int 1, .int 1, .ref q562, .ref q571, .ref q574, .ref q577, .ref q580, .ref q583, .ref q586, .int 0, .int (-1), .int 0, .int 0, .long 0, .ref q599, .ref q600, .ref q601, .ref q602]))]) u)) (va_A [(h0, .inr (12, [.int 0, .int 1, .int 1, .ref q562, .ref q571, .ref q574, .ref q577, .ref q580, .ref q583, .ref q586, .int 0, .int (-1), .int 0, .int 0, .long 0, .ref q599, .ref q600, .ref q601, .ref q602])), (q562, .inr (13, [.int 0, .ref z565, .int 1, .int 1, .ref z566, .int 0, .int 0, .int 0, .ref z567, .int 0, .int 0, .int (-1), .int (-1), .int 0, .int (-1), .int 0, .ref z568, .ref z569]))] sz)) 0 0 (va_A [(h0, .inr (12, [.int 0, .int 1, .int 1, .ref q562, .ref q571, .ref q574, .ref q577, .ref q580, .ref q583, .ref q586, .int 0, .int (-1), .int 0, .int 0, .long 0, .ref q599, .ref q600, .ref q601, .ref q602])), (q562, .inr (13, [.int 0, .ref z565, .int 1, .int 1, .ref z566, .int 0, .int 0, .int 0, .ref z567, .int 0, .int 0, .int (-1), .int (-1), .int 0, .int (-1), .int 0, .ref z568, .ref z569]))] sz) := by
  refine Met.ofW (cc := prog_14_method_28_code) (maxL := 2) (ret := (some .int)) (by decide) rfl ?_
  intro p e s m args below meth c s₁ B0 hml hv
  obtain ⟨rfl, hv⟩ := hv
  have hx := B0.exec
  have hb := B0.bytes
  have hr := B0.returns
  have hts := atoms_spec (ws := (Cond.code y_Mod_about prog_14_method_28_code 2 (some .int)) :: tw) B0.pre
  have htw : ∀ w ∈ tw, w.before _ s = true := fun w hw => hts w (List.mem_cons_of_mem _ hw)
  have hown : s.vm.findClass "DrawingMachineModel" = some m.cls := findClass_of_methodNamed B0.named
  have hlocks := B0.notSynchronized
  obtain ⟨hC, hP, hD, hsz⟩ := wC_init hv
  subst hsz
  generalize hAe : va_A [(h0, .inr (12, [.int 0, .int 1, .int 1, .ref q562, .ref q571, .ref q574, .ref q577, .ref q580, .ref q583, .ref q586, .int 0, .int (-1), .int 0, .int 0, .long 0, .ref q599, .ref q600, .ref q601, .ref q602])), (q562, .inr (13, [.int 0, .ref z565, .int 1, .int 1, .ref z566, .int 0, .int 0, .int 0, .ref z567, .int 0, .int 0, .int (-1), .int (-1), .int 0, .int (-1), .int 0, .ref z568, .ref z569]))] s.heap.size = A at hC hD ⊢
  have hS : va_S A s.heap s.heap [] := va_S.rf
  have hl := lv_entry ([.ref h0, .int 6]) (n := 2) (Nat.le_of_ble_eq_true rfl)
  rw [lg_entry_eq]
  generalize (lg_sl ([.ref h0, .int 6]) ++ List.replicate (2 - (lg_sl ([.ref h0, .int 6])).length) Slot.unset).toArray = ls at hl ⊢
  have hl : lv_has ls 2 [(0, .ref h0), (1, .int 6)] := hl
  refine lv_aload_n hx hb d_Mod_about_0 rfl (lv_at hl 0 rfl) ?_
  refine lv_iload_n hx hb d_Mod_about_1 rfl (lv_at hl 1 rfl) ?_
  refine lv_i2l (v := 6) hx hb d_Mod_about_2 (by decide) ?_
  refine lv_lconst (v := 0) hx hb d_Mod_about_3 (by decide) ?_
  refine lv_ldc2 (v := 8) hx hb hown (htw _ k683) d_Mod_about_4 ?_
  refine wc_i (wr := [(h0, .inr (12, [.int 0, .int 1, .int 1, .ref q562, .ref q571, .ref q574, .ref q577, .ref q580, .ref q583, .ref q586, .int 0, .int (-1), .int 0, .int 0, .long 0, .ref q599, .ref q600, .ref q601, .ref q602])), (q562, .inr (13, [.int 0, .ref z565, .int 1, .int 1, .ref z566, .int 0, .int 0, .int 0, .ref z567, .int 0, .int 0, .int (-1), .int (-1), .int 0, .int (-1), .int 0, .ref z568, .ref z569]))]) hC hP hD hS [] [0, 1] rfl rfl (by decide) (by decide) (va_runS (As := [.long 6, .long 0, .long 8]) (rest := [.ref h0]) ⟨hx, hb, hml, hown, htw⟩ (c_Mod_in_t l D cI cL B _ 6 0 8 (by decide) (by decide)) (va_cwS 3 htw gS_Mod_90 rfl rfl rfl (by decide +kernel) ⟨Nat.le_of_ble_eq_true rfl, Nat.le_of_ble_eq_true rfl⟩) (wC_pre hC hP hD hS [] (by decide) rfl) rfl rfl hl.1 rfl (lv_room (Nat.le_of_ble_eq_true rfl)) d_Mod_about_7 ⟨Nat.le_of_ble_eq_true rfl, Nat.le_of_ble_eq_true rfl⟩) (fun r981 u979 H locs hw980 hP hD hS => ?_)
  obtain rfl : r981 = 1 := hw980
  have hP : va_P D classes [(h0, .inr (12, [.int 0, .int 1, .int 1, .ref q562, .ref q571, .ref q574, .ref q577, .ref q580, .ref q583, .ref q586, .int 0, .int (-1), .int 0, .int 0, .long 0, .ref q599, .ref q600, .ref q601, .ref q602])), (q562, .inr (13, [.int 0, .ref z565, .int 1, .int 1, .ref z566, .int 0, .int 0, .int 0, .ref z567, .int 0, .int 0, .int (-1), .int (-1), .int 0, .int (-1), .int 0, .ref z568, .ref z569]))] H := hP
  have hD : va_D A [(h0, .inr (12, [.int 0, .int 1, .int 1, .ref q562, .ref q571, .ref q574, .ref q577, .ref q580, .ref q583, .ref q586, .int 0, .int (-1), .int 0, .int 0, .long 0, .ref q599, .ref q600, .ref q601, .ref q602])), (q562, .inr (13, [.int 0, .ref z565, .int 1, .int 1, .ref z566, .int 0, .int 0, .int 0, .ref z567, .int 0, .int 0, .int (-1), .int (-1), .int 0, .int (-1), .int 0, .ref z568, .ref z569]))] := hD
  refine W.widen (k := 0) (n := 0) (by omega) (by omega) ?_
  refine lv_if_ne (tgt := 17) hx hb d_Mod_about_10 (by decide) (fun c_982 => ?_) (fun c_982 => absurd c_982 (by decide))
  refine lv_iconst (v := 0) hx hb d_Mod_about_17 (by decide) ?_
  refine lv_iconst (v := 0) hx hb d_Mod_about_18 (by decide) ?_
  refine wc_i (wr := [(q562, .inr (13, [.int 0, .ref z565, .int 1, .int 1, .ref z566, .int 0, .int 0, .int 0, .ref z567, .int 0, .int 0, .int (-1), .int (-1), .int 0, .int (-1), .int 0, .ref z568, .ref z569]))]) hC hP hD hS [0] [1] rfl rfl (by decide) (by decide) (va_runV (As := [.int 0, .int 0]) (rest := []) ⟨hx, hb, hml, hown, htw⟩ (c_Mref_00 l D cI cL B _ h0 q562 q571 q574 q577 q580 q583 q586 q599 q600 q601 q602) (cwV 2 htw gV_Mod_94 rfl rfl rfl (by decide +kernel) ⟨Nat.le_of_ble_eq_true rfl, Nat.le_of_ble_eq_true rfl⟩) (wC_preV (As := [.int 0, .int 0]) hC hP hD hS [0] (by decide) rfl (q0 := 0) rfl rfl) rfl rfl hl.1 rfl (lv_room (Nat.le_of_ble_eq_true rfl)) d_Mod_about_19 ⟨Nat.le_of_ble_eq_true rfl, Nat.le_of_ble_eq_true rfl⟩) (fun r985 u983 H locs hw984 hP hD hS => ?_)
  obtain rfl : r985 = 0 := hw984
  have hP : va_P D classes [(q562, .inr (13, [.int 0, .ref z565, .int 1, .int 1, .ref z566, .int 0, .int 0, .int 0, .ref z567, .int 0, .int 0, .int (-1), .int (-1), .int 0, .int (-1), .int 0, .ref z568, .ref z569])), (h0, .inr (12, [.int 0, .int 1, .int 1, .ref q562, .ref q571, .ref q574, .ref q577, .ref q580, .ref q583, .ref q586, .int 0, .int (-1), .int 0, .int 0, .long 0, .ref q599, .ref q600, .ref q601, .ref q602]))] H := hP
  have hD : va_D A [(q562, .inr (13, [.int 0, .ref z565, .int 1, .int 1, .ref z566, .int 0, .int 0, .int 0, .ref z567, .int 0, .int 0, .int (-1), .int (-1), .int 0, .int (-1), .int 0, .ref z568, .ref z569])), (h0, .inr (12, [.int 0, .int 1, .int 1, .ref q562, .ref q571, .ref q574, .ref q577, .ref q580, .ref q583, .ref q586, .int 0, .int (-1), .int 0, .int 0, .long 0, .ref q599, .ref q600, .ref q601, .ref q602]))] := hD
  refine W.widen (k := 0) (n := 0) (by omega) (by omega) ?_
  refine lv_if_eq (tgt := 27) hx hb d_Mod_about_22 (by decide) (fun c_986 => ?_) (fun c_986 => absurd c_986 (by decide))
  refine lv_iload_n hx hb d_Mod_about_27 rfl (lv_at hl 1 rfl) ?_
  refine lv_bipush (v := 7) hx hb d_Mod_about_28 (by decide) ?_
  refine lv_icmp_ne (tgt := 40) hx hb d_Mod_about_30 (by decide) (fun c_987 => ?_) (fun c_987 => absurd c_987 (by decide))
  refine lv_iload_n hx hb d_Mod_about_40 rfl (lv_at hl 1 rfl) ?_
  refine lv_bipush (v := 8) hx hb d_Mod_about_41 (by decide) ?_
  refine lv_icmp_ne (tgt := 53) hx hb d_Mod_about_43 (by decide) (fun c_988 => ?_) (fun c_988 => absurd c_988 (by decide))
  refine lv_aload_n hx hb d_Mod_about_53 rfl (lv_at hl 0 rfl) ?_
  refine va_get (D := D) (ci := 12) (v := .ref q562) (C := R_Mod) (T := F_Mod) (N := 19) hx hb htw i_Mod hown hC.1 hP 1 rfl rfl 3 (by decide) (htw _ k521) (fun _ h9 => h9) rfl d_Mod_about_54 ?_
  refine lv_iload_n hx hb d_Mod_about_57 rfl (lv_at hl 1 rfl) ?_
  refine wc_i (wr := [(h0, .inr (12, [.int 0, .int 1, .int 1, .ref q562, .ref q571, .ref q574, .ref q577, .ref q580, .ref q583, .ref q586, .int 0, .int (-1), .int 0, .int 0, .long 0, .ref q599, .ref q600, .ref q601, .ref q602]))]) hC hP hD hS [0] [1] rfl rfl (by decide) (by decide) (va_runV (As := [.int 6]) (rest := []) ⟨hx, hb, hml, hown, htw⟩ (c_Cabout_6 l D cI cL B _ q562 z565 z566 z567 z568 z569) (cwV 1 htw gV_Mod_364 rfl rfl rfl (by decide +kernel) ⟨Nat.le_of_ble_eq_true rfl, Nat.le_of_ble_eq_true rfl⟩) (wC_preV (As := [.int 6]) hC hP hD hS [0] (by decide) rfl (q0 := 0) rfl rfl) rfl rfl hl.1 rfl (lv_room (Nat.le_of_ble_eq_true rfl)) d_Mod_about_58 ⟨Nat.le_of_ble_eq_true rfl, Nat.le_of_ble_eq_true rfl⟩) (fun r991 u989 H locs hw990 hP hD hS => ?_)
  obtain rfl : r991 = 0 := hw990
  have hP : va_P D classes [(h0, .inr (12, [.int 0, .int 1, .int 1, .ref q562, .ref q571, .ref q574, .ref q577, .ref q580, .ref q583, .ref q586, .int 0, .int (-1), .int 0, .int 0, .long 0, .ref q599, .ref q600, .ref q601, .ref q602]))] H := hP
  have hD : va_D A [(h0, .inr (12, [.int 0, .int 1, .int 1, .ref q562, .ref q571, .ref q574, .ref q577, .ref q580, .ref q583, .ref q586, .int 0, .int (-1), .int 0, .int 0, .long 0, .ref q599, .ref q600, .ref q601, .ref q602]))] := hD
  refine W.widen (k := 0) (n := 0) (by omega) (by omega) ?_
  refine W.widen (k := 0) (n := 0) (Nat.le_of_ble_eq_true rfl) (Nat.le_of_ble_eq_true rfl) ?_
  have hP9 := hP.sub (ws' := [(h0, .inr (12, [.int 0, .int 1, .int 1, .ref q562, .ref q571, .ref q574, .ref q577, .ref q580, .ref q583, .ref q586, .int 0, .int (-1), .int 0, .int 0, .long 0, .ref q599, .ref q600, .ref q601, .ref q602]))]) [0] rfl
  have hD9 := hD.sub (ws' := [(h0, .inr (12, [.int 0, .int 1, .int 1, .ref q562, .ref q571, .ref q574, .ref q577, .ref q580, .ref q583, .ref q586, .int 0, .int (-1), .int 0, .int 0, .long 0, .ref q599, .ref q600, .ref q601, .ref q602]))]) [0] (by decide) rfl
  exact W.iret (v := 0) hx hb hr (fun t ht hW => ⟨⟨0, (), rfl, rfl, by rw [ht]; exact hP9, va_K.moved hW.alike hC.1, hD9⟩, hS.F ht⟩) hS.2.2 d_Mod_about_61

theorem d_Mod_about_33 : decode prog_14_method_28_code 33 = .ok (.aload_n 0, 1) := by decide +kernel
theorem d_Mod_about_34 : decode prog_14_method_28_code 34 = .ok (.getfield 182, 3) := by decide +kernel
theorem d_Mod_about_37 : decode prog_14_method_28_code 37 = .ok (.goto 24, 3) := by decide +kernel
set_option maxHeartbeats 4000000 in
set_option maxRecDepth 100000 in
theorem c_Mabout_7 (l : Launch) (D : va_G) (cI cL : ClassId) (B sz : Nat) (h0 : Nat) (q562 : Nat) (q571 : Nat) (q574 : Nat) (q577 : Nat) (q580 : Nat) (q583 : Nat) (q586 : Nat) (q599 : Nat) (q600 : Nat) (q601 : Nat) (q602 : Nat) : Met l y_Mod_about ((Cond.code y_Mod_about prog_14_method_28_code 2 (some .int)) :: tw) ({ frames := 40, cells := 0, slots := 0, locals := 4000 }) (va_Pc [.ref h0, .int 7] (wP D cI cL B sz [(h0, .inr (12, [.int 0, .int 1, .int 1, .ref q562, .ref q571, .ref q574, .ref q577, .ref q580, .ref q583, .ref q586, .int 0, .int (-1), .int 0, .int 0, .long 0, .ref q599, .ref q600, .ref q601, .ref q602]))])) (va_Qi (S := Unit) (fun r u => r = 0) (fun u => wB D cI cL (va_A [(h0, .inr (12, [.int 0, .int 1, .int 1, .ref q562, .ref q571, .ref q574, .ref q577, .ref q580, .ref q583, .ref q586, .int 0, .int (-1), .int 0, .int 0, .long 0, .ref q599, .ref q600, .ref q601, .ref q602]))] sz) ((fun _ : Unit => [(h0, .inr (12, [.int 0, .int 1, .int 1, .ref q562, .ref q571, .ref q574, .ref q577, .ref q580, .ref q583, .ref q586, .int 0, .int (-1), .int 0, .int 0, .long 0, .ref q599, .ref q600, .ref q601, .ref q602]))]) u)) (va_A [(h0, .inr (12, [.int 0, .int 1, .int 1, .ref q562, .ref q571, .ref q574, .ref q577, .ref q580, .ref q583, .ref q586, .int 0, .int (-1), .int 0, .int 0, .long 0, .ref q599, .ref q600, .ref q601, .ref q602]))] sz)) 0 0 (va_A [(h0, .inr (12, [.int 0, .int 1, .int 1, .ref q562, .ref q571, .ref q574, .ref q577, .ref q580, .ref q583, .ref q586, .int 0, .int (-1), .int 0, .int 0, .long 0, .ref q599, .ref q600, .ref q601, .ref q602]))] sz) := by
  refine Met.ofW (cc := prog_14_method_28_code) (maxL := 2) (ret := (some .int)) (by decide) rfl ?_
  intro p e s m args below meth c s₁ B0 hml hv
  obtain ⟨rfl, hv⟩ := hv
  have hx := B0.exec
  have hb := B0.bytes
  have hr := B0.returns
  have hts := atoms_spec (ws := (Cond.code y_Mod_about prog_14_method_28_code 2 (some .int)) :: tw) B0.pre
  have htw : ∀ w ∈ tw, w.before _ s = true := fun w hw => hts w (List.mem_cons_of_mem _ hw)
  have hown : s.vm.findClass "DrawingMachineModel" = some m.cls := findClass_of_methodNamed B0.named
  have hlocks := B0.notSynchronized
  obtain ⟨hC, hP, hD, hsz⟩ := wC_init hv
  subst hsz
  generalize hAe : va_A [(h0, .inr (12, [.int 0, .int 1, .int 1, .ref q562, .ref q571, .ref q574, .ref q577, .ref q580, .ref q583, .ref q586, .int 0, .int (-1), .int 0, .int 0, .long 0, .ref q599, .ref q600, .ref q601, .ref q602]))] s.heap.size = A at hC hD ⊢
  have hS : va_S A s.heap s.heap [] := va_S.rf
  have hl := lv_entry ([.ref h0, .int 7]) (n := 2) (Nat.le_of_ble_eq_true rfl)
  rw [lg_entry_eq]
  generalize (lg_sl ([.ref h0, .int 7]) ++ List.replicate (2 - (lg_sl ([.ref h0, .int 7])).length) Slot.unset).toArray = ls at hl ⊢
  have hl : lv_has ls 2 [(0, .ref h0), (1, .int 7)] := hl
  refine lv_aload_n hx hb d_Mod_about_0 rfl (lv_at hl 0 rfl) ?_
  refine lv_iload_n hx hb d_Mod_about_1 rfl (lv_at hl 1 rfl) ?_
  refine lv_i2l (v := 7) hx hb d_Mod_about_2 (by decide) ?_
  refine lv_lconst (v := 0) hx hb d_Mod_about_3 (by decide) ?_
  refine lv_ldc2 (v := 8) hx hb hown (htw _ k683) d_Mod_about_4 ?_
  refine wc_i (wr := [(h0, .inr (12, [.int 0, .int 1, .int 1, .ref q562, .ref q571, .ref q574, .ref q577, .ref q580, .ref q583, .ref q586, .int 0, .int (-1), .int 0, .int 0, .long 0, .ref q599, .ref q600, .ref q601, .ref q602]))]) hC hP hD hS [] [0] rfl rfl (by decide) (by decide) (va_runS (As := [.long 7, .long 0, .long 8]) (rest := [.ref h0]) ⟨hx, hb, hml, hown, htw⟩ (c_Mod_in_t l D cI cL B _ 7 0 8 (by decide) (by decide)) (va_cwS 3 htw gS_Mod_90 rfl rfl rfl (by decide +kernel) ⟨Nat.le_of_ble_eq_true rfl, Nat.le_of_ble_eq_true rfl⟩) (wC_pre hC hP hD hS [] (by decide) rfl) rfl rfl hl.1 rfl (lv_room (Nat.le_of_ble_eq_true rfl)) d_Mod_about_7 ⟨Nat.le_of_ble_eq_true rfl, Nat.le_of_ble_eq_true rfl⟩) (fun r994 u992 H locs hw993 hP hD hS => ?_)
  obtain rfl : r994 = 1 := hw993
  have hP : va_P D classes [(h0, .inr (12, [.int 0, .int 1, .int 1, .ref q562, .ref q571, .ref q574, .ref q577, .ref q580, .ref q583, .ref q586, .int 0, .int (-1), .int 0, .int 0, .long 0, .ref q599, .ref q600, .ref q601, .ref q602]))] H := hP
  have hD : va_D A [(h0, .inr (12, [.int 0, .int 1, .int 1, .ref q562, .ref q571, .ref q574, .ref q577, .ref q580, .ref q583, .ref q586, .int 0, .int (-1), .int 0, .int 0, .long 0, .ref q599, .ref q600, .ref q601, .ref q602]))] := hD
  refine W.widen (k := 0) (n := 0) (by omega) (by omega) ?_
  refine lv_if_ne (tgt := 17) hx hb d_Mod_about_10 (by decide) (fun c_995 => ?_) (fun c_995 => absurd c_995 (by decide))
  refine lv_iconst (v := 0) hx hb d_Mod_about_17 (by decide) ?_
  refine lv_iconst (v := 0) hx hb d_Mod_about_18 (by decide) ?_
  refine wc_i (wr := []) hC hP hD hS [0] [] rfl rfl (by decide) (by decide) (va_runV (As := [.int 0, .int 0]) (rest := []) ⟨hx, hb, hml, hown, htw⟩ (c_Mref_00 l D cI cL B _ h0 q562 q571 q574 q577 q580 q583 q586 q599 q600 q601 q602) (cwV 2 htw gV_Mod_94 rfl rfl rfl (by decide +kernel) ⟨Nat.le_of_ble_eq_true rfl, Nat.le_of_ble_eq_true rfl⟩) (wC_preV (As := [.int 0, .int 0]) hC hP hD hS [0] (by decide) rfl (q0 := 0) rfl rfl) rfl rfl hl.1 rfl (lv_room (Nat.le_of_ble_eq_true rfl)) d_Mod_about_19 ⟨Nat.le_of_ble_eq_true rfl, Nat.le_of_ble_eq_true rfl⟩) (fun r998 u996 H locs hw997 hP hD hS => ?_)
  obtain rfl : r998 = 0 := hw997
  have hP : va_P D classes [(h0, .inr (12, [.int 0, .int 1, .int 1, .ref q562, .ref q571, .ref q574, .ref q577, .ref q580, .ref q583, .ref q586, .int 0, .int (-1), .int 0, .int 0, .long 0, .ref q599, .ref q600, .ref q601, .ref q602]))] H := hP
  have hD : va_D A [(h0, .inr (12, [.int 0, .int 1, .int 1, .ref q562, .ref q571, .ref q574, .ref q577, .ref q580, .ref q583, .ref q586, .int 0, .int (-1), .int 0, .int 0, .long 0, .ref q599, .ref q600, .ref q601, .ref q602]))] := hD
  refine W.widen (k := 0) (n := 0) (by omega) (by omega) ?_
  refine lv_if_eq (tgt := 27) hx hb d_Mod_about_22 (by decide) (fun c_999 => ?_) (fun c_999 => absurd c_999 (by decide))
  refine lv_iload_n hx hb d_Mod_about_27 rfl (lv_at hl 1 rfl) ?_
  refine lv_bipush (v := 7) hx hb d_Mod_about_28 (by decide) ?_
  refine lv_icmp_ne (tgt := 40) hx hb d_Mod_about_30 (by decide) (fun c_1000 => absurd c_1000 (by decide)) (fun c_1000 => ?_)
  refine lv_aload_n hx hb d_Mod_about_33 rfl (lv_at hl 0 rfl) ?_
  refine va_get (D := D) (ci := 12) (v := .int 0) (C := R_Mod) (T := F_Mod) (N := 19) hx hb htw i_Mod hown hC.1 hP 0 rfl rfl 10 (by decide) (htw _ k684) (fun _ h9 => h9) rfl d_Mod_about_34 ?_
  refine lv_goto (tgt := 61) hx hb d_Mod_about_37 (by decide) ?_
  refine W.widen (k := 0) (n := 0) (Nat.le_of_ble_eq_true rfl) (Nat.le_of_ble_eq_true rfl) ?_
  have hP9 := hP.sub (ws' := [(h0, .inr (12, [.int 0, .int 1, .int 1, .ref q562, .ref q571, .ref q574, .ref q577, .ref q580, .ref q583, .ref q586, .int 0, .int (-1), .int 0, .int 0, .long 0, .ref q599, .ref q600, .ref q601, .ref q602]))]) [0] rfl
  have hD9 := hD.sub (ws' := [(h0, .inr (12, [.int 0, .int 1, .int 1, .ref q562, .ref q571, .ref q574, .ref q577, .ref q580, .ref q583, .ref q586, .int 0, .int (-1), .int 0, .int 0, .long 0, .ref q599, .ref q600, .ref q601, .ref q602]))]) [0] (by decide) rfl
  exact W.iret (v := 0) hx hb hr (fun t ht hW => ⟨⟨0, (), rfl, rfl, by rw [ht]; exact hP9, va_K.moved hW.alike hC.1, hD9⟩, hS.F ht⟩) hS.2.2 d_Mod_about_61

theorem d_Mod_about_46 : decode prog_14_method_28_code 46 = .ok (.aload_n 0, 1) := by decide +kernel
theorem d_Mod_about_47 : decode prog_14_method_28_code 47 = .ok (.getfield 69, 3) := by decide +kernel
theorem d_Mod_about_50 : decode prog_14_method_28_code 50 = .ok (.goto 11, 3) := by decide +kernel
set_option maxHeartbeats 4000000 in
set_option maxRecDepth 100000 in
theorem c_Mabout_8 (l : Launch) (D : va_G) (cI cL : ClassId) (B sz : Nat) (h0 : Nat) (q562 : Nat) (q571 : Nat) (q574 : Nat) (q577 : Nat) (q580 : Nat) (q583 : Nat) (q586 : Nat) (q599 : Nat) (q600 : Nat) (q601 : Nat) (q602 : Nat) : Met l y_Mod_about ((Cond.code y_Mod_about prog_14_method_28_code 2 (some .int)) :: tw) ({ frames := 40, cells := 0, slots := 0, locals := 4000 }) (va_Pc [.ref h0, .int 8] (wP D cI cL B sz [(h0, .inr (12, [.int 0, .int 1, .int 1, .ref q562, .ref q571, .ref q574, .ref q577, .ref q580, .ref q583, .ref q586, .int 0, .int (-1), .int 0, .int 0, .long 0, .ref q599, .ref q600, .ref q601, .ref q602]))])) (va_Qi (S := Unit) (fun r u => r = (-1)) (fun u => wB D cI cL (va_A [(h0, .inr (12, [.int 0, .int 1, .int 1, .ref q562, .ref q571, .ref q574, .ref q577, .ref q580, .ref q583, .ref q586, .int 0, .int (-1), .int 0, .int 0, .long 0, .ref q599, .ref q600, .ref q601, .ref q602]))] sz) ((fun _ : Unit => [(h0, .inr (12, [.int 0, .int 1, .int 1, .ref q562, .ref q571, .ref q574, .ref q577, .ref q580, .ref q583, .ref q586, .int 0, .int (-1), .int 0, .int 0, .long 0, .ref q599, .ref q600, .ref q601, .ref q602]))]) u)) (va_A [(h0, .inr (12, [.int 0, .int 1, .int 1, .ref q562, .ref q571, .ref q574, .ref q577, .ref q580, .ref q583, .ref q586, .int 0, .int (-1), .int 0, .int 0, .long 0, .ref q599, .ref q600, .ref q601, .ref q602]))] sz)) 0 0 (va_A [(h0, .inr (12, [.int 0, .int 1, .int 1, .ref q562, .ref q571, .ref q574, .ref q577, .ref q580, .ref q583, .ref q586, .int 0, .int (-1), .int 0, .int 0, .long 0, .ref q599, .ref q600, .ref q601, .ref q602]))] sz) := by
  refine Met.ofW (cc := prog_14_method_28_code) (maxL := 2) (ret := (some .int)) (by decide) rfl ?_
  intro p e s m args below meth c s₁ B0 hml hv
  obtain ⟨rfl, hv⟩ := hv
  have hx := B0.exec
  have hb := B0.bytes
  have hr := B0.returns
  have hts := atoms_spec (ws := (Cond.code y_Mod_about prog_14_method_28_code 2 (some .int)) :: tw) B0.pre
  have htw : ∀ w ∈ tw, w.before _ s = true := fun w hw => hts w (List.mem_cons_of_mem _ hw)
  have hown : s.vm.findClass "DrawingMachineModel" = some m.cls := findClass_of_methodNamed B0.named
  have hlocks := B0.notSynchronized
  obtain ⟨hC, hP, hD, hsz⟩ := wC_init hv
  subst hsz
  generalize hAe : va_A [(h0, .inr (12, [.int 0, .int 1, .int 1, .ref q562, .ref q571, .ref q574, .ref q577, .ref q580, .ref q583, .ref q586, .int 0, .int (-1), .int 0, .int 0, .long 0, .ref q599, .ref q600, .ref q601, .ref q602]))] s.heap.size = A at hC hD ⊢
  have hS : va_S A s.heap s.heap [] := va_S.rf
  have hl := lv_entry ([.ref h0, .int 8]) (n := 2) (Nat.le_of_ble_eq_true rfl)
  rw [lg_entry_eq]
  generalize (lg_sl ([.ref h0, .int 8]) ++ List.replicate (2 - (lg_sl ([.ref h0, .int 8])).length) Slot.unset).toArray = ls at hl ⊢
  have hl : lv_has ls 2 [(0, .ref h0), (1, .int 8)] := hl
  refine lv_aload_n hx hb d_Mod_about_0 rfl (lv_at hl 0 rfl) ?_
  refine lv_iload_n hx hb d_Mod_about_1 rfl (lv_at hl 1 rfl) ?_
  refine lv_i2l (v := 8) hx hb d_Mod_about_2 (by decide) ?_
  refine lv_lconst (v := 0) hx hb d_Mod_about_3 (by decide) ?_
  refine lv_ldc2 (v := 8) hx hb hown (htw _ k683) d_Mod_about_4 ?_
  refine wc_i (wr := [(h0, .inr (12, [.int 0, .int 1, .int 1, .ref q562, .ref q571, .ref q574, .ref q577, .ref q580, .ref q583, .ref q586, .int 0, .int (-1), .int 0, .int 0, .long 0, .ref q599, .ref q600, .ref q601, .ref q602]))]) hC hP hD hS [] [0] rfl rfl (by decide) (by decide) (va_runS (As := [.long 8, .long 0, .long 8]) (rest := [.ref h0]) ⟨hx, hb, hml, hown, htw⟩ (c_Mod_in_t l D cI cL B _ 8 0 8 (by decide) (by decide)) (va_cwS 3 htw gS_Mod_90 rfl rfl rfl (by decide +kernel) ⟨Nat.le_of_ble_eq_true rfl, Nat.le_of_ble_eq_true rfl⟩) (wC_pre hC hP hD hS [] (by decide) rfl) rfl rfl hl.1 rfl (lv_room (Nat.le_of_ble_eq_true rfl)) d_Mod_about_7 ⟨Nat.le_of_ble_eq_true rfl, Nat.le_of_ble_eq_true rfl⟩) (fun r1003 u1001 H locs hw1002 hP hD hS => ?_)
  obtain rfl : r1003 = 1 := hw1002
  have hP : va_P D classes [(h0, .inr (12, [.int 0, .int 1, .int 1, .ref q562, .ref q571, .ref q574, .ref q577, .ref q580, .ref q583, .ref q586, .int 0, .int (-1), .int 0, .int 0, .long 0, .ref q599, .ref q600, .ref q601, .ref q602]))] H := hP
  have hD : va_D A [(h0, .inr (12, [.int 0, .int 1, .int 1, .ref q562, .ref q571, .ref q574, .ref q577, .ref q580, .ref q583, .ref q586, .int 0, .int (-1), .int 0, .int 0, .long 0, .ref q599, .ref q600, .ref q601, .ref q602]))] := hD
  refine W.widen (k := 0) (n := 0) (by omega) (by omega) ?_
  refine lv_if_ne (tgt := 17) hx hb d_Mod_about_10 (by decide) (fun c_1004 => ?_) (fun c_1004 => absurd c_1004 (by decide))
  refine lv_iconst (v := 0) hx hb d_Mod_about_17 (by decide) ?_
  refine lv_iconst (v := 0) hx hb d_Mod_about_18 (by decide) ?_
  refine wc_i (wr := []) hC hP hD hS [0] [] rfl rfl (by decide) (by decide) (va_runV (As := [.int 0, .int 0]) (rest := []) ⟨hx, hb, hml, hown, htw⟩ (c_Mref_00 l D cI cL B _ h0 q562 q571 q574 q577 q580 q583 q586 q599 q600 q601 q602) (cwV 2 htw gV_Mod_94 rfl rfl rfl (by decide +kernel) ⟨Nat.le_of_ble_eq_true rfl, Nat.le_of_ble_eq_true rfl⟩) (wC_preV (As := [.int 0, .int 0]) hC hP hD hS [0] (by decide) rfl (q0 := 0) rfl rfl) rfl rfl hl.1 rfl (lv_room (Nat.le_of_ble_eq_true rfl)) d_Mod_about_19 ⟨Nat.le_of_ble_eq_true rfl, Nat.le_of_ble_eq_true rfl⟩) (fun r1007 u1005 H locs hw1006 hP hD hS => ?_)
  obtain rfl : r1007 = 0 := hw1006
  have hP : va_P D classes [(h0, .inr (12, [.int 0, .int 1, .int 1, .ref q562, .ref q571, .ref q574, .ref q577, .ref q580, .ref q583, .ref q586, .int 0, .int (-1), .int 0, .int 0, .long 0, .ref q599, .ref q600, .ref q601, .ref q602]))] H := hP
  have hD : va_D A [(h0, .inr (12, [.int 0, .int 1, .int 1, .ref q562, .ref q571, .ref q574, .ref q577, .ref q580, .ref q583, .ref q586, .int 0, .int (-1), .int 0, .int 0, .long 0, .ref q599, .ref q600, .ref q601, .ref q602]))] := hD
  refine W.widen (k := 0) (n := 0) (by omega) (by omega) ?_
  refine lv_if_eq (tgt := 27) hx hb d_Mod_about_22 (by decide) (fun c_1008 => ?_) (fun c_1008 => absurd c_1008 (by decide))
  refine lv_iload_n hx hb d_Mod_about_27 rfl (lv_at hl 1 rfl) ?_
  refine lv_bipush (v := 7) hx hb d_Mod_about_28 (by decide) ?_
  refine lv_icmp_ne (tgt := 40) hx hb d_Mod_about_30 (by decide) (fun c_1009 => ?_) (fun c_1009 => absurd c_1009 (by decide))
  refine lv_iload_n hx hb d_Mod_about_40 rfl (lv_at hl 1 rfl) ?_
  refine lv_bipush (v := 8) hx hb d_Mod_about_41 (by decide) ?_
  refine lv_icmp_ne (tgt := 53) hx hb d_Mod_about_43 (by decide) (fun c_1010 => absurd c_1010 (by decide)) (fun c_1010 => ?_)
  refine lv_aload_n hx hb d_Mod_about_46 rfl (lv_at hl 0 rfl) ?_
  refine va_get (D := D) (ci := 12) (v := .int (-1)) (C := R_Mod) (T := F_Mod) (N := 19) hx hb htw i_Mod hown hC.1 hP 0 rfl rfl 11 (by decide) (htw _ k548) (fun _ h9 => h9) rfl d_Mod_about_47 ?_
  refine lv_goto (tgt := 61) hx hb d_Mod_about_50 (by decide) ?_
  refine W.widen (k := 0) (n := 0) (Nat.le_of_ble_eq_true rfl) (Nat.le_of_ble_eq_true rfl) ?_
  have hP9 := hP.sub (ws' := [(h0, .inr (12, [.int 0, .int 1, .int 1, .ref q562, .ref q571, .ref q574, .ref q577, .ref q580, .ref q583, .ref q586, .int 0, .int (-1), .int 0, .int 0, .long 0, .ref q599, .ref q600, .ref q601, .ref q602]))]) [0] rfl
  have hD9 := hD.sub (ws' := [(h0, .inr (12, [.int 0, .int 1, .int 1, .ref q562, .ref q571, .ref q574, .ref q577, .ref q580, .ref q583, .ref q586, .int 0, .int (-1), .int 0, .int 0, .long 0, .ref q599, .ref q600, .ref q601, .ref q602]))]) [0] (by decide) rfl
  exact W.iret (v := (-1)) hx hb hr (fun t ht hW => ⟨⟨(-1), (), rfl, rfl, by rw [ht]; exact hP9, va_K.moved hW.alike hC.1, hD9⟩, hS.F ht⟩) hS.2.2 d_Mod_about_61

theorem d_Mod_about_13 : decode prog_14_method_28_code 13 = .ok (.iconst 1, 1) := by decide +kernel
theorem d_Mod_about_14 : decode prog_14_method_28_code 14 = .ok (.goto 4, 3) := by decide +kernel
theorem d_Mod_about_25 : decode prog_14_method_28_code 25 = .ok (.iconst 0, 1) := by decide +kernel
theorem d_Mod_about_26 : decode prog_14_method_28_code 26 = .ok (.ireturn, 1) := by decide +kernel
set_option maxHeartbeats 4000000 in
set_option maxRecDepth 100000 in
theorem c_Mabout_b (l : Launch) (D : va_G) (cI cL : ClassId) (B sz : Nat) (h0 : Nat) (q562 : Nat) (q571 : Nat) (q574 : Nat) (q577 : Nat) (q580 : Nat) (q583 : Nat) (q586 : Nat) (q599 : Nat) (q600 : Nat) (q601 : Nat) (q602 : Nat) (x : Int32) (hbd : x < 0 ∨ 8 < x) : Met l y_Mod_about ((Cond.code y_Mod_about prog_14_method_28_code 2 (some .int)) :: tw) ({ frames := 40, cells := 0, slots := 0, locals := 4000 }) (va_Pc [.ref h0, .int x] (wP D cI cL B sz [(h0, .inr (12, [.int 0, .int 1, .int 1, .ref q562, .ref q571, .ref q574, .ref q577, .ref q580, .ref q583, .ref q586, .int 0, .int (-1), .int 0, .int 0, .long 0, .ref q599, .ref q600, .ref q601, .ref q602]))])) (va_Qi (S := Unit) (fun r u => r = 0) (fun u => wB D cI cL (va_A [(h0, .inr (12, [.int 0, .int 1, .int 1, .ref q562, .ref q571, .ref q574, .ref q577, .ref q580, .ref q583, .ref q586, .int 0, .int (-1), .int 0, .int 0, .long 0, .ref q599, .ref q600, .ref q601, .ref q602]))] sz) ((fun _ : Unit => [(h0, .inr (12, [.int 1, .int 1, .int 1, .ref q562, .ref q571, .ref q574, .ref q577, .ref q580, .ref q583, .ref q586, .int 0, .int (-1), .int 0, .int 0, .long 0, .ref q599, .ref q600, .ref q601, .ref q602]))]) u)) (va_A [(h0, .inr (12, [.int 0, .int 1, .int 1, .ref q562, .ref q571, .ref q574, .ref q577, .ref q580, .ref q583, .ref q586, .int 0, .int (-1), .int 0, .int 0, .long 0, .ref q599, .ref q600, .ref q601, .ref q602]))] sz)) 0 0 (va_A [(h0, .inr (12, [.int 0, .int 1, .int 1, .ref q562, .ref q571, .ref q574, .ref q577, .ref q580, .ref q583, .ref q586, .int 0, .int (-1), .int 0, .int 0, .long 0, .ref q599, .ref q600, .ref q601, .ref q602]))] sz) := by
  refine Met.ofW (cc := prog_14_method_28_code) (maxL := 2) (ret := (some .int)) (by decide) rfl ?_
  intro p e s m args below meth c s₁ B0 hml hv
  obtain ⟨rfl, hv⟩ := hv
  have hx := B0.exec
  have hb := B0.bytes
  have hr := B0.returns
  have hts := atoms_spec (ws := (Cond.code y_Mod_about prog_14_method_28_code 2 (some .int)) :: tw) B0.pre
  have htw : ∀ w ∈ tw, w.before _ s = true := fun w hw => hts w (List.mem_cons_of_mem _ hw)
  have hown : s.vm.findClass "DrawingMachineModel" = some m.cls := findClass_of_methodNamed B0.named
  have hlocks := B0.notSynchronized
  obtain ⟨hC, hP, hD, hsz⟩ := wC_init hv
  subst hsz
  generalize hAe : va_A [(h0, .inr (12, [.int 0, .int 1, .int 1, .ref q562, .ref q571, .ref q574, .ref q577, .ref q580, .ref q583, .ref q586, .int 0, .int (-1), .int 0, .int 0, .long 0, .ref q599, .ref q600, .ref q601, .ref q602]))] s.heap.size = A at hC hD ⊢
  have hS : va_S A s.heap s.heap [] := va_S.rf
  have hl := lv_entry ([.ref h0, .int x]) (n := 2) (Nat.le_of_ble_eq_true rfl)
  rw [lg_entry_eq]
  generalize (lg_sl ([.ref h0, .int x]) ++ List.replicate (2 - (lg_sl ([.ref h0, .int x])).length) Slot.unset).toArray = ls at hl ⊢
  have hl : lv_has ls 2 [(0, .ref h0), (1, .int x)] := hl
  refine lv_aload_n hx hb d_Mod_about_0 rfl (lv_at hl 0 rfl) ?_
  refine lv_iload_n hx hb d_Mod_about_1 rfl (lv_at hl 1 rfl) ?_
  refine lv_i2l (v := x.toInt64) hx hb d_Mod_about_2 rfl ?_
  refine lv_lconst (v := 0) hx hb d_Mod_about_3 (by decide) ?_
  refine lv_ldc2 (v := 8) hx hb hown (htw _ k683) d_Mod_about_4 ?_
  refine wc_i (wr := [(h0, .inr (12, [.int 0, .int 1, .int 1, .ref q562, .ref q571, .ref q574, .ref q577, .ref q580, .ref q583, .ref q586, .int 0, .int (-1), .int 0, .int 0, .long 0, .ref q599, .ref q600, .ref q601, .ref q602]))]) hC hP hD hS [] [0] rfl rfl (by decide) (by decide) (va_runS (As := [.long x.toInt64, .long 0, .long 8]) (rest := [.ref h0]) ⟨hx, hb, hml, hown, htw⟩ (c_Mod_in_f l D cI cL B _ x.toInt64 0 8 (bad_in 0 8 (by decide) (by decide) hbd)) (va_cwS 3 htw gS_Mod_90 rfl rfl rfl (by decide +kernel) ⟨Nat.le_of_ble_eq_true rfl, Nat.le_of_ble_eq_true rfl⟩) (wC_pre hC hP hD hS [] (by decide) rfl) rfl rfl hl.1 rfl (lv_room (Nat.le_of_ble_eq_true rfl)) d_Mod_about_7 ⟨Nat.le_of_ble_eq_true rfl, Nat.le_of_ble_eq_true rfl⟩) (fun r1013 u1011 H locs hw1012 hP hD hS => ?_)
  obtain rfl : r1013 = 0 := hw1012
  have hP : va_P D classes [(h0, .inr (12, [.int 0, .int 1, .int 1, .ref q562, .ref q571, .ref q574, .ref q577, .ref q580, .ref q583, .ref q586, .int 0, .int (-1), .int 0, .int 0, .long 0, .ref q599, .ref q600, .ref q601, .ref q602]))] H := hP
  have hD : va_D A [(h0, .inr (12, [.int 0, .int 1, .int 1, .ref q562, .ref q571, .ref q574, .ref q577, .ref q580, .ref q583, .ref q586, .int 0, .int (-1), .int 0, .int 0, .long 0, .ref q599, .ref q600, .ref q601, .ref q602]))] := hD
  refine W.widen (k := 0) (n := 0) (by omega) (by omega) ?_
  refine lv_if_ne (tgt := 17) hx hb d_Mod_about_10 (by decide) (fun c_1014 => absurd c_1014 (by decide)) (fun c_1014 => ?_)
  refine lv_iconst (v := 1) hx hb d_Mod_about_13 (by decide) ?_
  refine lv_goto (tgt := 18) hx hb d_Mod_about_14 (by decide) ?_
  refine lv_iconst (v := 0) hx hb d_Mod_about_18 (by decide) ?_
  refine wc_i (wr := []) hC hP hD hS [0] [] rfl rfl (by decide) (by decide) (va_runV (As := [.int 1, .int 0]) (rest := []) ⟨hx, hb, hml, hown, htw⟩ (c_Mref_10 l D cI cL B _ h0 q562 q571 q574 q577 q580 q583 q586 q599 q600 q601 q602) (cwV 2 htw gV_Mod_94 rfl rfl rfl (by decide +kernel) ⟨Nat.le_of_ble_eq_true rfl, Nat.le_of_ble_eq_true rfl⟩) (wC_preV (As := [.int 1, .int 0]) hC hP hD hS [0] (by decide) rfl (q0 := 0) rfl rfl) rfl rfl hl.1 rfl (lv_room (Nat.le_of_ble_eq_true rfl)) d_Mod_about_19 ⟨Nat.le_of_ble_eq_true rfl, Nat.le_of_ble_eq_true rfl⟩) (fun r1017 u1015 H locs hw1016 hP hD hS => ?_)
  obtain rfl : r1017 = 1 := hw1016
  have hP : va_P D classes [(h0, .inr (12, [.int 1, .int 1, .int 1, .ref q562, .ref q571, .ref q574, .ref q577, .ref q580, .ref q583, .ref q586, .int 0, .int (-1), .int 0, .int 0, .long 0, .ref q599, .ref q600, .ref q601, .ref q602]))] H := hP
  have hD : va_D A [(h0, .inr (12, [.int 1, .int 1, .int 1, .ref q562, .ref q571, .ref q574, .ref q577, .ref q580, .ref q583, .ref q586, .int 0, .int (-1), .int 0, .int 0, .long 0, .ref q599, .ref q600, .ref q601, .ref q602]))] := hD
  refine W.widen (k := 0) (n := 0) (by omega) (by omega) ?_
  refine lv_if_eq (tgt := 27) hx hb d_Mod_about_22 (by decide) (fun c_1018 => absurd c_1018 (by decide)) (fun c_1018 => ?_)
  refine lv_iconst (v := 0) hx hb d_Mod_about_25 (by decide) ?_
  refine W.widen (k := 0) (n := 0) (Nat.le_of_ble_eq_true rfl) (Nat.le_of_ble_eq_true rfl) ?_
  have hP9 := hP.sub (ws' := [(h0, .inr (12, [.int 1, .int 1, .int 1, .ref q562, .ref q571, .ref q574, .ref q577, .ref q580, .ref q583, .ref q586, .int 0, .int (-1), .int 0, .int 0, .long 0, .ref q599, .ref q600, .ref q601, .ref q602]))]) [0] rfl
  have hD9 := hD.sub (ws' := [(h0, .inr (12, [.int 1, .int 1, .int 1, .ref q562, .ref q571, .ref q574, .ref q577, .ref q580, .ref q583, .ref q586, .int 0, .int (-1), .int 0, .int 0, .long 0, .ref q599, .ref q600, .ref q601, .ref q602]))]) [0] (by decide) rfl
  exact W.iret (v := 0) hx hb hr (fun t ht hW => ⟨⟨0, (), rfl, rfl, by rw [ht]; exact hP9, va_K.moved hW.alike hC.1, hD9⟩, hS.F ht⟩) hS.2.2 d_Mod_about_26

theorem d_Ptm_show_0 : decode prog_17_method_27_code 0 = .ok (.iload_n 2, 1) := by decide +kernel
theorem d_Ptm_show_1 : decode prog_17_method_27_code 1 = .ok (.ifCond .le 24, 3) := by decide +kernel
theorem d_Ptm_show_25 : decode prog_17_method_27_code 25 = .ok (.iconst 0, 1) := by decide +kernel
theorem d_Ptm_show_26 : decode prog_17_method_27_code 26 = .ok (.istore_n 3, 1) := by decide +kernel
theorem d_Ptm_show_27 : decode prog_17_method_27_code 27 = .ok (.iconst 0, 1) := by decide +kernel
theorem d_Ptm_show_28 : decode prog_17_method_27_code 28 = .ok (.istore 4, 2) := by decide +kernel
theorem d_Ptm_show_30 : decode prog_17_method_27_code 30 = .ok (.iload 4, 2) := by decide +kernel
theorem d_Ptm_show_32 : decode prog_17_method_27_code 32 = .ok (.iconst 4, 1) := by decide +kernel
theorem d_Ptm_show_33 : decode prog_17_method_27_code 33 = .ok (.if_icmp .ge 29, 3) := by decide +kernel
theorem d_Ptm_show_36 : decode prog_17_method_27_code 36 = .ok (.iload_n 3, 1) := by decide +kernel
theorem d_Ptm_show_37 : decode prog_17_method_27_code 37 = .ok (.aload_n 0, 1) := by decide +kernel
theorem d_Ptm_show_38 : decode prog_17_method_27_code 38 = .ok (.getfield 17, 3) := by decide +kernel
theorem d_Ptm_show_41 : decode prog_17_method_27_code 41 = .ok (.iconst 4, 1) := by decide +kernel
theorem d_Ptm_show_42 : decode prog_17_method_27_code 42 = .ok (.iload_n 1, 1) := by decide +kernel
theorem d_Ptm_show_43 : decode prog_17_method_27_code 43 = .ok (.imul, 1) := by decide +kernel
theorem d_Ptm_show_44 : decode prog_17_method_27_code 44 = .ok (.iload 4, 2) := by decide +kernel
theorem d_Ptm_show_46 : decode prog_17_method_27_code 46 = .ok (.iadd, 1) := by decide +kernel
theorem d_Ptm_show_47 : decode prog_17_method_27_code 47 = .ok (.iaload, 1) := by decide +kernel
theorem d_Ptm_show_48 : decode prog_17_method_27_code 48 = .ok (.bipush 8, 2) := by decide +kernel
theorem d_Ptm_show_50 : decode prog_17_method_27_code 50 = .ok (.iload 4, 2) := by decide +kernel
theorem d_Ptm_show_52 : decode prog_17_method_27_code 52 = .ok (.imul, 1) := by decide +kernel
theorem d_Ptm_show_53 : decode prog_17_method_27_code 53 = .ok (.ishl, 1) := by decide +kernel
theorem d_Ptm_show_54 : decode prog_17_method_27_code 54 = .ok (.ior, 1) := by decide +kernel
theorem d_Ptm_show_55 : decode prog_17_method_27_code 55 = .ok (.istore_n 3, 1) := by decide +kernel
theorem d_Ptm_show_56 : decode prog_17_method_27_code 56 = .ok (.iinc 4 1, 3) := by decide +kernel
theorem d_Ptm_show_59 : decode prog_17_method_27_code 59 = .ok (.goto (-29), 3) := by decide +kernel
theorem d_Ptm_show_62 : decode prog_17_method_27_code 62 = .ok (.iload_n 3, 1) := by decide +kernel
theorem d_Ptm_show_63 : decode prog_17_method_27_code 63 = .ok (.ireturn, 1) := by decide +kernel
set_option maxHeartbeats 4000000 in
set_option maxRecDepth 100000 in
theorem c_Pshow_0 (l : Launch) (D : va_G) (cI cL : ClassId) (B sz : Nat) (q586 : Nat) (z589 : Nat) (z590 : Nat) (z591 : Nat) (z592 : Nat) (z593 : Nat) (z594 : Nat) (z595 : Nat) (z596 : Nat) (z597 : Nat) (z598 : Nat) : Met l y_Ptm_show ((Cond.code y_Ptm_show prog_17_method_27_code 5 (some .int)) :: tw) ({ frames := 20, cells := 0, slots := 0, locals := 2000 }) (va_Pc [.ref q586, .int 0, .int 0] (wP D cI cL B sz [(q586, .inr (18, [.int 0, .int 0, .int 0, .int 1, .int 1, .ref z589, .ref z590, .ref z591, .int 0, .ref z592, .int (-1), .int 0, .ref z593, .ref z594, .int (-1), .int 0, .ref z595, .int (-1), .int 15, .ref z596, .ref z597, .ref z598])), (z589, .inl (cI, 65536, .inl (fun _ => 0))), (z590, .inl (cI, 16384, .inl (fun _ => 0))), (z591, .inl (cI, 16384, .inl (fun _ => 0)))])) (va_Qi (S := Unit) (fun r u => r = 0) (fun u => wB D cI cL (va_A [(q586, .inr (18, [.int 0, .int 0, .int 0, .int 1, .int 1, .ref z589, .ref z590, .ref z591, .int 0, .ref z592, .int (-1), .int 0, .ref z593, .ref z594, .int (-1), .int 0, .ref z595, .int (-1), .int 15, .ref z596, .ref z597, .ref z598])), (z589, .inl (cI, 65536, .inl (fun _ => 0))), (z590, .inl (cI, 16384, .inl (fun _ => 0))), (z591, .inl (cI, 16384, .inl (fun _ => 0)))] sz) ((fun _ : Unit => [(q586, .inr (18, [.int 0, .int 0, .int 0, .int 1, .int 1, .ref z589, .ref z590, .ref z591, .int 0, .ref z592, .int (-1), .int 0, .ref z593, .ref z594, .int (-1), .int 0, .ref z595, .int (-1), .int 15, .ref z596, .ref z597, .ref z598])), (z589, .inl (cI, 65536, .inl (fun _ => 0))), (z590, .inl (cI, 16384, .inl (fun _ => 0))), (z591, .inl (cI, 16384, .inl (fun _ => 0)))]) u)) (va_A [(q586, .inr (18, [.int 0, .int 0, .int 0, .int 1, .int 1, .ref z589, .ref z590, .ref z591, .int 0, .ref z592, .int (-1), .int 0, .ref z593, .ref z594, .int (-1), .int 0, .ref z595, .int (-1), .int 15, .ref z596, .ref z597, .ref z598])), (z589, .inl (cI, 65536, .inl (fun _ => 0))), (z590, .inl (cI, 16384, .inl (fun _ => 0))), (z591, .inl (cI, 16384, .inl (fun _ => 0)))] sz)) 0 0 (va_A [(q586, .inr (18, [.int 0, .int 0, .int 0, .int 1, .int 1, .ref z589, .ref z590, .ref z591, .int 0, .ref z592, .int (-1), .int 0, .ref z593, .ref z594, .int (-1), .int 0, .ref z595, .int (-1), .int 15, .ref z596, .ref z597, .ref z598])), (z589, .inl (cI, 65536, .inl (fun _ => 0))), (z590, .inl (cI, 16384, .inl (fun _ => 0))), (z591, .inl (cI, 16384, .inl (fun _ => 0)))] sz) := by
  refine Met.ofW (cc := prog_17_method_27_code) (maxL := 5) (ret := (some .int)) (by decide) rfl ?_
  intro p e s m args below meth c s₁ B0 hml hv
  obtain ⟨rfl, hv⟩ := hv
  have hx := B0.exec
  have hb := B0.bytes
  have hr := B0.returns
  have hts := atoms_spec (ws := (Cond.code y_Ptm_show prog_17_method_27_code 5 (some .int)) :: tw) B0.pre
  have htw : ∀ w ∈ tw, w.before _ s = true := fun w hw => hts w (List.mem_cons_of_mem _ hw)
  have hown : s.vm.findClass "DrawingMachineModel$PlaceTestsModel" = some m.cls := findClass_of_methodNamed B0.named
  have hlocks := B0.notSynchronized
  obtain ⟨hC, hP, hD, hsz⟩ := wC_init hv
  subst hsz
  generalize hAe : va_A [(q586, .inr (18, [.int 0, .int 0, .int 0, .int 1, .int 1, .ref z589, .ref z590, .ref z591, .int 0, .ref z592, .int (-1), .int 0, .ref z593, .ref z594, .int (-1), .int 0, .ref z595, .int (-1), .int 15, .ref z596, .ref z597, .ref z598])), (z589, .inl (cI, 65536, .inl (fun _ => 0))), (z590, .inl (cI, 16384, .inl (fun _ => 0))), (z591, .inl (cI, 16384, .inl (fun _ => 0)))] s.heap.size = A at hC hD ⊢
  have hS : va_S A s.heap s.heap [] := va_S.rf
  have hl := lv_entry ([.ref q586, .int 0, .int 0]) (n := 5) (Nat.le_of_ble_eq_true rfl)
  rw [lg_entry_eq]
  generalize (lg_sl ([.ref q586, .int 0, .int 0]) ++ List.replicate (5 - (lg_sl ([.ref q586, .int 0, .int 0])).length) Slot.unset).toArray = ls at hl ⊢
  have hl : lv_has ls 5 [(0, .ref q586), (1, .int 0), (2, .int 0)] := hl
  refine lv_iload_n hx hb d_Ptm_show_0 rfl (lv_at hl 2 rfl) ?_
  refine lv_if_le (tgt := 25) hx hb d_Ptm_show_1 (by decide) (fun c_1019 => ?_) (fun c_1019 => absurd c_1019 (by decide))
  refine lv_iconst (v := 0) hx hb d_Ptm_show_25 (by decide) ?_
  refine lv_istore_n (lv' := [(3, .int 0), (0, .ref q586), (1, .int 0), (2, .int 0)]) hx hb d_Ptm_show_26 rfl hl (by decide) rfl (fun ls hl => ?_)
  refine lv_iconst (v := 0) hx hb d_Ptm_show_27 (by decide) ?_
  refine lv_istore (lv' := [(4, .int 0), (3, .int 0), (0, .ref q586), (1, .int 0), (2, .int 0)]) hx hb d_Ptm_show_28 hl (by decide) rfl (fun ls hl => ?_)
  refine lv_iload hx hb d_Ptm_show_30 (lv_at hl 0 rfl) ?_
  refine lv_iconst (v := 4) hx hb d_Ptm_show_32 (by decide) ?_
  refine lv_icmp_ge (tgt := 62) hx hb d_Ptm_show_33 (by decide) (fun c_1020 => absurd c_1020 (by decide)) (fun c_1020 => ?_)
  refine lv_iload_n hx hb d_Ptm_show_36 rfl (lv_at hl 1 rfl) ?_
  refine lv_aload_n hx hb d_Ptm_show_37 rfl (lv_at hl 2 rfl) ?_
  refine va_get (D := D) (ci := 18) (v := .ref z589) (C := R_Ptm) (T := F_Ptm) (N := 22) hx hb htw i_Ptm hown hC.1 hP 0 rfl rfl 5 (by decide) (htw _ k611) (fun _ h9 => h9) rfl d_Ptm_show_38 ?_
  refine lv_iconst (v := 4) hx hb d_Ptm_show_41 (by decide) ?_
  refine lv_iload_n hx hb d_Ptm_show_42 rfl (lv_at hl 3 rfl) ?_
  refine lv_imul hx hb d_Ptm_show_43 ?_
  refine wi_c (v := 0) (by decide) ?_
  refine lv_iload hx hb d_Ptm_show_44 (lv_at hl 0 rfl) ?_
  refine lv_iadd hx hb d_Ptm_show_46 ?_
  refine wi_c (v := 0) (by decide) ?_
  refine va_iald hx hb hC.1 hP 1 0 rfl rfl (by unfold vp_in; decide) d_Ptm_show_47 ?_
  refine wi_c (v := 0) rfl ?_
  refine lv_bipush (v := 8) hx hb d_Ptm_show_48 (by decide) ?_
  refine lv_iload hx hb d_Ptm_show_50 (lv_at hl 0 rfl) ?_
  refine lv_imul hx hb d_Ptm_show_52 ?_
  refine wi_c (v := 0) (by decide) ?_
  refine lv_ishl hx hb d_Ptm_show_53 ?_
  refine wi_c (v := 0) (by decide) ?_
  refine lv_ior hx hb d_Ptm_show_54 ?_
  refine wi_c (v := 0) (by decide) ?_
  refine lv_istore_n (lv' := [(3, .int 0), (4, .int 0), (0, .ref q586), (1, .int 0), (2, .int 0)]) hx hb d_Ptm_show_55 rfl hl (by decide) rfl (fun ls hl => ?_)
  refine lv_iinc (v := 1) (lv' := [(4, .int 1), (3, .int 0), (0, .ref q586), (1, .int 0), (2, .int 0)]) hx hb d_Ptm_show_56 hl (k := 1) rfl (by decide) (by decide) rfl (fun ls hl => ?_)
  refine lv_goto (tgt := 30) hx hb d_Ptm_show_59 (by decide) ?_
  refine lv_iload hx hb d_Ptm_show_30 (lv_at hl 0 rfl) ?_
  refine lv_iconst (v := 4) hx hb d_Ptm_show_32 (by decide) ?_
  refine lv_icmp_ge (tgt := 62) hx hb d_Ptm_show_33 (by decide) (fun c_1021 => absurd c_1021 (by decide)) (fun c_1021 => ?_)
  refine lv_iload_n hx hb d_Ptm_show_36 rfl (lv_at hl 1 rfl) ?_
  refine lv_aload_n hx hb d_Ptm_show_37 rfl (lv_at hl 2 rfl) ?_
  refine va_get (D := D) (ci := 18) (v := .ref z589) (C := R_Ptm) (T := F_Ptm) (N := 22) hx hb htw i_Ptm hown hC.1 hP 0 rfl rfl 5 (by decide) (htw _ k611) (fun _ h9 => h9) rfl d_Ptm_show_38 ?_
  refine lv_iconst (v := 4) hx hb d_Ptm_show_41 (by decide) ?_
  refine lv_iload_n hx hb d_Ptm_show_42 rfl (lv_at hl 3 rfl) ?_
  refine lv_imul hx hb d_Ptm_show_43 ?_
  refine wi_c (v := 0) (by decide) ?_
  refine lv_iload hx hb d_Ptm_show_44 (lv_at hl 0 rfl) ?_
  refine lv_iadd hx hb d_Ptm_show_46 ?_
  refine wi_c (v := 1) (by decide) ?_
  refine va_iald hx hb hC.1 hP 1 0 rfl rfl (by unfold vp_in; decide) d_Ptm_show_47 ?_
  refine wi_c (v := 0) rfl ?_
  refine lv_bipush (v := 8) hx hb d_Ptm_show_48 (by decide) ?_
  refine lv_iload hx hb d_Ptm_show_50 (lv_at hl 0 rfl) ?_
  refine lv_imul hx hb d_Ptm_show_52 ?_
  refine wi_c (v := 8) (by decide) ?_
  refine lv_ishl hx hb d_Ptm_show_53 ?_
  refine wi_c (v := 0) (by decide) ?_
  refine lv_ior hx hb d_Ptm_show_54 ?_
  refine wi_c (v := 0) (by decide) ?_
  refine lv_istore_n (lv' := [(3, .int 0), (4, .int 1), (0, .ref q586), (1, .int 0), (2, .int 0)]) hx hb d_Ptm_show_55 rfl hl (by decide) rfl (fun ls hl => ?_)
  refine lv_iinc (v := 2) (lv' := [(4, .int 2), (3, .int 0), (0, .ref q586), (1, .int 0), (2, .int 0)]) hx hb d_Ptm_show_56 hl (k := 1) rfl (by decide) (by decide) rfl (fun ls hl => ?_)
  refine lv_goto (tgt := 30) hx hb d_Ptm_show_59 (by decide) ?_
  refine lv_iload hx hb d_Ptm_show_30 (lv_at hl 0 rfl) ?_
  refine lv_iconst (v := 4) hx hb d_Ptm_show_32 (by decide) ?_
  refine lv_icmp_ge (tgt := 62) hx hb d_Ptm_show_33 (by decide) (fun c_1022 => absurd c_1022 (by decide)) (fun c_1022 => ?_)
  refine lv_iload_n hx hb d_Ptm_show_36 rfl (lv_at hl 1 rfl) ?_
  refine lv_aload_n hx hb d_Ptm_show_37 rfl (lv_at hl 2 rfl) ?_
  refine va_get (D := D) (ci := 18) (v := .ref z589) (C := R_Ptm) (T := F_Ptm) (N := 22) hx hb htw i_Ptm hown hC.1 hP 0 rfl rfl 5 (by decide) (htw _ k611) (fun _ h9 => h9) rfl d_Ptm_show_38 ?_
  refine lv_iconst (v := 4) hx hb d_Ptm_show_41 (by decide) ?_
  refine lv_iload_n hx hb d_Ptm_show_42 rfl (lv_at hl 3 rfl) ?_
  refine lv_imul hx hb d_Ptm_show_43 ?_
  refine wi_c (v := 0) (by decide) ?_
  refine lv_iload hx hb d_Ptm_show_44 (lv_at hl 0 rfl) ?_
  refine lv_iadd hx hb d_Ptm_show_46 ?_
  refine wi_c (v := 2) (by decide) ?_
  refine va_iald hx hb hC.1 hP 1 0 rfl rfl (by unfold vp_in; decide) d_Ptm_show_47 ?_
  refine wi_c (v := 0) rfl ?_
  refine lv_bipush (v := 8) hx hb d_Ptm_show_48 (by decide) ?_
  refine lv_iload hx hb d_Ptm_show_50 (lv_at hl 0 rfl) ?_
  refine lv_imul hx hb d_Ptm_show_52 ?_
  refine wi_c (v := 16) (by decide) ?_
  refine lv_ishl hx hb d_Ptm_show_53 ?_
  refine wi_c (v := 0) (by decide) ?_
  refine lv_ior hx hb d_Ptm_show_54 ?_
  refine wi_c (v := 0) (by decide) ?_
  refine lv_istore_n (lv' := [(3, .int 0), (4, .int 2), (0, .ref q586), (1, .int 0), (2, .int 0)]) hx hb d_Ptm_show_55 rfl hl (by decide) rfl (fun ls hl => ?_)
  refine lv_iinc (v := 3) (lv' := [(4, .int 3), (3, .int 0), (0, .ref q586), (1, .int 0), (2, .int 0)]) hx hb d_Ptm_show_56 hl (k := 1) rfl (by decide) (by decide) rfl (fun ls hl => ?_)
  refine lv_goto (tgt := 30) hx hb d_Ptm_show_59 (by decide) ?_
  refine lv_iload hx hb d_Ptm_show_30 (lv_at hl 0 rfl) ?_
  refine lv_iconst (v := 4) hx hb d_Ptm_show_32 (by decide) ?_
  refine lv_icmp_ge (tgt := 62) hx hb d_Ptm_show_33 (by decide) (fun c_1023 => absurd c_1023 (by decide)) (fun c_1023 => ?_)
  refine lv_iload_n hx hb d_Ptm_show_36 rfl (lv_at hl 1 rfl) ?_
  refine lv_aload_n hx hb d_Ptm_show_37 rfl (lv_at hl 2 rfl) ?_
  refine va_get (D := D) (ci := 18) (v := .ref z589) (C := R_Ptm) (T := F_Ptm) (N := 22) hx hb htw i_Ptm hown hC.1 hP 0 rfl rfl 5 (by decide) (htw _ k611) (fun _ h9 => h9) rfl d_Ptm_show_38 ?_
  refine lv_iconst (v := 4) hx hb d_Ptm_show_41 (by decide) ?_
  refine lv_iload_n hx hb d_Ptm_show_42 rfl (lv_at hl 3 rfl) ?_
  refine lv_imul hx hb d_Ptm_show_43 ?_
  refine wi_c (v := 0) (by decide) ?_
  refine lv_iload hx hb d_Ptm_show_44 (lv_at hl 0 rfl) ?_
  refine lv_iadd hx hb d_Ptm_show_46 ?_
  refine wi_c (v := 3) (by decide) ?_
  refine va_iald hx hb hC.1 hP 1 0 rfl rfl (by unfold vp_in; decide) d_Ptm_show_47 ?_
  refine wi_c (v := 0) rfl ?_
  refine lv_bipush (v := 8) hx hb d_Ptm_show_48 (by decide) ?_
  refine lv_iload hx hb d_Ptm_show_50 (lv_at hl 0 rfl) ?_
  refine lv_imul hx hb d_Ptm_show_52 ?_
  refine wi_c (v := 24) (by decide) ?_
  refine lv_ishl hx hb d_Ptm_show_53 ?_
  refine wi_c (v := 0) (by decide) ?_
  refine lv_ior hx hb d_Ptm_show_54 ?_
  refine wi_c (v := 0) (by decide) ?_
  refine lv_istore_n (lv' := [(3, .int 0), (4, .int 3), (0, .ref q586), (1, .int 0), (2, .int 0)]) hx hb d_Ptm_show_55 rfl hl (by decide) rfl (fun ls hl => ?_)
  refine lv_iinc (v := 4) (lv' := [(4, .int 4), (3, .int 0), (0, .ref q586), (1, .int 0), (2, .int 0)]) hx hb d_Ptm_show_56 hl (k := 1) rfl (by decide) (by decide) rfl (fun ls hl => ?_)
  refine lv_goto (tgt := 30) hx hb d_Ptm_show_59 (by decide) ?_
  refine lv_iload hx hb d_Ptm_show_30 (lv_at hl 0 rfl) ?_
  refine lv_iconst (v := 4) hx hb d_Ptm_show_32 (by decide) ?_
  refine lv_icmp_ge (tgt := 62) hx hb d_Ptm_show_33 (by decide) (fun c_1024 => ?_) (fun c_1024 => absurd c_1024 (by decide))
  refine lv_iload_n hx hb d_Ptm_show_62 rfl (lv_at hl 1 rfl) ?_
  refine W.widen (k := 0) (n := 0) (Nat.le_of_ble_eq_true rfl) (Nat.le_of_ble_eq_true rfl) ?_
  have hP9 := hP.sub (ws' := [(q586, .inr (18, [.int 0, .int 0, .int 0, .int 1, .int 1, .ref z589, .ref z590, .ref z591, .int 0, .ref z592, .int (-1), .int 0, .ref z593, .ref z594, .int (-1), .int 0, .ref z595, .int (-1), .int 15, .ref z596, .ref z597, .ref z598])), (z589, .inl (cI, 65536, .inl (fun _ => 0))), (z590, .inl (cI, 16384, .inl (fun _ => 0))), (z591, .inl (cI, 16384, .inl (fun _ => 0)))]) [0, 1, 2, 3] rfl
  have hD9 := hD.sub (ws' := [(q586, .inr (18, [.int 0, .int 0, .int 0, .int 1, .int 1, .ref z589, .ref z590, .ref z591, .int 0, .ref z592, .int (-1), .int 0, .ref z593, .ref z594, .int (-1), .int 0, .ref z595, .int (-1), .int 15, .ref z596, .ref z597, .ref z598])), (z589, .inl (cI, 65536, .inl (fun _ => 0))), (z590, .inl (cI, 16384, .inl (fun _ => 0))), (z591, .inl (cI, 16384, .inl (fun _ => 0)))]) [0, 1, 2, 3] (by decide) rfl
  exact W.iret (v := 0) hx hb hr (fun t ht hW => ⟨⟨0, (), rfl, rfl, by rw [ht]; exact hP9, va_K.moved hW.alike hC.1, hD9⟩, hS.F ht⟩) hS.2.2 d_Ptm_show_63

theorem d_Ptm_sum_0 : decode prog_17_method_30_code 0 = .ok (.aload_n 0, 1) := by decide +kernel
theorem d_Ptm_sum_1 : decode prog_17_method_30_code 1 = .ok (.iload_n 1, 1) := by decide +kernel
theorem d_Ptm_sum_2 : decode prog_17_method_30_code 2 = .ok (.iconst 0, 1) := by decide +kernel
theorem d_Ptm_sum_3 : decode prog_17_method_30_code 3 = .ok (.iconst 2, 1) := by decide +kernel
theorem d_Ptm_sum_4 : decode prog_17_method_30_code 4 = .ok (.invokestatic 63, 3) := by decide +kernel
theorem d_Ptm_sum_7 : decode prog_17_method_30_code 7 = .ok (.ifCond .ne 7, 3) := by decide +kernel
theorem d_Ptm_sum_14 : decode prog_17_method_30_code 14 = .ok (.iconst 0, 1) := by decide +kernel
theorem d_Ptm_sum_15 : decode prog_17_method_30_code 15 = .ok (.iconst 0, 1) := by decide +kernel
theorem d_Ptm_sum_16 : decode prog_17_method_30_code 16 = .ok (.invokevirtual 67, 3) := by decide +kernel
theorem d_Ptm_sum_19 : decode prog_17_method_30_code 19 = .ok (.ifCond .eq 5, 3) := by decide +kernel
theorem d_Ptm_sum_24 : decode prog_17_method_30_code 24 = .ok (.iconst 0, 1) := by decide +kernel
theorem d_Ptm_sum_25 : decode prog_17_method_30_code 25 = .ok (.istore_n 2, 1) := by decide +kernel
theorem d_Ptm_sum_26 : decode prog_17_method_30_code 26 = .ok (.iconst 0, 1) := by decide +kernel
theorem d_Ptm_sum_27 : decode prog_17_method_30_code 27 = .ok (.istore_n 3, 1) := by decide +kernel
theorem d_Ptm_sum_28 : decode prog_17_method_30_code 28 = .ok (.iload_n 3, 1) := by decide +kernel
theorem d_Ptm_sum_29 : decode prog_17_method_30_code 29 = .ok (.aload_n 0, 1) := by decide +kernel
theorem d_Ptm_sum_30 : decode prog_17_method_30_code 30 = .ok (.getfield 7, 3) := by decide +kernel
theorem d_Ptm_sum_33 : decode prog_17_method_30_code 33 = .ok (.aload_n 0, 1) := by decide +kernel
theorem d_Ptm_sum_34 : decode prog_17_method_30_code 34 = .ok (.getfield 13, 3) := by decide +kernel
theorem d_Ptm_sum_37 : decode prog_17_method_30_code 37 = .ok (.imul, 1) := by decide +kernel
theorem d_Ptm_sum_38 : decode prog_17_method_30_code 38 = .ok (.if_icmp .ge 21, 3) := by decide +kernel
theorem d_Ptm_sum_41 : decode prog_17_method_30_code 41 = .ok (.bipush 31, 2) := by decide +kernel
theorem d_Ptm_sum_43 : decode prog_17_method_30_code 43 = .ok (.iload_n 2, 1) := by decide +kernel
theorem d_Ptm_sum_44 : decode prog_17_method_30_code 44 = .ok (.imul, 1) := by decide +kernel
theorem d_Ptm_sum_45 : decode prog_17_method_30_code 45 = .ok (.aload_n 0, 1) := by decide +kernel
theorem d_Ptm_sum_46 : decode prog_17_method_30_code 46 = .ok (.iload_n 3, 1) := by decide +kernel
theorem d_Ptm_sum_47 : decode prog_17_method_30_code 47 = .ok (.iload_n 1, 1) := by decide +kernel
theorem d_Ptm_sum_48 : decode prog_17_method_30_code 48 = .ok (.invokevirtual 133, 3) := by decide +kernel
theorem d_Ptm_sum_51 : decode prog_17_method_30_code 51 = .ok (.iadd, 1) := by decide +kernel
theorem d_Ptm_sum_52 : decode prog_17_method_30_code 52 = .ok (.istore_n 2, 1) := by decide +kernel
theorem d_Ptm_sum_53 : decode prog_17_method_30_code 53 = .ok (.iinc 3 1, 3) := by decide +kernel
theorem d_Ptm_sum_56 : decode prog_17_method_30_code 56 = .ok (.goto (-28), 3) := by decide +kernel
theorem d_Ptm_sum_59 : decode prog_17_method_30_code 59 = .ok (.iload_n 2, 1) := by decide +kernel
theorem d_Ptm_sum_60 : decode prog_17_method_30_code 60 = .ok (.ireturn, 1) := by decide +kernel
theorem gS_Ptm_63 : GoodIn tw (va_wsS "DrawingMachineModel$PlaceTestsModel" 63 y_Ptm_in ((Cond.code y_Ptm_in prog_17_method_3_code 3 (some .boolean)) :: tw)) := tw_pre (fun _ h => h) (tw_good (fun _ h => h) k745) (List.forall_mem_cons.mpr ⟨k746, List.forall_mem_cons.mpr ⟨k747, List.forall_mem_cons.mpr ⟨k213, fun _ h => absurd h List.not_mem_nil⟩⟩⟩)
theorem gV_Ptm_67 : GoodIn tw (wsV "DrawingMachineModel$PlaceTestsModel" 67 "DrawingMachineModel$PlaceTestsModel" y_Ptm_refuse ((Cond.code y_Ptm_refuse prog_17_method_2_code 3 (some .boolean)) :: tw)) := tw_pre (fun _ h => h) (tw_good (fun _ h => h) k743) (List.forall_mem_cons.mpr ⟨k748, List.forall_mem_cons.mpr ⟨k749, List.forall_mem_cons.mpr ⟨k1017, List.forall_mem_cons.mpr ⟨k213, fun _ h => absurd h List.not_mem_nil⟩⟩⟩⟩)
theorem gV_Ptm_133 : GoodIn tw (wsV "DrawingMachineModel$PlaceTestsModel" 133 "DrawingMachineModel$PlaceTestsModel" y_Ptm_show ((Cond.code y_Ptm_show prog_17_method_27_code 5 (some .int)) :: tw)) := tw_pre (fun _ h => h) (tw_good (fun _ h => h) k692) (List.forall_mem_cons.mpr ⟨k752, List.forall_mem_cons.mpr ⟨k691, List.forall_mem_cons.mpr ⟨k1012, List.forall_mem_cons.mpr ⟨k213, fun _ h => absurd h List.not_mem_nil⟩⟩⟩⟩)
set_option maxHeartbeats 4000000 in
set_option maxRecDepth 100000 in
theorem c_Psum_0 (l : Launch) (D : va_G) (cI cL : ClassId) (B sz : Nat) (q586 : Nat) (z589 : Nat) (z590 : Nat) (z591 : Nat) (z592 : Nat) (z593 : Nat) (z594 : Nat) (z595 : Nat) (z596 : Nat) (z597 : Nat) (z598 : Nat) : Met l y_Ptm_sum ((Cond.code y_Ptm_sum prog_17_method_30_code 4 (some .int)) :: tw) ({ frames := 30, cells := 0, slots := 0, locals := 3000 }) (va_Pc [.ref q586, .int 0] (wP D cI cL B sz [(q586, .inr (18, [.int 0, .int 0, .int 0, .int 1, .int 1, .ref z589, .ref z590, .ref z591, .int 0, .ref z592, .int (-1), .int 0, .ref z593, .ref z594, .int (-1), .int 0, .ref z595, .int (-1), .int 15, .ref z596, .ref z597, .ref z598])), (z589, .inl (cI, 65536, .inl (fun _ => 0))), (z590, .inl (cI, 16384, .inl (fun _ => 0))), (z591, .inl (cI, 16384, .inl (fun _ => 0)))])) (va_Qi (S := Unit) (fun r u => r = 0) (fun u => wB D cI cL (va_A [(q586, .inr (18, [.int 0, .int 0, .int 0, .int 1, .int 1, .ref z589, .ref z590, .ref z591, .int 0, .ref z592, .int (-1), .int 0, .ref z593, .ref z594, .int (-1), .int 0, .ref z595, .int (-1), .int 15, .ref z596, .ref z597, .ref z598])), (z589, .inl (cI, 65536, .inl (fun _ => 0))), (z590, .inl (cI, 16384, .inl (fun _ => 0))), (z591, .inl (cI, 16384, .inl (fun _ => 0)))] sz) ((fun _ : Unit => []) u)) (va_A [(q586, .inr (18, [.int 0, .int 0, .int 0, .int 1, .int 1, .ref z589, .ref z590, .ref z591, .int 0, .ref z592, .int (-1), .int 0, .ref z593, .ref z594, .int (-1), .int 0, .ref z595, .int (-1), .int 15, .ref z596, .ref z597, .ref z598])), (z589, .inl (cI, 65536, .inl (fun _ => 0))), (z590, .inl (cI, 16384, .inl (fun _ => 0))), (z591, .inl (cI, 16384, .inl (fun _ => 0)))] sz)) 0 0 (va_A [(q586, .inr (18, [.int 0, .int 0, .int 0, .int 1, .int 1, .ref z589, .ref z590, .ref z591, .int 0, .ref z592, .int (-1), .int 0, .ref z593, .ref z594, .int (-1), .int 0, .ref z595, .int (-1), .int 15, .ref z596, .ref z597, .ref z598])), (z589, .inl (cI, 65536, .inl (fun _ => 0))), (z590, .inl (cI, 16384, .inl (fun _ => 0))), (z591, .inl (cI, 16384, .inl (fun _ => 0)))] sz) := by
  refine Met.ofW (cc := prog_17_method_30_code) (maxL := 4) (ret := (some .int)) (by decide) rfl ?_
  intro p e s m args below meth c s₁ B0 hml hv
  obtain ⟨rfl, hv⟩ := hv
  have hx := B0.exec
  have hb := B0.bytes
  have hr := B0.returns
  have hts := atoms_spec (ws := (Cond.code y_Ptm_sum prog_17_method_30_code 4 (some .int)) :: tw) B0.pre
  have htw : ∀ w ∈ tw, w.before _ s = true := fun w hw => hts w (List.mem_cons_of_mem _ hw)
  have hown : s.vm.findClass "DrawingMachineModel$PlaceTestsModel" = some m.cls := findClass_of_methodNamed B0.named
  have hlocks := B0.notSynchronized
  obtain ⟨hC, hP, hD, hsz⟩ := wC_init hv
  subst hsz
  generalize hAe : va_A [(q586, .inr (18, [.int 0, .int 0, .int 0, .int 1, .int 1, .ref z589, .ref z590, .ref z591, .int 0, .ref z592, .int (-1), .int 0, .ref z593, .ref z594, .int (-1), .int 0, .ref z595, .int (-1), .int 15, .ref z596, .ref z597, .ref z598])), (z589, .inl (cI, 65536, .inl (fun _ => 0))), (z590, .inl (cI, 16384, .inl (fun _ => 0))), (z591, .inl (cI, 16384, .inl (fun _ => 0)))] s.heap.size = A at hC hD ⊢
  have hS : va_S A s.heap s.heap [] := va_S.rf
  have hl := lv_entry ([.ref q586, .int 0]) (n := 4) (Nat.le_of_ble_eq_true rfl)
  rw [lg_entry_eq]
  generalize (lg_sl ([.ref q586, .int 0]) ++ List.replicate (4 - (lg_sl ([.ref q586, .int 0])).length) Slot.unset).toArray = ls at hl ⊢
  have hl : lv_has ls 4 [(0, .ref q586), (1, .int 0)] := hl
  refine lv_aload_n hx hb d_Ptm_sum_0 rfl (lv_at hl 0 rfl) ?_
  refine lv_iload_n hx hb d_Ptm_sum_1 rfl (lv_at hl 1 rfl) ?_
  refine lv_iconst (v := 0) hx hb d_Ptm_sum_2 (by decide) ?_
  refine lv_iconst (v := 2) hx hb d_Ptm_sum_3 (by decide) ?_
  refine wc_i (wr := [(q586, .inr (18, [.int 0, .int 0, .int 0, .int 1, .int 1, .ref z589, .ref z590, .ref z591, .int 0, .ref z592, .int (-1), .int 0, .ref z593, .ref z594, .int (-1), .int 0, .ref z595, .int (-1), .int 15, .ref z596, .ref z597, .ref z598])), (z589, .inl (cI, 65536, .inl (fun _ => 0))), (z590, .inl (cI, 16384, .inl (fun _ => 0))), (z591, .inl (cI, 16384, .inl (fun _ => 0)))]) hC hP hD hS [] [0, 1, 2, 3] rfl rfl (by decide) (by decide) (va_runS (As := [.int 0, .int 0, .int 2]) (rest := [.ref q586]) ⟨hx, hb, hml, hown, htw⟩ (c_Ptm_in_t l D cI cL B _ 0 0 2 (by decide) (by decide)) (va_cwS 3 htw gS_Ptm_63 rfl rfl rfl (by decide +kernel) ⟨Nat.le_of_ble_eq_true rfl, Nat.le_of_ble_eq_true rfl⟩) (wC_pre hC hP hD hS [] (by decide) rfl) rfl rfl hl.1 rfl (lv_room (Nat.le_of_ble_eq_true rfl)) d_Ptm_sum_4 ⟨Nat.le_of_ble_eq_true rfl, Nat.le_of_ble_eq_true rfl⟩) (fun r1027 u1025 H locs hw1026 hP hD hS => ?_)
  obtain rfl : r1027 = 1 := hw1026
  have hP : va_P D classes [(q586, .inr (18, [.int 0, .int 0, .int 0, .int 1, .int 1, .ref z589, .ref z590, .ref z591, .int 0, .ref z592, .int (-1), .int 0, .ref z593, .ref z594, .int (-1), .int 0, .ref z595, .int (-1), .int 15, .ref z596, .ref z597, .ref z598])), (z589, .inl (cI, 65536, .inl (fun _ => 0))), (z590, .inl (cI, 16384, .inl (fun _ => 0))), (z591, .inl (cI, 16384, .inl (fun _ => 0)))] H := hP
  have hD : va_D A [(q586, .inr (18, [.int 0, .int 0, .int 0, .int 1, .int 1, .ref z589, .ref z590, .ref z591, .int 0, .ref z592, .int (-1), .int 0, .ref z593, .ref z594, .int (-1), .int 0, .ref z595, .int (-1), .int 15, .ref z596, .ref z597, .ref z598])), (z589, .inl (cI, 65536, .inl (fun _ => 0))), (z590, .inl (cI, 16384, .inl (fun _ => 0))), (z591, .inl (cI, 16384, .inl (fun _ => 0)))] := hD
  refine W.widen (k := 0) (n := 0) (by omega) (by omega) ?_
  refine lv_if_ne (tgt := 14) hx hb d_Ptm_sum_7 (by decide) (fun c_1028 => ?_) (fun c_1028 => absurd c_1028 (by decide))
  refine lv_iconst (v := 0) hx hb d_Ptm_sum_14 (by decide) ?_
  refine lv_iconst (v := 0) hx hb d_Ptm_sum_15 (by decide) ?_
  refine wc_i (wr := [(z589, .inl (cI, 65536, .inl (fun _ => 0))), (z590, .inl (cI, 16384, .inl (fun _ => 0))), (z591, .inl (cI, 16384, .inl (fun _ => 0)))]) hC hP hD hS [0] [1, 2, 3] rfl rfl (by decide) (by decide) (va_runV (As := [.int 0, .int 0]) (rest := []) ⟨hx, hb, hml, hown, htw⟩ (c_Pref_00 l D cI cL B _ q586 z589 z590 z591 z592 z593 z594 z595 z596 z597 z598) (cwV 2 htw gV_Ptm_67 rfl rfl rfl (by decide +kernel) ⟨Nat.le_of_ble_eq_true rfl, Nat.le_of_ble_eq_true rfl⟩) (wC_preV (As := [.int 0, .int 0]) hC hP hD hS [0] (by decide) rfl (q0 := 0) rfl rfl) rfl rfl hl.1 rfl (lv_room (Nat.le_of_ble_eq_true rfl)) d_Ptm_sum_16 ⟨Nat.le_of_ble_eq_true rfl, Nat.le_of_ble_eq_true rfl⟩) (fun r1031 u1029 H locs hw1030 hP hD hS => ?_)
  obtain rfl : r1031 = 0 := hw1030
  have hP : va_P D classes [(z589, .inl (cI, 65536, .inl (fun _ => 0))), (z590, .inl (cI, 16384, .inl (fun _ => 0))), (z591, .inl (cI, 16384, .inl (fun _ => 0))), (q586, .inr (18, [.int 0, .int 0, .int 0, .int 1, .int 1, .ref z589, .ref z590, .ref z591, .int 0, .ref z592, .int (-1), .int 0, .ref z593, .ref z594, .int (-1), .int 0, .ref z595, .int (-1), .int 15, .ref z596, .ref z597, .ref z598]))] H := hP
  have hD : va_D A [(z589, .inl (cI, 65536, .inl (fun _ => 0))), (z590, .inl (cI, 16384, .inl (fun _ => 0))), (z591, .inl (cI, 16384, .inl (fun _ => 0))), (q586, .inr (18, [.int 0, .int 0, .int 0, .int 1, .int 1, .ref z589, .ref z590, .ref z591, .int 0, .ref z592, .int (-1), .int 0, .ref z593, .ref z594, .int (-1), .int 0, .ref z595, .int (-1), .int 15, .ref z596, .ref z597, .ref z598]))] := hD
  refine W.widen (k := 0) (n := 0) (by omega) (by omega) ?_
  refine lv_if_eq (tgt := 24) hx hb d_Ptm_sum_19 (by decide) (fun c_1032 => ?_) (fun c_1032 => absurd c_1032 (by decide))
  refine lv_iconst (v := 0) hx hb d_Ptm_sum_24 (by decide) ?_
  refine lv_istore_n (lv' := [(2, .int 0), (0, .ref q586), (1, .int 0)]) hx hb d_Ptm_sum_25 rfl hl (by decide) rfl (fun ls hl => ?_)
  refine lv_iconst (v := 0) hx hb d_Ptm_sum_26 (by decide) ?_
  refine lv_istore_n (lv' := [(3, .int 0), (2, .int 0), (0, .ref q586), (1, .int 0)]) hx hb d_Ptm_sum_27 rfl hl (by decide) rfl (fun ls hl => ?_)
  refine lv_iload_n hx hb d_Ptm_sum_28 rfl (lv_at hl 0 rfl) ?_
  refine lv_aload_n hx hb d_Ptm_sum_29 rfl (lv_at hl 2 rfl) ?_
  refine va_get (D := D) (ci := 18) (v := .int 1) (C := R_Ptm) (T := F_Ptm) (N := 22) hx hb htw i_Ptm hown hC.1 hP 3 rfl rfl 3 (by decide) (htw _ k608) (fun _ h9 => h9) rfl d_Ptm_sum_30 ?_
  refine lv_aload_n hx hb d_Ptm_sum_33 rfl (lv_at hl 2 rfl) ?_
  refine va_get (D := D) (ci := 18) (v := .int 1) (C := R_Ptm) (T := F_Ptm) (N := 22) hx hb htw i_Ptm hown hC.1 hP 3 rfl rfl 4 (by decide) (htw _ k609) (fun _ h9 => h9) rfl d_Ptm_sum_34 ?_
  refine lv_imul hx hb d_Ptm_sum_37 ?_
  refine wi_c (v := 1) (by decide) ?_
  refine lv_icmp_ge (tgt := 59) hx hb d_Ptm_sum_38 (by decide) (fun c_1033 => absurd c_1033 (by decide)) (fun c_1033 => ?_)
  refine lv_bipush (v := 31) hx hb d_Ptm_sum_41 (by decide) ?_
  refine lv_iload_n hx hb d_Ptm_sum_43 rfl (lv_at hl 1 rfl) ?_
  refine lv_imul hx hb d_Ptm_sum_44 ?_
  refine wi_c (v := 0) (by decide) ?_
  refine lv_aload_n hx hb d_Ptm_sum_45 rfl (lv_at hl 2 rfl) ?_
  refine lv_iload_n hx hb d_Ptm_sum_46 rfl (lv_at hl 0 rfl) ?_
  refine lv_iload_n hx hb d_Ptm_sum_47 rfl (lv_at hl 3 rfl) ?_
  refine wc_i (wr := []) hC hP hD hS [3, 0, 1, 2] [] rfl rfl (by decide) (by decide) (va_runV (As := [.int 0, .int 0]) (rest := [.int 0]) ⟨hx, hb, hml, hown, htw⟩ (c_Pshow_0 l D cI cL B _ q586 z589 z590 z591 z592 z593 z594 z595 z596 z597 z598) (cwV 2 htw gV_Ptm_133 rfl rfl rfl (by decide +kernel) ⟨Nat.le_of_ble_eq_true rfl, Nat.le_of_ble_eq_true rfl⟩) (wC_preV (As := [.int 0, .int 0]) hC hP hD hS [3, 0, 1, 2] (by decide) rfl (q0 := 3) rfl rfl) rfl rfl hl.1 rfl (lv_room (Nat.le_of_ble_eq_true rfl)) d_Ptm_sum_48 ⟨Nat.le_of_ble_eq_true rfl, Nat.le_of_ble_eq_true rfl⟩) (fun r1036 u1034 H locs hw1035 hP hD hS => ?_)
  obtain rfl : r1036 = 0 := hw1035
  have hP : va_P D classes [(q586, .inr (18, [.int 0, .int 0, .int 0, .int 1, .int 1, .ref z589, .ref z590, .ref z591, .int 0, .ref z592, .int (-1), .int 0, .ref z593, .ref z594, .int (-1), .int 0, .ref z595, .int (-1), .int 15, .ref z596, .ref z597, .ref z598])), (z589, .inl (cI, 65536, .inl (fun _ => 0))), (z590, .inl (cI, 16384, .inl (fun _ => 0))), (z591, .inl (cI, 16384, .inl (fun _ => 0)))] H := hP
  have hD : va_D A [(q586, .inr (18, [.int 0, .int 0, .int 0, .int 1, .int 1, .ref z589, .ref z590, .ref z591, .int 0, .ref z592, .int (-1), .int 0, .ref z593, .ref z594, .int (-1), .int 0, .ref z595, .int (-1), .int 15, .ref z596, .ref z597, .ref z598])), (z589, .inl (cI, 65536, .inl (fun _ => 0))), (z590, .inl (cI, 16384, .inl (fun _ => 0))), (z591, .inl (cI, 16384, .inl (fun _ => 0)))] := hD
  refine W.widen (k := 0) (n := 0) (by omega) (by omega) ?_
  refine lv_iadd hx hb d_Ptm_sum_51 ?_
  refine wi_c (v := 0) (by decide) ?_
  refine lv_istore_n (lv' := [(2, .int 0), (3, .int 0), (0, .ref q586), (1, .int 0)]) hx hb d_Ptm_sum_52 rfl hl (by decide) rfl (fun ls hl => ?_)
  refine lv_iinc (v := 1) (lv' := [(3, .int 1), (2, .int 0), (0, .ref q586), (1, .int 0)]) hx hb d_Ptm_sum_53 hl (k := 1) rfl (by decide) (by decide) rfl (fun ls hl => ?_)
  refine lv_goto (tgt := 28) hx hb d_Ptm_sum_56 (by decide) ?_
  refine lv_iload_n hx hb d_Ptm_sum_28 rfl (lv_at hl 0 rfl) ?_
  refine lv_aload_n hx hb d_Ptm_sum_29 rfl (lv_at hl 2 rfl) ?_
  refine va_get (D := D) (ci := 18) (v := .int 1) (C := R_Ptm) (T := F_Ptm) (N := 22) hx hb htw i_Ptm hown hC.1 hP 0 rfl rfl 3 (by decide) (htw _ k608) (fun _ h9 => h9) rfl d_Ptm_sum_30 ?_
  refine lv_aload_n hx hb d_Ptm_sum_33 rfl (lv_at hl 2 rfl) ?_
  refine va_get (D := D) (ci := 18) (v := .int 1) (C := R_Ptm) (T := F_Ptm) (N := 22) hx hb htw i_Ptm hown hC.1 hP 0 rfl rfl 4 (by decide) (htw _ k609) (fun _ h9 => h9) rfl d_Ptm_sum_34 ?_
  refine lv_imul hx hb d_Ptm_sum_37 ?_
  refine wi_c (v := 1) (by decide) ?_
  refine lv_icmp_ge (tgt := 59) hx hb d_Ptm_sum_38 (by decide) (fun c_1037 => ?_) (fun c_1037 => absurd c_1037 (by decide))
  refine lv_iload_n hx hb d_Ptm_sum_59 rfl (lv_at hl 1 rfl) ?_
  refine W.widen (k := 0) (n := 0) (Nat.le_of_ble_eq_true rfl) (Nat.le_of_ble_eq_true rfl) ?_
  have hP9 := hP.sub (ws' := []) [] rfl
  have hD9 := hD.sub (ws' := []) [] (by decide) rfl
  exact W.iret (v := 0) hx hb hr (fun t ht hW => ⟨⟨0, (), rfl, rfl, by rw [ht]; exact hP9, va_K.moved hW.alike hC.1, hD9⟩, hS.F ht⟩) hS.2.2 d_Ptm_sum_60

theorem d_Mod_at_0 : decode prog_14_method_29_code 0 = .ok (.iload_n 3, 1) := by decide +kernel
theorem d_Mod_at_1 : decode prog_14_method_29_code 1 = .ok (.i2l, 1) := by decide +kernel
theorem d_Mod_at_2 : decode prog_14_method_29_code 2 = .ok (.lconst 0, 1) := by decide +kernel
theorem d_Mod_at_3 : decode prog_14_method_29_code 3 = .ok (.ldc2_w 367, 3) := by decide +kernel
theorem d_Mod_at_6 : decode prog_14_method_29_code 6 = .ok (.invokestatic 90, 3) := by decide +kernel
theorem d_Mod_at_9 : decode prog_14_method_29_code 9 = .ok (.istore 4, 2) := by decide +kernel
theorem d_Mod_at_11 : decode prog_14_method_29_code 11 = .ok (.aload_n 0, 1) := by decide +kernel
theorem d_Mod_at_12 : decode prog_14_method_29_code 12 = .ok (.iload 4, 2) := by decide +kernel
theorem d_Mod_at_14 : decode prog_14_method_29_code 14 = .ok (.ifCond .ne 7, 3) := by decide +kernel
theorem d_Mod_at_21 : decode prog_14_method_29_code 21 = .ok (.iconst 0, 1) := by decide +kernel
theorem d_Mod_at_22 : decode prog_14_method_29_code 22 = .ok (.iload 4, 2) := by decide +kernel
theorem d_Mod_at_24 : decode prog_14_method_29_code 24 = .ok (.ifCond .eq 39, 3) := by decide +kernel
theorem d_Mod_at_27 : decode prog_14_method_29_code 27 = .ok (.iload_n 1, 1) := by decide +kernel
theorem d_Mod_at_28 : decode prog_14_method_29_code 28 = .ok (.i2l, 1) := by decide +kernel
theorem d_Mod_at_29 : decode prog_14_method_29_code 29 = .ok (.lconst 0, 1) := by decide +kernel
theorem d_Mod_at_30 : decode prog_14_method_29_code 30 = .ok (.aload_n 0, 1) := by decide +kernel
theorem d_Mod_at_31 : decode prog_14_method_29_code 31 = .ok (.getfield 7, 3) := by decide +kernel
theorem d_Mod_at_34 : decode prog_14_method_29_code 34 = .ok (.iconst 1, 1) := by decide +kernel
theorem d_Mod_at_35 : decode prog_14_method_29_code 35 = .ok (.isub, 1) := by decide +kernel
theorem d_Mod_at_36 : decode prog_14_method_29_code 36 = .ok (.i2l, 1) := by decide +kernel
theorem d_Mod_at_37 : decode prog_14_method_29_code 37 = .ok (.invokestatic 90, 3) := by decide +kernel
theorem d_Mod_at_40 : decode prog_14_method_29_code 40 = .ok (.ifCond .eq 19, 3) := by decide +kernel
theorem d_Mod_at_43 : decode prog_14_method_29_code 43 = .ok (.iload_n 2, 1) := by decide +kernel
theorem d_Mod_at_44 : decode prog_14_method_29_code 44 = .ok (.i2l, 1) := by decide +kernel
theorem d_Mod_at_45 : decode prog_14_method_29_code 45 = .ok (.lconst 0, 1) := by decide +kernel
theorem d_Mod_at_46 : decode prog_14_method_29_code 46 = .ok (.aload_n 0, 1) := by decide +kernel
theorem d_Mod_at_47 : decode prog_14_method_29_code 47 = .ok (.getfield 13, 3) := by decide +kernel
theorem d_Mod_at_50 : decode prog_14_method_29_code 50 = .ok (.iconst 1, 1) := by decide +kernel
theorem d_Mod_at_51 : decode prog_14_method_29_code 51 = .ok (.isub, 1) := by decide +kernel
theorem d_Mod_at_52 : decode prog_14_method_29_code 52 = .ok (.i2l, 1) := by decide +kernel
theorem d_Mod_at_53 : decode prog_14_method_29_code 53 = .ok (.invokestatic 90, 3) := by decide +kernel
theorem d_Mod_at_56 : decode prog_14_method_29_code 56 = .ok (.ifCond .ne 7, 3) := by decide +kernel
theorem d_Mod_at_63 : decode prog_14_method_29_code 63 = .ok (.iconst 0, 1) := by decide +kernel
theorem d_Mod_at_64 : decode prog_14_method_29_code 64 = .ok (.invokevirtual 94, 3) := by decide +kernel
theorem d_Mod_at_67 : decode prog_14_method_29_code 67 = .ok (.ifCond .eq 5, 3) := by decide +kernel
theorem d_Mod_at_72 : decode prog_14_method_29_code 72 = .ok (.aload_n 0, 1) := by decide +kernel
theorem d_Mod_at_73 : decode prog_14_method_29_code 73 = .ok (.getfield 65, 3) := by decide +kernel
theorem d_Mod_at_76 : decode prog_14_method_29_code 76 = .ok (.iload_n 2, 1) := by decide +kernel
theorem d_Mod_at_77 : decode prog_14_method_29_code 77 = .ok (.aload_n 0, 1) := by decide +kernel
theorem d_Mod_at_78 : decode prog_14_method_29_code 78 = .ok (.getfield 7, 3) := by decide +kernel
theorem d_Mod_at_81 : decode prog_14_method_29_code 81 = .ok (.imul, 1) := by decide +kernel
theorem d_Mod_at_82 : decode prog_14_method_29_code 82 = .ok (.iload_n 1, 1) := by decide +kernel
theorem d_Mod_at_83 : decode prog_14_method_29_code 83 = .ok (.iadd, 1) := by decide +kernel
theorem d_Mod_at_84 : decode prog_14_method_29_code 84 = .ok (.iload_n 3, 1) := by decide +kernel
theorem d_Mod_at_85 : decode prog_14_method_29_code 85 = .ok (.invokevirtual 208, 3) := by decide +kernel
theorem d_Mod_at_88 : decode prog_14_method_29_code 88 = .ok (.ireturn, 1) := by decide +kernel
set_option maxHeartbeats 4000000 in
set_option maxRecDepth 100000 in
theorem c_Mat_0 (l : Launch) (D : va_G) (cI cL : ClassId) (B sz : Nat) (h0 : Nat) (q562 : Nat) (q571 : Nat) (q574 : Nat) (q577 : Nat) (q580 : Nat) (q583 : Nat) (q586 : Nat) (z589 : Nat) (z590 : Nat) (z591 : Nat) (z592 : Nat) (z593 : Nat) (z594 : Nat) (z595 : Nat) (z596 : Nat) (z597 : Nat) (z598 : Nat) (q599 : Nat) (q600 : Nat) (q601 : Nat) (q602 : Nat) : Met l y_Mod_at ((Cond.code y_Mod_at prog_14_method_29_code 5 (some .int)) :: tw) ({ frames := 40, cells := 0, slots := 0, locals := 4000 }) (va_Pc [.ref h0, .int 0, .int 0, .int 0] (wP D cI cL B sz [(h0, .inr (12, [.int 0, .int 1, .int 1, .ref q562, .ref q571, .ref q574, .ref q577, .ref q580, .ref q583, .ref q586, .int 0, .int (-1), .int 0, .int 0, .long 0, .ref q599, .ref q600, .ref q601, .ref q602])), (q586, .inr (18, [.int 0, .int 0, .int 0, .int 1, .int 1, .ref z589, .ref z590, .ref z591, .int 0, .ref z592, .int (-1), .int 0, .ref z593, .ref z594, .int (-1), .int 0, .ref z595, .int (-1), .int 15, .ref z596, .ref z597, .ref z598])), (z589, .inl (cI, 65536, .inl (fun _ => 0))), (z590, .inl (cI, 16384, .inl (fun _ => 0))), (z591, .inl (cI, 16384, .inl (fun _ => 0)))])) (va_Qi (S := Unit) (fun r u => r = 0) (fun u => wB D cI cL (va_A [(h0, .inr (12, [.int 0, .int 1, .int 1, .ref q562, .ref q571, .ref q574, .ref q577, .ref q580, .ref q583, .ref q586, .int 0, .int (-1), .int 0, .int 0, .long 0, .ref q599, .ref q600, .ref q601, .ref q602])), (q586, .inr (18, [.int 0, .int 0, .int 0, .int 1, .int 1, .ref z589, .ref z590, .ref z591, .int 0, .ref z592, .int (-1), .int 0, .ref z593, .ref z594, .int (-1), .int 0, .ref z595, .int (-1), .int 15, .ref z596, .ref z597, .ref z598])), (z589, .inl (cI, 65536, .inl (fun _ => 0))), (z590, .inl (cI, 16384, .inl (fun _ => 0))), (z591, .inl (cI, 16384, .inl (fun _ => 0)))] sz) ((fun _ : Unit => [(h0, .inr (12, [.int 0, .int 1, .int 1, .ref q562, .ref q571, .ref q574, .ref q577, .ref q580, .ref q583, .ref q586, .int 0, .int (-1), .int 0, .int 0, .long 0, .ref q599, .ref q600, .ref q601, .ref q602]))]) u)) (va_A [(h0, .inr (12, [.int 0, .int 1, .int 1, .ref q562, .ref q571, .ref q574, .ref q577, .ref q580, .ref q583, .ref q586, .int 0, .int (-1), .int 0, .int 0, .long 0, .ref q599, .ref q600, .ref q601, .ref q602])), (q586, .inr (18, [.int 0, .int 0, .int 0, .int 1, .int 1, .ref z589, .ref z590, .ref z591, .int 0, .ref z592, .int (-1), .int 0, .ref z593, .ref z594, .int (-1), .int 0, .ref z595, .int (-1), .int 15, .ref z596, .ref z597, .ref z598])), (z589, .inl (cI, 65536, .inl (fun _ => 0))), (z590, .inl (cI, 16384, .inl (fun _ => 0))), (z591, .inl (cI, 16384, .inl (fun _ => 0)))] sz)) 0 0 (va_A [(h0, .inr (12, [.int 0, .int 1, .int 1, .ref q562, .ref q571, .ref q574, .ref q577, .ref q580, .ref q583, .ref q586, .int 0, .int (-1), .int 0, .int 0, .long 0, .ref q599, .ref q600, .ref q601, .ref q602])), (q586, .inr (18, [.int 0, .int 0, .int 0, .int 1, .int 1, .ref z589, .ref z590, .ref z591, .int 0, .ref z592, .int (-1), .int 0, .ref z593, .ref z594, .int (-1), .int 0, .ref z595, .int (-1), .int 15, .ref z596, .ref z597, .ref z598])), (z589, .inl (cI, 65536, .inl (fun _ => 0))), (z590, .inl (cI, 16384, .inl (fun _ => 0))), (z591, .inl (cI, 16384, .inl (fun _ => 0)))] sz) := by
  refine Met.ofW (cc := prog_14_method_29_code) (maxL := 5) (ret := (some .int)) (by decide) rfl ?_
  intro p e s m args below meth c s₁ B0 hml hv
  obtain ⟨rfl, hv⟩ := hv
  have hx := B0.exec
  have hb := B0.bytes
  have hr := B0.returns
  have hts := atoms_spec (ws := (Cond.code y_Mod_at prog_14_method_29_code 5 (some .int)) :: tw) B0.pre
  have htw : ∀ w ∈ tw, w.before _ s = true := fun w hw => hts w (List.mem_cons_of_mem _ hw)
  have hown : s.vm.findClass "DrawingMachineModel" = some m.cls := findClass_of_methodNamed B0.named
  have hlocks := B0.notSynchronized
  obtain ⟨hC, hP, hD, hsz⟩ := wC_init hv
  subst hsz
  generalize hAe : va_A [(h0, .inr (12, [.int 0, .int 1, .int 1, .ref q562, .ref q571, .ref q574, .ref q577, .ref q580, .ref q583, .ref q586, .int 0, .int (-1), .int 0, .int 0, .long 0, .ref q599, .ref q600, .ref q601, .ref q602])), (q586, .inr (18, [.int 0, .int 0, .int 0, .int 1, .int 1, .ref z589, .ref z590, .ref z591, .int 0, .ref z592, .int (-1), .int 0, .ref z593, .ref z594, .int (-1), .int 0, .ref z595, .int (-1), .int 15, .ref z596, .ref z597, .ref z598])), (z589, .inl (cI, 65536, .inl (fun _ => 0))), (z590, .inl (cI, 16384, .inl (fun _ => 0))), (z591, .inl (cI, 16384, .inl (fun _ => 0)))] s.heap.size = A at hC hD ⊢
  have hS : va_S A s.heap s.heap [] := va_S.rf
  have hl := lv_entry ([.ref h0, .int 0, .int 0, .int 0]) (n := 5) (Nat.le_of_ble_eq_true rfl)
  rw [lg_entry_eq]
  generalize (lg_sl ([.ref h0, .int 0, .int 0, .int 0]) ++ List.replicate (5 - (lg_sl ([.ref h0, .int 0, .int 0, .int 0])).length) Slot.unset).toArray = ls at hl ⊢
  have hl : lv_has ls 5 [(0, .ref h0), (1, .int 0), (2, .int 0), (3, .int 0)] := hl
  refine lv_iload_n hx hb d_Mod_at_0 rfl (lv_at hl 3 rfl) ?_
  refine lv_i2l (v := 0) hx hb d_Mod_at_1 (by decide) ?_
  refine lv_lconst (v := 0) hx hb d_Mod_at_2 (by decide) ?_
  refine lv_ldc2 (v := 2) hx hb hown (htw _ k690) d_Mod_at_3 ?_
  refine wc_i (wr := [(h0, .inr (12, [.int 0, .int 1, .int 1, .ref q562, .ref q571, .ref q574, .ref q577, .ref q580, .ref q583, .ref q586, .int 0, .int (-1), .int 0, .int 0, .long 0, .ref q599, .ref q600, .ref q601, .ref q602])), (q586, .inr (18, [.int 0, .int 0, .int 0, .int 1, .int 1, .ref z589, .ref z590, .ref z591, .int 0, .ref z592, .int (-1), .int 0, .ref z593, .ref z594, .int (-1), .int 0, .ref z595, .int (-1), .int 15, .ref z596, .ref z597, .ref z598])), (z589, .inl (cI, 65536, .inl (fun _ => 0))), (z590, .inl (cI, 16384, .inl (fun _ => 0))), (z591, .inl (cI, 16384, .inl (fun _ => 0)))]) hC hP hD hS [] [0, 1, 2, 3, 4] rfl rfl (by decide) (by decide) (va_runS (As := [.long 0, .long 0, .long 2]) (rest := []) ⟨hx, hb, hml, hown, htw⟩ (c_Mod_in_t l D cI cL B _ 0 0 2 (by decide) (by decide)) (va_cwS 3 htw gS_Mod_90 rfl rfl rfl (by decide +kernel) ⟨Nat.le_of_ble_eq_true rfl, Nat.le_of_ble_eq_true rfl⟩) (wC_pre hC hP hD hS [] (by decide) rfl) rfl rfl hl.1 rfl (lv_room (Nat.le_of_ble_eq_true rfl)) d_Mod_at_6 ⟨Nat.le_of_ble_eq_true rfl, Nat.le_of_ble_eq_true rfl⟩) (fun r1040 u1038 H locs hw1039 hP hD hS => ?_)
  obtain rfl : r1040 = 1 := hw1039
  have hP : va_P D classes [(h0, .inr (12, [.int 0, .int 1, .int 1, .ref q562, .ref q571, .ref q574, .ref q577, .ref q580, .ref q583, .ref q586, .int 0, .int (-1), .int 0, .int 0, .long 0, .ref q599, .ref q600, .ref q601, .ref q602])), (q586, .inr (18, [.int 0, .int 0, .int 0, .int 1, .int 1, .ref z589, .ref z590, .ref z591, .int 0, .ref z592, .int (-1), .int 0, .ref z593, .ref z594, .int (-1), .int 0, .ref z595, .int (-1), .int 15, .ref z596, .ref z597, .ref z598])), (z589, .inl (cI, 65536, .inl (fun _ => 0))), (z590, .inl (cI, 16384, .inl (fun _ => 0))), (z591, .inl (cI, 16384, .inl (fun _ => 0)))] H := hP
  have hD : va_D A [(h0, .inr (12, [.int 0, .int 1, .int 1, .ref q562, .ref q571, .ref q574, .ref q577, .ref q580, .ref q583, .ref q586, .int 0, .int (-1), .int 0, .int 0, .long 0, .ref q599, .ref q600, .ref q601, .ref q602])), (q586, .inr (18, [.int 0, .int 0, .int 0, .int 1, .int 1, .ref z589, .ref z590, .ref z591, .int 0, .ref z592, .int (-1), .int 0, .ref z593, .ref z594, .int (-1), .int 0, .ref z595, .int (-1), .int 15, .ref z596, .ref z597, .ref z598])), (z589, .inl (cI, 65536, .inl (fun _ => 0))), (z590, .inl (cI, 16384, .inl (fun _ => 0))), (z591, .inl (cI, 16384, .inl (fun _ => 0)))] := hD
  refine W.widen (k := 0) (n := 0) (by omega) (by omega) ?_
  refine lv_istore (lv' := [(4, .int 1), (0, .ref h0), (1, .int 0), (2, .int 0), (3, .int 0)]) hx hb d_Mod_at_9 hl (by decide) rfl (fun ls hl => ?_)
  refine lv_aload_n hx hb d_Mod_at_11 rfl (lv_at hl 1 rfl) ?_
  refine lv_iload hx hb d_Mod_at_12 (lv_at hl 0 rfl) ?_
  refine lv_if_ne (tgt := 21) hx hb d_Mod_at_14 (by decide) (fun c_1041 => ?_) (fun c_1041 => absurd c_1041 (by decide))
  refine lv_iconst (v := 0) hx hb d_Mod_at_21 (by decide) ?_
  refine lv_iload hx hb d_Mod_at_22 (lv_at hl 0 rfl) ?_
  refine lv_if_eq (tgt := 63) hx hb d_Mod_at_24 (by decide) (fun c_1042 => absurd c_1042 (by decide)) (fun c_1042 => ?_)
  refine lv_iload_n hx hb d_Mod_at_27 rfl (lv_at hl 2 rfl) ?_
  refine lv_i2l (v := 0) hx hb d_Mod_at_28 (by decide) ?_
  refine lv_lconst (v := 0) hx hb d_Mod_at_29 (by decide) ?_
  refine lv_aload_n hx hb d_Mod_at_30 rfl (lv_at hl 1 rfl) ?_
  refine va_get (D := D) (ci := 12) (v := .int 1) (C := R_Mod) (T := F_Mod) (N := 19) hx hb htw i_Mod hown hC.1 hP 0 rfl rfl 1 (by decide) (htw _ k515) (fun _ h9 => h9) rfl d_Mod_at_31 ?_
  refine lv_iconst (v := 1) hx hb d_Mod_at_34 (by decide) ?_
  refine lv_isub hx hb d_Mod_at_35 ?_
  refine wi_c (v := 0) (by decide) ?_
  refine lv_i2l (v := 0) hx hb d_Mod_at_36 (by decide) ?_
  refine wc_i (wr := [(h0, .inr (12, [.int 0, .int 1, .int 1, .ref q562, .ref q571, .ref q574, .ref q577, .ref q580, .ref q583, .ref q586, .int 0, .int (-1), .int 0, .int 0, .long 0, .ref q599, .ref q600, .ref q601, .ref q602])), (q586, .inr (18, [.int 0, .int 0, .int 0, .int 1, .int 1, .ref z589, .ref z590, .ref z591, .int 0, .ref z592, .int (-1), .int 0, .ref z593, .ref z594, .int (-1), .int 0, .ref z595, .int (-1), .int 15, .ref z596, .ref z597, .ref z598])), (z589, .inl (cI, 65536, .inl (fun _ => 0))), (z590, .inl (cI, 16384, .inl (fun _ => 0))), (z591, .inl (cI, 16384, .inl (fun _ => 0)))]) hC hP hD hS [] [0, 1, 2, 3, 4] rfl rfl (by decide) (by decide) (va_runS (As := [.long 0, .long 0, .long 0]) (rest := [.int 0, .ref h0]) ⟨hx, hb, hml, hown, htw⟩ (c_Mod_in_t l D cI cL B _ 0 0 0 (by decide) (by decide)) (va_cwS 3 htw gS_Mod_90 rfl rfl rfl (by decide +kernel) ⟨Nat.le_of_ble_eq_true rfl, Nat.le_of_ble_eq_true rfl⟩) (wC_pre hC hP hD hS [] (by decide) rfl) rfl rfl hl.1 rfl (lv_room (Nat.le_of_ble_eq_true rfl)) d_Mod_at_37 ⟨Nat.le_of_ble_eq_true rfl, Nat.le_of_ble_eq_true rfl⟩) (fun r1045 u1043 H locs hw1044 hP hD hS => ?_)
  obtain rfl : r1045 = 1 := hw1044
  have hP : va_P D classes [(h0, .inr (12, [.int 0, .int 1, .int 1, .ref q562, .ref q571, .ref q574, .ref q577, .ref q580, .ref q583, .ref q586, .int 0, .int (-1), .int 0, .int 0, .long 0, .ref q599, .ref q600, .ref q601, .ref q602])), (q586, .inr (18, [.int 0, .int 0, .int 0, .int 1, .int 1, .ref z589, .ref z590, .ref z591, .int 0, .ref z592, .int (-1), .int 0, .ref z593, .ref z594, .int (-1), .int 0, .ref z595, .int (-1), .int 15, .ref z596, .ref z597, .ref z598])), (z589, .inl (cI, 65536, .inl (fun _ => 0))), (z590, .inl (cI, 16384, .inl (fun _ => 0))), (z591, .inl (cI, 16384, .inl (fun _ => 0)))] H := hP
  have hD : va_D A [(h0, .inr (12, [.int 0, .int 1, .int 1, .ref q562, .ref q571, .ref q574, .ref q577, .ref q580, .ref q583, .ref q586, .int 0, .int (-1), .int 0, .int 0, .long 0, .ref q599, .ref q600, .ref q601, .ref q602])), (q586, .inr (18, [.int 0, .int 0, .int 0, .int 1, .int 1, .ref z589, .ref z590, .ref z591, .int 0, .ref z592, .int (-1), .int 0, .ref z593, .ref z594, .int (-1), .int 0, .ref z595, .int (-1), .int 15, .ref z596, .ref z597, .ref z598])), (z589, .inl (cI, 65536, .inl (fun _ => 0))), (z590, .inl (cI, 16384, .inl (fun _ => 0))), (z591, .inl (cI, 16384, .inl (fun _ => 0)))] := hD
  refine W.widen (k := 0) (n := 0) (by omega) (by omega) ?_
  refine lv_if_eq (tgt := 59) hx hb d_Mod_at_40 (by decide) (fun c_1046 => absurd c_1046 (by decide)) (fun c_1046 => ?_)
  refine lv_iload_n hx hb d_Mod_at_43 rfl (lv_at hl 3 rfl) ?_
  refine lv_i2l (v := 0) hx hb d_Mod_at_44 (by decide) ?_
  refine lv_lconst (v := 0) hx hb d_Mod_at_45 (by decide) ?_
  refine lv_aload_n hx hb d_Mod_at_46 rfl (lv_at hl 1 rfl) ?_
  refine va_get (D := D) (ci := 12) (v := .int 1) (C := R_Mod) (T := F_Mod) (N := 19) hx hb htw i_Mod hown hC.1 hP 0 rfl rfl 2 (by decide) (htw _ k516) (fun _ h9 => h9) rfl d_Mod_at_47 ?_
  refine lv_iconst (v := 1) hx hb d_Mod_at_50 (by decide) ?_
  refine lv_isub hx hb d_Mod_at_51 ?_
  refine wi_c (v := 0) (by decide) ?_
  refine lv_i2l (v := 0) hx hb d_Mod_at_52 (by decide) ?_
  refine wc_i (wr := [(h0, .inr (12, [.int 0, .int 1, .int 1, .ref q562, .ref q571, .ref q574, .ref q577, .ref q580, .ref q583, .ref q586, .int 0, .int (-1), .int 0, .int 0, .long 0, .ref q599, .ref q600, .ref q601, .ref q602])), (q586, .inr (18, [.int 0, .int 0, .int 0, .int 1, .int 1, .ref z589, .ref z590, .ref z591, .int 0, .ref z592, .int (-1), .int 0, .ref z593, .ref z594, .int (-1), .int 0, .ref z595, .int (-1), .int 15, .ref z596, .ref z597, .ref z598])), (z589, .inl (cI, 65536, .inl (fun _ => 0))), (z590, .inl (cI, 16384, .inl (fun _ => 0))), (z591, .inl (cI, 16384, .inl (fun _ => 0)))]) hC hP hD hS [] [0, 1, 2, 3, 4] rfl rfl (by decide) (by decide) (va_runS (As := [.long 0, .long 0, .long 0]) (rest := [.int 0, .ref h0]) ⟨hx, hb, hml, hown, htw⟩ (c_Mod_in_t l D cI cL B _ 0 0 0 (by decide) (by decide)) (va_cwS 3 htw gS_Mod_90 rfl rfl rfl (by decide +kernel) ⟨Nat.le_of_ble_eq_true rfl, Nat.le_of_ble_eq_true rfl⟩) (wC_pre hC hP hD hS [] (by decide) rfl) rfl rfl hl.1 rfl (lv_room (Nat.le_of_ble_eq_true rfl)) d_Mod_at_53 ⟨Nat.le_of_ble_eq_true rfl, Nat.le_of_ble_eq_true rfl⟩) (fun r1049 u1047 H locs hw1048 hP hD hS => ?_)
  obtain rfl : r1049 = 1 := hw1048
  have hP : va_P D classes [(h0, .inr (12, [.int 0, .int 1, .int 1, .ref q562, .ref q571, .ref q574, .ref q577, .ref q580, .ref q583, .ref q586, .int 0, .int (-1), .int 0, .int 0, .long 0, .ref q599, .ref q600, .ref q601, .ref q602])), (q586, .inr (18, [.int 0, .int 0, .int 0, .int 1, .int 1, .ref z589, .ref z590, .ref z591, .int 0, .ref z592, .int (-1), .int 0, .ref z593, .ref z594, .int (-1), .int 0, .ref z595, .int (-1), .int 15, .ref z596, .ref z597, .ref z598])), (z589, .inl (cI, 65536, .inl (fun _ => 0))), (z590, .inl (cI, 16384, .inl (fun _ => 0))), (z591, .inl (cI, 16384, .inl (fun _ => 0)))] H := hP
  have hD : va_D A [(h0, .inr (12, [.int 0, .int 1, .int 1, .ref q562, .ref q571, .ref q574, .ref q577, .ref q580, .ref q583, .ref q586, .int 0, .int (-1), .int 0, .int 0, .long 0, .ref q599, .ref q600, .ref q601, .ref q602])), (q586, .inr (18, [.int 0, .int 0, .int 0, .int 1, .int 1, .ref z589, .ref z590, .ref z591, .int 0, .ref z592, .int (-1), .int 0, .ref z593, .ref z594, .int (-1), .int 0, .ref z595, .int (-1), .int 15, .ref z596, .ref z597, .ref z598])), (z589, .inl (cI, 65536, .inl (fun _ => 0))), (z590, .inl (cI, 16384, .inl (fun _ => 0))), (z591, .inl (cI, 16384, .inl (fun _ => 0)))] := hD
  refine W.widen (k := 0) (n := 0) (by omega) (by omega) ?_
  refine lv_if_ne (tgt := 63) hx hb d_Mod_at_56 (by decide) (fun c_1050 => ?_) (fun c_1050 => absurd c_1050 (by decide))
  refine lv_iconst (v := 0) hx hb d_Mod_at_63 (by decide) ?_
  refine wc_i (wr := [(q586, .inr (18, [.int 0, .int 0, .int 0, .int 1, .int 1, .ref z589, .ref z590, .ref z591, .int 0, .ref z592, .int (-1), .int 0, .ref z593, .ref z594, .int (-1), .int 0, .ref z595, .int (-1), .int 15, .ref z596, .ref z597, .ref z598])), (z589, .inl (cI, 65536, .inl (fun _ => 0))), (z590, .inl (cI, 16384, .inl (fun _ => 0))), (z591, .inl (cI, 16384, .inl (fun _ => 0)))]) hC hP hD hS [0] [1, 2, 3, 4] rfl rfl (by decide) (by decide) (va_runV (As := [.int 0, .int 0]) (rest := []) ⟨hx, hb, hml, hown, htw⟩ (c_Mref_00 l D cI cL B _ h0 q562 q571 q574 q577 q580 q583 q586 q599 q600 q601 q602) (cwV 2 htw gV_Mod_94 rfl rfl rfl (by decide +kernel) ⟨Nat.le_of_ble_eq_true rfl, Nat.le_of_ble_eq_true rfl⟩) (wC_preV (As := [.int 0, .int 0]) hC hP hD hS [0] (by decide) rfl (q0 := 0) rfl rfl) rfl rfl hl.1 rfl (lv_room (Nat.le_of_ble_eq_true rfl)) d_Mod_at_64 ⟨Nat.le_of_ble_eq_true rfl, Nat.le_of_ble_eq_true rfl⟩) (fun r1053 u1051 H locs hw1052 hP hD hS => ?_)
  obtain rfl : r1053 = 0 := hw1052
  have hP : va_P D classes [(q586, .inr (18, [.int 0, .int 0, .int 0, .int 1, .int 1, .ref z589, .ref z590, .ref z591, .int 0, .ref z592, .int (-1), .int 0, .ref z593, .ref z594, .int (-1), .int 0, .ref z595, .int (-1), .int 15, .ref z596, .ref z597, .ref z598])), (z589, .inl (cI, 65536, .inl (fun _ => 0))), (z590, .inl (cI, 16384, .inl (fun _ => 0))), (z591, .inl (cI, 16384, .inl (fun _ => 0))), (h0, .inr (12, [.int 0, .int 1, .int 1, .ref q562, .ref q571, .ref q574, .ref q577, .ref q580, .ref q583, .ref q586, .int 0, .int (-1), .int 0, .int 0, .long 0, .ref q599, .ref q600, .ref q601, .ref q602]))] H := hP
  have hD : va_D A [(q586, .inr (18, [.int 0, .int 0, .int 0, .int 1, .int 1, .ref z589, .ref z590, .ref z591, .int 0, .ref z592, .int (-1), .int 0, .ref z593, .ref z594, .int (-1), .int 0, .ref z595, .int (-1), .int 15, .ref z596, .ref z597, .ref z598])), (z589, .inl (cI, 65536, .inl (fun _ => 0))), (z590, .inl (cI, 16384, .inl (fun _ => 0))), (z591, .inl (cI, 16384, .inl (fun _ => 0))), (h0, .inr (12, [.int 0, .int 1, .int 1, .ref q562, .ref q571, .ref q574, .ref q577, .ref q580, .ref q583, .ref q586, .int 0, .int (-1), .int 0, .int 0, .long 0, .ref q599, .ref q600, .ref q601, .ref q602]))] := hD
  refine W.widen (k := 0) (n := 0) (by omega) (by omega) ?_
  refine lv_if_eq (tgt := 72) hx hb d_Mod_at_67 (by decide) (fun c_1054 => ?_) (fun c_1054 => absurd c_1054 (by decide))
  refine lv_aload_n hx hb d_Mod_at_72 rfl (lv_at hl 1 rfl) ?_
  refine va_get (D := D) (ci := 12) (v := .ref q586) (C := R_Mod) (T := F_Mod) (N := 19) hx hb htw i_Mod hown hC.1 hP 4 rfl rfl 9 (by decide) (htw _ k547) (fun _ h9 => h9) rfl d_Mod_at_73 ?_
  refine lv_iload_n hx hb d_Mod_at_76 rfl (lv_at hl 3 rfl) ?_
  refine lv_aload_n hx hb d_Mod_at_77 rfl (lv_at hl 1 rfl) ?_
  refine va_get (D := D) (ci := 12) (v := .int 1) (C := R_Mod) (T := F_Mod) (N := 19) hx hb htw i_Mod hown hC.1 hP 4 rfl rfl 1 (by decide) (htw _ k515) (fun _ h9 => h9) rfl d_Mod_at_78 ?_
  refine lv_imul hx hb d_Mod_at_81 ?_
  refine wi_c (v := 0) (by decide) ?_
  refine lv_iload_n hx hb d_Mod_at_82 rfl (lv_at hl 2 rfl) ?_
  refine lv_iadd hx hb d_Mod_at_83 ?_
  refine wi_c (v := 0) (by decide) ?_
  refine lv_iload_n hx hb d_Mod_at_84 rfl (lv_at hl 4 rfl) ?_
  refine wc_i (wr := [(h0, .inr (12, [.int 0, .int 1, .int 1, .ref q562, .ref q571, .ref q574, .ref q577, .ref q580, .ref q583, .ref q586, .int 0, .int (-1), .int 0, .int 0, .long 0, .ref q599, .ref q600, .ref q601, .ref q602]))]) hC hP hD hS [0, 1, 2, 3] [4] rfl rfl (by decide) (by decide) (va_runVN (As := [.int 0, .int 0]) (rest := []) ⟨hx, hb, hml, hown, htw⟩ (c_Pshow_0 l D cI cL B _ q586 z589 z590 z591 z592 z593 z594 z595 z596 z597 z598) ⟨va_cnB 2 htw (tw_good (fun _ h => h) k692) rfl rfl rfl (hC.2.1.1 _ kn13) (htw _ k213) (by decide +kernel) ⟨Nat.le_of_ble_eq_true rfl, Nat.le_of_ble_eq_true rfl⟩, htw _ k691, htw _ k1012⟩ (wC_preV (As := [.int 0, .int 0]) hC hP hD hS [0, 1, 2, 3] (by decide) rfl (q0 := 0) rfl rfl) rfl rfl hl.1 rfl (lv_room (Nat.le_of_ble_eq_true rfl)) d_Mod_at_85 ⟨Nat.le_of_ble_eq_true rfl, Nat.le_of_ble_eq_true rfl⟩) (fun r1057 u1055 H locs hw1056 hP hD hS => ?_)
  obtain rfl : r1057 = 0 := hw1056
  have hP : va_P D classes [(h0, .inr (12, [.int 0, .int 1, .int 1, .ref q562, .ref q571, .ref q574, .ref q577, .ref q580, .ref q583, .ref q586, .int 0, .int (-1), .int 0, .int 0, .long 0, .ref q599, .ref q600, .ref q601, .ref q602])), (q586, .inr (18, [.int 0, .int 0, .int 0, .int 1, .int 1, .ref z589, .ref z590, .ref z591, .int 0, .ref z592, .int (-1), .int 0, .ref z593, .ref z594, .int (-1), .int 0, .ref z595, .int (-1), .int 15, .ref z596, .ref z597, .ref z598])), (z589, .inl (cI, 65536, .inl (fun _ => 0))), (z590, .inl (cI, 16384, .inl (fun _ => 0))), (z591, .inl (cI, 16384, .inl (fun _ => 0)))] H := hP
  have hD : va_D A [(h0, .inr (12, [.int 0, .int 1, .int 1, .ref q562, .ref q571, .ref q574, .ref q577, .ref q580, .ref q583, .ref q586, .int 0, .int (-1), .int 0, .int 0, .long 0, .ref q599, .ref q600, .ref q601, .ref q602])), (q586, .inr (18, [.int 0, .int 0, .int 0, .int 1, .int 1, .ref z589, .ref z590, .ref z591, .int 0, .ref z592, .int (-1), .int 0, .ref z593, .ref z594, .int (-1), .int 0, .ref z595, .int (-1), .int 15, .ref z596, .ref z597, .ref z598])), (z589, .inl (cI, 65536, .inl (fun _ => 0))), (z590, .inl (cI, 16384, .inl (fun _ => 0))), (z591, .inl (cI, 16384, .inl (fun _ => 0)))] := hD
  refine W.widen (k := 0) (n := 0) (by omega) (by omega) ?_
  refine W.widen (k := 0) (n := 0) (Nat.le_of_ble_eq_true rfl) (Nat.le_of_ble_eq_true rfl) ?_
  have hP9 := hP.sub (ws' := [(h0, .inr (12, [.int 0, .int 1, .int 1, .ref q562, .ref q571, .ref q574, .ref q577, .ref q580, .ref q583, .ref q586, .int 0, .int (-1), .int 0, .int 0, .long 0, .ref q599, .ref q600, .ref q601, .ref q602]))]) [0] rfl
  have hD9 := hD.sub (ws' := [(h0, .inr (12, [.int 0, .int 1, .int 1, .ref q562, .ref q571, .ref q574, .ref q577, .ref q580, .ref q583, .ref q586, .int 0, .int (-1), .int 0, .int 0, .long 0, .ref q599, .ref q600, .ref q601, .ref q602]))]) [0] (by decide) rfl
  exact W.iret (v := 0) hx hb hr (fun t ht hW => ⟨⟨0, (), rfl, rfl, by rw [ht]; exact hP9, va_K.moved hW.alike hC.1, hD9⟩, hS.F ht⟩) hS.2.2 d_Mod_at_88

theorem d_Mod_sum_0 : decode prog_14_method_30_code 0 = .ok (.aload_n 0, 1) := by decide +kernel
theorem d_Mod_sum_1 : decode prog_14_method_30_code 1 = .ok (.iload_n 1, 1) := by decide +kernel
theorem d_Mod_sum_2 : decode prog_14_method_30_code 2 = .ok (.i2l, 1) := by decide +kernel
theorem d_Mod_sum_3 : decode prog_14_method_30_code 3 = .ok (.lconst 0, 1) := by decide +kernel
theorem d_Mod_sum_4 : decode prog_14_method_30_code 4 = .ok (.ldc2_w 367, 3) := by decide +kernel
theorem d_Mod_sum_7 : decode prog_14_method_30_code 7 = .ok (.invokestatic 90, 3) := by decide +kernel
theorem d_Mod_sum_10 : decode prog_14_method_30_code 10 = .ok (.ifCond .ne 7, 3) := by decide +kernel
theorem d_Mod_sum_17 : decode prog_14_method_30_code 17 = .ok (.iconst 0, 1) := by decide +kernel
theorem d_Mod_sum_18 : decode prog_14_method_30_code 18 = .ok (.iconst 0, 1) := by decide +kernel
theorem d_Mod_sum_19 : decode prog_14_method_30_code 19 = .ok (.invokevirtual 94, 3) := by decide +kernel
theorem d_Mod_sum_22 : decode prog_14_method_30_code 22 = .ok (.ifCond .eq 5, 3) := by decide +kernel
theorem d_Mod_sum_27 : decode prog_14_method_30_code 27 = .ok (.aload_n 0, 1) := by decide +kernel
theorem d_Mod_sum_28 : decode prog_14_method_30_code 28 = .ok (.getfield 65, 3) := by decide +kernel
theorem d_Mod_sum_31 : decode prog_14_method_30_code 31 = .ok (.iload_n 1, 1) := by decide +kernel
theorem d_Mod_sum_32 : decode prog_14_method_30_code 32 = .ok (.invokevirtual 369, 3) := by decide +kernel
theorem d_Mod_sum_35 : decode prog_14_method_30_code 35 = .ok (.ireturn, 1) := by decide +kernel
theorem gV_Mod_369 : GoodIn tw (wsV "DrawingMachineModel" 369 "DrawingMachineModel$PlaceTestsModel" y_Ptm_sum ((Cond.code y_Ptm_sum prog_17_method_30_code 4 (some .int)) :: tw)) := tw_pre (fun _ h => h) (tw_good (fun _ h => h) k697) (List.forall_mem_cons.mpr ⟨k694, List.forall_mem_cons.mpr ⟨k695, List.forall_mem_cons.mpr ⟨k696, List.forall_mem_cons.mpr ⟨k213, fun _ h => absurd h List.not_mem_nil⟩⟩⟩⟩)
set_option maxHeartbeats 4000000 in
set_option maxRecDepth 100000 in
theorem c_Msum_0 (l : Launch) (D : va_G) (cI cL : ClassId) (B sz : Nat) (h0 : Nat) (q562 : Nat) (q571 : Nat) (q574 : Nat) (q577 : Nat) (q580 : Nat) (q583 : Nat) (q586 : Nat) (z589 : Nat) (z590 : Nat) (z591 : Nat) (z592 : Nat) (z593 : Nat) (z594 : Nat) (z595 : Nat) (z596 : Nat) (z597 : Nat) (z598 : Nat) (q599 : Nat) (q600 : Nat) (q601 : Nat) (q602 : Nat) : Met l y_Mod_sum ((Cond.code y_Mod_sum prog_14_method_30_code 2 (some .int)) :: tw) ({ frames := 40, cells := 0, slots := 0, locals := 4000 }) (va_Pc [.ref h0, .int 0] (wP D cI cL B sz [(h0, .inr (12, [.int 0, .int 1, .int 1, .ref q562, .ref q571, .ref q574, .ref q577, .ref q580, .ref q583, .ref q586, .int 0, .int (-1), .int 0, .int 0, .long 0, .ref q599, .ref q600, .ref q601, .ref q602])), (q586, .inr (18, [.int 0, .int 0, .int 0, .int 1, .int 1, .ref z589, .ref z590, .ref z591, .int 0, .ref z592, .int (-1), .int 0, .ref z593, .ref z594, .int (-1), .int 0, .ref z595, .int (-1), .int 15, .ref z596, .ref z597, .ref z598])), (z589, .inl (cI, 65536, .inl (fun _ => 0))), (z590, .inl (cI, 16384, .inl (fun _ => 0))), (z591, .inl (cI, 16384, .inl (fun _ => 0)))])) (va_Qi (S := Unit) (fun r u => r = 0) (fun u => wB D cI cL (va_A [(h0, .inr (12, [.int 0, .int 1, .int 1, .ref q562, .ref q571, .ref q574, .ref q577, .ref q580, .ref q583, .ref q586, .int 0, .int (-1), .int 0, .int 0, .long 0, .ref q599, .ref q600, .ref q601, .ref q602])), (q586, .inr (18, [.int 0, .int 0, .int 0, .int 1, .int 1, .ref z589, .ref z590, .ref z591, .int 0, .ref z592, .int (-1), .int 0, .ref z593, .ref z594, .int (-1), .int 0, .ref z595, .int (-1), .int 15, .ref z596, .ref z597, .ref z598])), (z589, .inl (cI, 65536, .inl (fun _ => 0))), (z590, .inl (cI, 16384, .inl (fun _ => 0))), (z591, .inl (cI, 16384, .inl (fun _ => 0)))] sz) ((fun _ : Unit => [(h0, .inr (12, [.int 0, .int 1, .int 1, .ref q562, .ref q571, .ref q574, .ref q577, .ref q580, .ref q583, .ref q586, .int 0, .int (-1), .int 0, .int 0, .long 0, .ref q599, .ref q600, .ref q601, .ref q602]))]) u)) (va_A [(h0, .inr (12, [.int 0, .int 1, .int 1, .ref q562, .ref q571, .ref q574, .ref q577, .ref q580, .ref q583, .ref q586, .int 0, .int (-1), .int 0, .int 0, .long 0, .ref q599, .ref q600, .ref q601, .ref q602])), (q586, .inr (18, [.int 0, .int 0, .int 0, .int 1, .int 1, .ref z589, .ref z590, .ref z591, .int 0, .ref z592, .int (-1), .int 0, .ref z593, .ref z594, .int (-1), .int 0, .ref z595, .int (-1), .int 15, .ref z596, .ref z597, .ref z598])), (z589, .inl (cI, 65536, .inl (fun _ => 0))), (z590, .inl (cI, 16384, .inl (fun _ => 0))), (z591, .inl (cI, 16384, .inl (fun _ => 0)))] sz)) 0 0 (va_A [(h0, .inr (12, [.int 0, .int 1, .int 1, .ref q562, .ref q571, .ref q574, .ref q577, .ref q580, .ref q583, .ref q586, .int 0, .int (-1), .int 0, .int 0, .long 0, .ref q599, .ref q600, .ref q601, .ref q602])), (q586, .inr (18, [.int 0, .int 0, .int 0, .int 1, .int 1, .ref z589, .ref z590, .ref z591, .int 0, .ref z592, .int (-1), .int 0, .ref z593, .ref z594, .int (-1), .int 0, .ref z595, .int (-1), .int 15, .ref z596, .ref z597, .ref z598])), (z589, .inl (cI, 65536, .inl (fun _ => 0))), (z590, .inl (cI, 16384, .inl (fun _ => 0))), (z591, .inl (cI, 16384, .inl (fun _ => 0)))] sz) := by
  refine Met.ofW (cc := prog_14_method_30_code) (maxL := 2) (ret := (some .int)) (by decide) rfl ?_
  intro p e s m args below meth c s₁ B0 hml hv
  obtain ⟨rfl, hv⟩ := hv
  have hx := B0.exec
  have hb := B0.bytes
  have hr := B0.returns
  have hts := atoms_spec (ws := (Cond.code y_Mod_sum prog_14_method_30_code 2 (some .int)) :: tw) B0.pre
  have htw : ∀ w ∈ tw, w.before _ s = true := fun w hw => hts w (List.mem_cons_of_mem _ hw)
  have hown : s.vm.findClass "DrawingMachineModel" = some m.cls := findClass_of_methodNamed B0.named
  have hlocks := B0.notSynchronized
  obtain ⟨hC, hP, hD, hsz⟩ := wC_init hv
  subst hsz
  generalize hAe : va_A [(h0, .inr (12, [.int 0, .int 1, .int 1, .ref q562, .ref q571, .ref q574, .ref q577, .ref q580, .ref q583, .ref q586, .int 0, .int (-1), .int 0, .int 0, .long 0, .ref q599, .ref q600, .ref q601, .ref q602])), (q586, .inr (18, [.int 0, .int 0, .int 0, .int 1, .int 1, .ref z589, .ref z590, .ref z591, .int 0, .ref z592, .int (-1), .int 0, .ref z593, .ref z594, .int (-1), .int 0, .ref z595, .int (-1), .int 15, .ref z596, .ref z597, .ref z598])), (z589, .inl (cI, 65536, .inl (fun _ => 0))), (z590, .inl (cI, 16384, .inl (fun _ => 0))), (z591, .inl (cI, 16384, .inl (fun _ => 0)))] s.heap.size = A at hC hD ⊢
  have hS : va_S A s.heap s.heap [] := va_S.rf
  have hl := lv_entry ([.ref h0, .int 0]) (n := 2) (Nat.le_of_ble_eq_true rfl)
  rw [lg_entry_eq]
  generalize (lg_sl ([.ref h0, .int 0]) ++ List.replicate (2 - (lg_sl ([.ref h0, .int 0])).length) Slot.unset).toArray = ls at hl ⊢
  have hl : lv_has ls 2 [(0, .ref h0), (1, .int 0)] := hl
  refine lv_aload_n hx hb d_Mod_sum_0 rfl (lv_at hl 0 rfl) ?_
  refine lv_iload_n hx hb d_Mod_sum_1 rfl (lv_at hl 1 rfl) ?_
  refine lv_i2l (v := 0) hx hb d_Mod_sum_2 (by decide) ?_
  refine lv_lconst (v := 0) hx hb d_Mod_sum_3 (by decide) ?_
  refine lv_ldc2 (v := 2) hx hb hown (htw _ k690) d_Mod_sum_4 ?_
  refine wc_i (wr := [(h0, .inr (12, [.int 0, .int 1, .int 1, .ref q562, .ref q571, .ref q574, .ref q577, .ref q580, .ref q583, .ref q586, .int 0, .int (-1), .int 0, .int 0, .long 0, .ref q599, .ref q600, .ref q601, .ref q602])), (q586, .inr (18, [.int 0, .int 0, .int 0, .int 1, .int 1, .ref z589, .ref z590, .ref z591, .int 0, .ref z592, .int (-1), .int 0, .ref z593, .ref z594, .int (-1), .int 0, .ref z595, .int (-1), .int 15, .ref z596, .ref z597, .ref z598])), (z589, .inl (cI, 65536, .inl (fun _ => 0))), (z590, .inl (cI, 16384, .inl (fun _ => 0))), (z591, .inl (cI, 16384, .inl (fun _ => 0)))]) hC hP hD hS [] [0, 1, 2, 3, 4] rfl rfl (by decide) (by decide) (va_runS (As := [.long 0, .long 0, .long 2]) (rest := [.ref h0]) ⟨hx, hb, hml, hown, htw⟩ (c_Mod_in_t l D cI cL B _ 0 0 2 (by decide) (by decide)) (va_cwS 3 htw gS_Mod_90 rfl rfl rfl (by decide +kernel) ⟨Nat.le_of_ble_eq_true rfl, Nat.le_of_ble_eq_true rfl⟩) (wC_pre hC hP hD hS [] (by decide) rfl) rfl rfl hl.1 rfl (lv_room (Nat.le_of_ble_eq_true rfl)) d_Mod_sum_7 ⟨Nat.le_of_ble_eq_true rfl, Nat.le_of_ble_eq_true rfl⟩) (fun r1060 u1058 H locs hw1059 hP hD hS => ?_)
  obtain rfl : r1060 = 1 := hw1059
  have hP : va_P D classes [(h0, .inr (12, [.int 0, .int 1, .int 1, .ref q562, .ref q571, .ref q574, .ref q577, .ref q580, .ref q583, .ref q586, .int 0, .int (-1), .int 0, .int 0, .long 0, .ref q599, .ref q600, .ref q601, .ref q602])), (q586, .inr (18, [.int 0, .int 0, .int 0, .int 1, .int 1, .ref z589, .ref z590, .ref z591, .int 0, .ref z592, .int (-1), .int 0, .ref z593, .ref z594, .int (-1), .int 0, .ref z595, .int (-1), .int 15, .ref z596, .ref z597, .ref z598])), (z589, .inl (cI, 65536, .inl (fun _ => 0))), (z590, .inl (cI, 16384, .inl (fun _ => 0))), (z591, .inl (cI, 16384, .inl (fun _ => 0)))] H := hP
  have hD : va_D A [(h0, .inr (12, [.int 0, .int 1, .int 1, .ref q562, .ref q571, .ref q574, .ref q577, .ref q580, .ref q583, .ref q586, .int 0, .int (-1), .int 0, .int 0, .long 0, .ref q599, .ref q600, .ref q601, .ref q602])), (q586, .inr (18, [.int 0, .int 0, .int 0, .int 1, .int 1, .ref z589, .ref z590, .ref z591, .int 0, .ref z592, .int (-1), .int 0, .ref z593, .ref z594, .int (-1), .int 0, .ref z595, .int (-1), .int 15, .ref z596, .ref z597, .ref z598])), (z589, .inl (cI, 65536, .inl (fun _ => 0))), (z590, .inl (cI, 16384, .inl (fun _ => 0))), (z591, .inl (cI, 16384, .inl (fun _ => 0)))] := hD
  refine W.widen (k := 0) (n := 0) (by omega) (by omega) ?_
  refine lv_if_ne (tgt := 17) hx hb d_Mod_sum_10 (by decide) (fun c_1061 => ?_) (fun c_1061 => absurd c_1061 (by decide))
  refine lv_iconst (v := 0) hx hb d_Mod_sum_17 (by decide) ?_
  refine lv_iconst (v := 0) hx hb d_Mod_sum_18 (by decide) ?_
  refine wc_i (wr := [(q586, .inr (18, [.int 0, .int 0, .int 0, .int 1, .int 1, .ref z589, .ref z590, .ref z591, .int 0, .ref z592, .int (-1), .int 0, .ref z593, .ref z594, .int (-1), .int 0, .ref z595, .int (-1), .int 15, .ref z596, .ref z597, .ref z598])), (z589, .inl (cI, 65536, .inl (fun _ => 0))), (z590, .inl (cI, 16384, .inl (fun _ => 0))), (z591, .inl (cI, 16384, .inl (fun _ => 0)))]) hC hP hD hS [0] [1, 2, 3, 4] rfl rfl (by decide) (by decide) (va_runV (As := [.int 0, .int 0]) (rest := []) ⟨hx, hb, hml, hown, htw⟩ (c_Mref_00 l D cI cL B _ h0 q562 q571 q574 q577 q580 q583 q586 q599 q600 q601 q602) (cwV 2 htw gV_Mod_94 rfl rfl rfl (by decide +kernel) ⟨Nat.le_of_ble_eq_true rfl, Nat.le_of_ble_eq_true rfl⟩) (wC_preV (As := [.int 0, .int 0]) hC hP hD hS [0] (by decide) rfl (q0 := 0) rfl rfl) rfl rfl hl.1 rfl (lv_room (Nat.le_of_ble_eq_true rfl)) d_Mod_sum_19 ⟨Nat.le_of_ble_eq_true rfl, Nat.le_of_ble_eq_true rfl⟩) (fun r1064 u1062 H locs hw1063 hP hD hS => ?_)
  obtain rfl : r1064 = 0 := hw1063
  have hP : va_P D classes [(q586, .inr (18, [.int 0, .int 0, .int 0, .int 1, .int 1, .ref z589, .ref z590, .ref z591, .int 0, .ref z592, .int (-1), .int 0, .ref z593, .ref z594, .int (-1), .int 0, .ref z595, .int (-1), .int 15, .ref z596, .ref z597, .ref z598])), (z589, .inl (cI, 65536, .inl (fun _ => 0))), (z590, .inl (cI, 16384, .inl (fun _ => 0))), (z591, .inl (cI, 16384, .inl (fun _ => 0))), (h0, .inr (12, [.int 0, .int 1, .int 1, .ref q562, .ref q571, .ref q574, .ref q577, .ref q580, .ref q583, .ref q586, .int 0, .int (-1), .int 0, .int 0, .long 0, .ref q599, .ref q600, .ref q601, .ref q602]))] H := hP
  have hD : va_D A [(q586, .inr (18, [.int 0, .int 0, .int 0, .int 1, .int 1, .ref z589, .ref z590, .ref z591, .int 0, .ref z592, .int (-1), .int 0, .ref z593, .ref z594, .int (-1), .int 0, .ref z595, .int (-1), .int 15, .ref z596, .ref z597, .ref z598])), (z589, .inl (cI, 65536, .inl (fun _ => 0))), (z590, .inl (cI, 16384, .inl (fun _ => 0))), (z591, .inl (cI, 16384, .inl (fun _ => 0))), (h0, .inr (12, [.int 0, .int 1, .int 1, .ref q562, .ref q571, .ref q574, .ref q577, .ref q580, .ref q583, .ref q586, .int 0, .int (-1), .int 0, .int 0, .long 0, .ref q599, .ref q600, .ref q601, .ref q602]))] := hD
  refine W.widen (k := 0) (n := 0) (by omega) (by omega) ?_
  refine lv_if_eq (tgt := 27) hx hb d_Mod_sum_22 (by decide) (fun c_1065 => ?_) (fun c_1065 => absurd c_1065 (by decide))
  refine lv_aload_n hx hb d_Mod_sum_27 rfl (lv_at hl 0 rfl) ?_
  refine va_get (D := D) (ci := 12) (v := .ref q586) (C := R_Mod) (T := F_Mod) (N := 19) hx hb htw i_Mod hown hC.1 hP 4 rfl rfl 9 (by decide) (htw _ k547) (fun _ h9 => h9) rfl d_Mod_sum_28 ?_
  refine lv_iload_n hx hb d_Mod_sum_31 rfl (lv_at hl 1 rfl) ?_
  refine wc_i (wr := [(h0, .inr (12, [.int 0, .int 1, .int 1, .ref q562, .ref q571, .ref q574, .ref q577, .ref q580, .ref q583, .ref q586, .int 0, .int (-1), .int 0, .int 0, .long 0, .ref q599, .ref q600, .ref q601, .ref q602]))]) hC hP hD hS [0, 1, 2, 3] [4] rfl rfl (by decide) (by decide) (va_runV (As := [.int 0]) (rest := []) ⟨hx, hb, hml, hown, htw⟩ (c_Psum_0 l D cI cL B _ q586 z589 z590 z591 z592 z593 z594 z595 z596 z597 z598) (cwV 1 htw gV_Mod_369 rfl rfl rfl (by decide +kernel) ⟨Nat.le_of_ble_eq_true rfl, Nat.le_of_ble_eq_true rfl⟩) (wC_preV (As := [.int 0]) hC hP hD hS [0, 1, 2, 3] (by decide) rfl (q0 := 0) rfl rfl) rfl rfl hl.1 rfl (lv_room (Nat.le_of_ble_eq_true rfl)) d_Mod_sum_32 ⟨Nat.le_of_ble_eq_true rfl, Nat.le_of_ble_eq_true rfl⟩) (fun r1068 u1066 H locs hw1067 hP hD hS => ?_)
  obtain rfl : r1068 = 0 := hw1067
  have hP : va_P D classes [(h0, .inr (12, [.int 0, .int 1, .int 1, .ref q562, .ref q571, .ref q574, .ref q577, .ref q580, .ref q583, .ref q586, .int 0, .int (-1), .int 0, .int 0, .long 0, .ref q599, .ref q600, .ref q601, .ref q602]))] H := hP
  have hD : va_D A [(h0, .inr (12, [.int 0, .int 1, .int 1, .ref q562, .ref q571, .ref q574, .ref q577, .ref q580, .ref q583, .ref q586, .int 0, .int (-1), .int 0, .int 0, .long 0, .ref q599, .ref q600, .ref q601, .ref q602]))] := hD
  refine W.widen (k := 0) (n := 0) (by omega) (by omega) ?_
  refine W.widen (k := 0) (n := 0) (Nat.le_of_ble_eq_true rfl) (Nat.le_of_ble_eq_true rfl) ?_
  have hP9 := hP.sub (ws' := [(h0, .inr (12, [.int 0, .int 1, .int 1, .ref q562, .ref q571, .ref q574, .ref q577, .ref q580, .ref q583, .ref q586, .int 0, .int (-1), .int 0, .int 0, .long 0, .ref q599, .ref q600, .ref q601, .ref q602]))]) [0] rfl
  have hD9 := hD.sub (ws' := [(h0, .inr (12, [.int 0, .int 1, .int 1, .ref q562, .ref q571, .ref q574, .ref q577, .ref q580, .ref q583, .ref q586, .int 0, .int (-1), .int 0, .int 0, .long 0, .ref q599, .ref q600, .ref q601, .ref q602]))]) [0] (by decide) rfl
  exact W.iret (v := 0) hx hb hr (fun t ht hW => ⟨⟨0, (), rfl, rfl, by rw [ht]; exact hP9, va_K.moved hW.alike hC.1, hD9⟩, hS.F ht⟩) hS.2.2 d_Mod_sum_35

theorem d_Ptm_show_4 : decode prog_17_method_27_code 4 = .ok (.iload_n 2, 1) := by decide +kernel
theorem d_Ptm_show_5 : decode prog_17_method_27_code 5 = .ok (.iconst 1, 1) := by decide +kernel
theorem d_Ptm_show_6 : decode prog_17_method_27_code 6 = .ok (.if_icmp .ne 12, 3) := by decide +kernel
theorem d_Ptm_show_9 : decode prog_17_method_27_code 9 = .ok (.aload_n 0, 1) := by decide +kernel
theorem d_Ptm_show_10 : decode prog_17_method_27_code 10 = .ok (.getfield 21, 3) := by decide +kernel
theorem d_Ptm_show_13 : decode prog_17_method_27_code 13 = .ok (.iload_n 1, 1) := by decide +kernel
theorem d_Ptm_show_14 : decode prog_17_method_27_code 14 = .ok (.iaload, 1) := by decide +kernel
theorem d_Ptm_show_15 : decode prog_17_method_27_code 15 = .ok (.goto 9, 3) := by decide +kernel
theorem d_Ptm_show_24 : decode prog_17_method_27_code 24 = .ok (.ireturn, 1) := by decide +kernel
set_option maxHeartbeats 4000000 in
set_option maxRecDepth 100000 in
theorem c_Pshow_1 (l : Launch) (D : va_G) (cI cL : ClassId) (B sz : Nat) (q586 : Nat) (z589 : Nat) (z590 : Nat) (z591 : Nat) (z592 : Nat) (z593 : Nat) (z594 : Nat) (z595 : Nat) (z596 : Nat) (z597 : Nat) (z598 : Nat) : Met l y_Ptm_show ((Cond.code y_Ptm_show prog_17_method_27_code 5 (some .int)) :: tw) ({ frames := 20, cells := 0, slots := 0, locals := 2000 }) (va_Pc [.ref q586, .int 0, .int 1] (wP D cI cL B sz [(q586, .inr (18, [.int 0, .int 0, .int 0, .int 1, .int 1, .ref z589, .ref z590, .ref z591, .int 0, .ref z592, .int (-1), .int 0, .ref z593, .ref z594, .int (-1), .int 0, .ref z595, .int (-1), .int 15, .ref z596, .ref z597, .ref z598])), (z589, .inl (cI, 65536, .inl (fun _ => 0))), (z590, .inl (cI, 16384, .inl (fun _ => 0))), (z591, .inl (cI, 16384, .inl (fun _ => 0)))])) (va_Qi (S := Unit) (fun r u => r = 0) (fun u => wB D cI cL (va_A [(q586, .inr (18, [.int 0, .int 0, .int 0, .int 1, .int 1, .ref z589, .ref z590, .ref z591, .int 0, .ref z592, .int (-1), .int 0, .ref z593, .ref z594, .int (-1), .int 0, .ref z595, .int (-1), .int 15, .ref z596, .ref z597, .ref z598])), (z589, .inl (cI, 65536, .inl (fun _ => 0))), (z590, .inl (cI, 16384, .inl (fun _ => 0))), (z591, .inl (cI, 16384, .inl (fun _ => 0)))] sz) ((fun _ : Unit => [(q586, .inr (18, [.int 0, .int 0, .int 0, .int 1, .int 1, .ref z589, .ref z590, .ref z591, .int 0, .ref z592, .int (-1), .int 0, .ref z593, .ref z594, .int (-1), .int 0, .ref z595, .int (-1), .int 15, .ref z596, .ref z597, .ref z598])), (z589, .inl (cI, 65536, .inl (fun _ => 0))), (z590, .inl (cI, 16384, .inl (fun _ => 0))), (z591, .inl (cI, 16384, .inl (fun _ => 0)))]) u)) (va_A [(q586, .inr (18, [.int 0, .int 0, .int 0, .int 1, .int 1, .ref z589, .ref z590, .ref z591, .int 0, .ref z592, .int (-1), .int 0, .ref z593, .ref z594, .int (-1), .int 0, .ref z595, .int (-1), .int 15, .ref z596, .ref z597, .ref z598])), (z589, .inl (cI, 65536, .inl (fun _ => 0))), (z590, .inl (cI, 16384, .inl (fun _ => 0))), (z591, .inl (cI, 16384, .inl (fun _ => 0)))] sz)) 0 0 (va_A [(q586, .inr (18, [.int 0, .int 0, .int 0, .int 1, .int 1, .ref z589, .ref z590, .ref z591, .int 0, .ref z592, .int (-1), .int 0, .ref z593, .ref z594, .int (-1), .int 0, .ref z595, .int (-1), .int 15, .ref z596, .ref z597, .ref z598])), (z589, .inl (cI, 65536, .inl (fun _ => 0))), (z590, .inl (cI, 16384, .inl (fun _ => 0))), (z591, .inl (cI, 16384, .inl (fun _ => 0)))] sz) := by
  refine Met.ofW (cc := prog_17_method_27_code) (maxL := 5) (ret := (some .int)) (by decide) rfl ?_
  intro p e s m args below meth c s₁ B0 hml hv
  obtain ⟨rfl, hv⟩ := hv
  have hx := B0.exec
  have hb := B0.bytes
  have hr := B0.returns
  have hts := atoms_spec (ws := (Cond.code y_Ptm_show prog_17_method_27_code 5 (some .int)) :: tw) B0.pre
  have htw : ∀ w ∈ tw, w.before _ s = true := fun w hw => hts w (List.mem_cons_of_mem _ hw)
  have hown : s.vm.findClass "DrawingMachineModel$PlaceTestsModel" = some m.cls := findClass_of_methodNamed B0.named
  have hlocks := B0.notSynchronized
  obtain ⟨hC, hP, hD, hsz⟩ := wC_init hv
  subst hsz
  generalize hAe : va_A [(q586, .inr (18, [.int 0, .int 0, .int 0, .int 1, .int 1, .ref z589, .ref z590, .ref z591, .int 0, .ref z592, .int (-1), .int 0, .ref z593, .ref z594, .int (-1), .int 0, .ref z595, .int (-1), .int 15, .ref z596, .ref z597, .ref z598])), (z589, .inl (cI, 65536, .inl (fun _ => 0))), (z590, .inl (cI, 16384, .inl (fun _ => 0))), (z591, .inl (cI, 16384, .inl (fun _ => 0)))] s.heap.size = A at hC hD ⊢
  have hS : va_S A s.heap s.heap [] := va_S.rf
  have hl := lv_entry ([.ref q586, .int 0, .int 1]) (n := 5) (Nat.le_of_ble_eq_true rfl)
  rw [lg_entry_eq]
  generalize (lg_sl ([.ref q586, .int 0, .int 1]) ++ List.replicate (5 - (lg_sl ([.ref q586, .int 0, .int 1])).length) Slot.unset).toArray = ls at hl ⊢
  have hl : lv_has ls 5 [(0, .ref q586), (1, .int 0), (2, .int 1)] := hl
  refine lv_iload_n hx hb d_Ptm_show_0 rfl (lv_at hl 2 rfl) ?_
  refine lv_if_le (tgt := 25) hx hb d_Ptm_show_1 (by decide) (fun c_1069 => absurd c_1069 (by decide)) (fun c_1069 => ?_)
  refine lv_iload_n hx hb d_Ptm_show_4 rfl (lv_at hl 2 rfl) ?_
  refine lv_iconst (v := 1) hx hb d_Ptm_show_5 (by decide) ?_
  refine lv_icmp_ne (tgt := 18) hx hb d_Ptm_show_6 (by decide) (fun c_1070 => absurd c_1070 (by decide)) (fun c_1070 => ?_)
  refine lv_aload_n hx hb d_Ptm_show_9 rfl (lv_at hl 0 rfl) ?_
  refine va_get (D := D) (ci := 18) (v := .ref z590) (C := R_Ptm) (T := F_Ptm) (N := 22) hx hb htw i_Ptm hown hC.1 hP 0 rfl rfl 6 (by decide) (htw _ k612) (fun _ h9 => h9) rfl d_Ptm_show_10 ?_
  refine lv_iload_n hx hb d_Ptm_show_13 rfl (lv_at hl 1 rfl) ?_
  refine va_iald hx hb hC.1 hP 2 0 rfl rfl (by unfold vp_in; decide) d_Ptm_show_14 ?_
  refine wi_c (v := 0) rfl ?_
  refine lv_goto (tgt := 24) hx hb d_Ptm_show_15 (by decide) ?_
  refine W.widen (k := 0) (n := 0) (Nat.le_of_ble_eq_true rfl) (Nat.le_of_ble_eq_true rfl) ?_
  have hP9 := hP.sub (ws' := [(q586, .inr (18, [.int 0, .int 0, .int 0, .int 1, .int 1, .ref z589, .ref z590, .ref z591, .int 0, .ref z592, .int (-1), .int 0, .ref z593, .ref z594, .int (-1), .int 0, .ref z595, .int (-1), .int 15, .ref z596, .ref z597, .ref z598])), (z589, .inl (cI, 65536, .inl (fun _ => 0))), (z590, .inl (cI, 16384, .inl (fun _ => 0))), (z591, .inl (cI, 16384, .inl (fun _ => 0)))]) [0, 1, 2, 3] rfl
  have hD9 := hD.sub (ws' := [(q586, .inr (18, [.int 0, .int 0, .int 0, .int 1, .int 1, .ref z589, .ref z590, .ref z591, .int 0, .ref z592, .int (-1), .int 0, .ref z593, .ref z594, .int (-1), .int 0, .ref z595, .int (-1), .int 15, .ref z596, .ref z597, .ref z598])), (z589, .inl (cI, 65536, .inl (fun _ => 0))), (z590, .inl (cI, 16384, .inl (fun _ => 0))), (z591, .inl (cI, 16384, .inl (fun _ => 0)))]) [0, 1, 2, 3] (by decide) rfl
  exact W.iret (v := 0) hx hb hr (fun t ht hW => ⟨⟨0, (), rfl, rfl, by rw [ht]; exact hP9, va_K.moved hW.alike hC.1, hD9⟩, hS.F ht⟩) hS.2.2 d_Ptm_show_24

set_option maxHeartbeats 4000000 in
set_option maxRecDepth 100000 in
theorem c_Psum_1 (l : Launch) (D : va_G) (cI cL : ClassId) (B sz : Nat) (q586 : Nat) (z589 : Nat) (z590 : Nat) (z591 : Nat) (z592 : Nat) (z593 : Nat) (z594 : Nat) (z595 : Nat) (z596 : Nat) (z597 : Nat) (z598 : Nat) : Met l y_Ptm_sum ((Cond.code y_Ptm_sum prog_17_method_30_code 4 (some .int)) :: tw) ({ frames := 30, cells := 0, slots := 0, locals := 3000 }) (va_Pc [.ref q586, .int 1] (wP D cI cL B sz [(q586, .inr (18, [.int 0, .int 0, .int 0, .int 1, .int 1, .ref z589, .ref z590, .ref z591, .int 0, .ref z592, .int (-1), .int 0, .ref z593, .ref z594, .int (-1), .int 0, .ref z595, .int (-1), .int 15, .ref z596, .ref z597, .ref z598])), (z589, .inl (cI, 65536, .inl (fun _ => 0))), (z590, .inl (cI, 16384, .inl (fun _ => 0))), (z591, .inl (cI, 16384, .inl (fun _ => 0)))])) (va_Qi (S := Unit) (fun r u => r = 0) (fun u => wB D cI cL (va_A [(q586, .inr (18, [.int 0, .int 0, .int 0, .int 1, .int 1, .ref z589, .ref z590, .ref z591, .int 0, .ref z592, .int (-1), .int 0, .ref z593, .ref z594, .int (-1), .int 0, .ref z595, .int (-1), .int 15, .ref z596, .ref z597, .ref z598])), (z589, .inl (cI, 65536, .inl (fun _ => 0))), (z590, .inl (cI, 16384, .inl (fun _ => 0))), (z591, .inl (cI, 16384, .inl (fun _ => 0)))] sz) ((fun _ : Unit => []) u)) (va_A [(q586, .inr (18, [.int 0, .int 0, .int 0, .int 1, .int 1, .ref z589, .ref z590, .ref z591, .int 0, .ref z592, .int (-1), .int 0, .ref z593, .ref z594, .int (-1), .int 0, .ref z595, .int (-1), .int 15, .ref z596, .ref z597, .ref z598])), (z589, .inl (cI, 65536, .inl (fun _ => 0))), (z590, .inl (cI, 16384, .inl (fun _ => 0))), (z591, .inl (cI, 16384, .inl (fun _ => 0)))] sz)) 0 0 (va_A [(q586, .inr (18, [.int 0, .int 0, .int 0, .int 1, .int 1, .ref z589, .ref z590, .ref z591, .int 0, .ref z592, .int (-1), .int 0, .ref z593, .ref z594, .int (-1), .int 0, .ref z595, .int (-1), .int 15, .ref z596, .ref z597, .ref z598])), (z589, .inl (cI, 65536, .inl (fun _ => 0))), (z590, .inl (cI, 16384, .inl (fun _ => 0))), (z591, .inl (cI, 16384, .inl (fun _ => 0)))] sz) := by
  refine Met.ofW (cc := prog_17_method_30_code) (maxL := 4) (ret := (some .int)) (by decide) rfl ?_
  intro p e s m args below meth c s₁ B0 hml hv
  obtain ⟨rfl, hv⟩ := hv
  have hx := B0.exec
  have hb := B0.bytes
  have hr := B0.returns
  have hts := atoms_spec (ws := (Cond.code y_Ptm_sum prog_17_method_30_code 4 (some .int)) :: tw) B0.pre
  have htw : ∀ w ∈ tw, w.before _ s = true := fun w hw => hts w (List.mem_cons_of_mem _ hw)
  have hown : s.vm.findClass "DrawingMachineModel$PlaceTestsModel" = some m.cls := findClass_of_methodNamed B0.named
  have hlocks := B0.notSynchronized
  obtain ⟨hC, hP, hD, hsz⟩ := wC_init hv
  subst hsz
  generalize hAe : va_A [(q586, .inr (18, [.int 0, .int 0, .int 0, .int 1, .int 1, .ref z589, .ref z590, .ref z591, .int 0, .ref z592, .int (-1), .int 0, .ref z593, .ref z594, .int (-1), .int 0, .ref z595, .int (-1), .int 15, .ref z596, .ref z597, .ref z598])), (z589, .inl (cI, 65536, .inl (fun _ => 0))), (z590, .inl (cI, 16384, .inl (fun _ => 0))), (z591, .inl (cI, 16384, .inl (fun _ => 0)))] s.heap.size = A at hC hD ⊢
  have hS : va_S A s.heap s.heap [] := va_S.rf
  have hl := lv_entry ([.ref q586, .int 1]) (n := 4) (Nat.le_of_ble_eq_true rfl)
  rw [lg_entry_eq]
  generalize (lg_sl ([.ref q586, .int 1]) ++ List.replicate (4 - (lg_sl ([.ref q586, .int 1])).length) Slot.unset).toArray = ls at hl ⊢
  have hl : lv_has ls 4 [(0, .ref q586), (1, .int 1)] := hl
  refine lv_aload_n hx hb d_Ptm_sum_0 rfl (lv_at hl 0 rfl) ?_
  refine lv_iload_n hx hb d_Ptm_sum_1 rfl (lv_at hl 1 rfl) ?_
  refine lv_iconst (v := 0) hx hb d_Ptm_sum_2 (by decide) ?_
  refine lv_iconst (v := 2) hx hb d_Ptm_sum_3 (by decide) ?_
  refine wc_i (wr := [(q586, .inr (18, [.int 0, .int 0, .int 0, .int 1, .int 1, .ref z589, .ref z590, .ref z591, .int 0, .ref z592, .int (-1), .int 0, .ref z593, .ref z594, .int (-1), .int 0, .ref z595, .int (-1), .int 15, .ref z596, .ref z597, .ref z598])), (z589, .inl (cI, 65536, .inl (fun _ => 0))), (z590, .inl (cI, 16384, .inl (fun _ => 0))), (z591, .inl (cI, 16384, .inl (fun _ => 0)))]) hC hP hD hS [] [0, 1, 2, 3] rfl rfl (by decide) (by decide) (va_runS (As := [.int 1, .int 0, .int 2]) (rest := [.ref q586]) ⟨hx, hb, hml, hown, htw⟩ (c_Ptm_in_t l D cI cL B _ 1 0 2 (by decide) (by decide)) (va_cwS 3 htw gS_Ptm_63 rfl rfl rfl (by decide +kernel) ⟨Nat.le_of_ble_eq_true rfl, Nat.le_of_ble_eq_true rfl⟩) (wC_pre hC hP hD hS [] (by decide) rfl) rfl rfl hl.1 rfl (lv_room (Nat.le_of_ble_eq_true rfl)) d_Ptm_sum_4 ⟨Nat.le_of_ble_eq_true rfl, Nat.le_of_ble_eq_true rfl⟩) (fun r1073 u1071 H locs hw1072 hP hD hS => ?_)
  obtain rfl : r1073 = 1 := hw1072
  have hP : va_P D classes [(q586, .inr (18, [.int 0, .int 0, .int 0, .int 1, .int 1, .ref z589, .ref z590, .ref z591, .int 0, .ref z592, .int (-1), .int 0, .ref z593, .ref z594, .int (-1), .int 0, .ref z595, .int (-1), .int 15, .ref z596, .ref z597, .ref z598])), (z589, .inl (cI, 65536, .inl (fun _ => 0))), (z590, .inl (cI, 16384, .inl (fun _ => 0))), (z591, .inl (cI, 16384, .inl (fun _ => 0)))] H := hP
  have hD : va_D A [(q586, .inr (18, [.int 0, .int 0, .int 0, .int 1, .int 1, .ref z589, .ref z590, .ref z591, .int 0, .ref z592, .int (-1), .int 0, .ref z593, .ref z594, .int (-1), .int 0, .ref z595, .int (-1), .int 15, .ref z596, .ref z597, .ref z598])), (z589, .inl (cI, 65536, .inl (fun _ => 0))), (z590, .inl (cI, 16384, .inl (fun _ => 0))), (z591, .inl (cI, 16384, .inl (fun _ => 0)))] := hD
  refine W.widen (k := 0) (n := 0) (by omega) (by omega) ?_
  refine lv_if_ne (tgt := 14) hx hb d_Ptm_sum_7 (by decide) (fun c_1074 => ?_) (fun c_1074 => absurd c_1074 (by decide))
  refine lv_iconst (v := 0) hx hb d_Ptm_sum_14 (by decide) ?_
  refine lv_iconst (v := 0) hx hb d_Ptm_sum_15 (by decide) ?_
  refine wc_i (wr := [(z589, .inl (cI, 65536, .inl (fun _ => 0))), (z590, .inl (cI, 16384, .inl (fun _ => 0))), (z591, .inl (cI, 16384, .inl (fun _ => 0)))]) hC hP hD hS [0] [1, 2, 3] rfl rfl (by decide) (by decide) (va_runV (As := [.int 0, .int 0]) (rest := []) ⟨hx, hb, hml, hown, htw⟩ (c_Pref_00 l D cI cL B _ q586 z589 z590 z591 z592 z593 z594 z595 z596 z597 z598) (cwV 2 htw gV_Ptm_67 rfl rfl rfl (by decide +kernel) ⟨Nat.le_of_ble_eq_true rfl, Nat.le_of_ble_eq_true rfl⟩) (wC_preV (As := [.int 0, .int 0]) hC hP hD hS [0] (by decide) rfl (q0 := 0) rfl rfl) rfl rfl hl.1 rfl (lv_room (Nat.le_of_ble_eq_true rfl)) d_Ptm_sum_16 ⟨Nat.le_of_ble_eq_true rfl, Nat.le_of_ble_eq_true rfl⟩) (fun r1077 u1075 H locs hw1076 hP hD hS => ?_)
  obtain rfl : r1077 = 0 := hw1076
  have hP : va_P D classes [(z589, .inl (cI, 65536, .inl (fun _ => 0))), (z590, .inl (cI, 16384, .inl (fun _ => 0))), (z591, .inl (cI, 16384, .inl (fun _ => 0))), (q586, .inr (18, [.int 0, .int 0, .int 0, .int 1, .int 1, .ref z589, .ref z590, .ref z591, .int 0, .ref z592, .int (-1), .int 0, .ref z593, .ref z594, .int (-1), .int 0, .ref z595, .int (-1), .int 15, .ref z596, .ref z597, .ref z598]))] H := hP
  have hD : va_D A [(z589, .inl (cI, 65536, .inl (fun _ => 0))), (z590, .inl (cI, 16384, .inl (fun _ => 0))), (z591, .inl (cI, 16384, .inl (fun _ => 0))), (q586, .inr (18, [.int 0, .int 0, .int 0, .int 1, .int 1, .ref z589, .ref z590, .ref z591, .int 0, .ref z592, .int (-1), .int 0, .ref z593, .ref z594, .int (-1), .int 0, .ref z595, .int (-1), .int 15, .ref z596, .ref z597, .ref z598]))] := hD
  refine W.widen (k := 0) (n := 0) (by omega) (by omega) ?_
  refine lv_if_eq (tgt := 24) hx hb d_Ptm_sum_19 (by decide) (fun c_1078 => ?_) (fun c_1078 => absurd c_1078 (by decide))
  refine lv_iconst (v := 0) hx hb d_Ptm_sum_24 (by decide) ?_
  refine lv_istore_n (lv' := [(2, .int 0), (0, .ref q586), (1, .int 1)]) hx hb d_Ptm_sum_25 rfl hl (by decide) rfl (fun ls hl => ?_)
  refine lv_iconst (v := 0) hx hb d_Ptm_sum_26 (by decide) ?_
  refine lv_istore_n (lv' := [(3, .int 0), (2, .int 0), (0, .ref q586), (1, .int 1)]) hx hb d_Ptm_sum_27 rfl hl (by decide) rfl (fun ls hl => ?_)
  refine lv_iload_n hx hb d_Ptm_sum_28 rfl (lv_at hl 0 rfl) ?_
  refine lv_aload_n hx hb d_Ptm_sum_29 rfl (lv_at hl 2 rfl) ?_
  refine va_get (D := D) (ci := 18) (v := .int 1) (C := R_Ptm) (T := F_Ptm) (N := 22) hx hb htw i_Ptm hown hC.1 hP 3 rfl rfl 3 (by decide) (htw _ k608) (fun _ h9 => h9) rfl d_Ptm_sum_30 ?_
  refine lv_aload_n hx hb d_Ptm_sum_33 rfl (lv_at hl 2 rfl) ?_
  refine va_get (D := D) (ci := 18) (v := .int 1) (C := R_Ptm) (T := F_Ptm) (N := 22) hx hb htw i_Ptm hown hC.1 hP 3 rfl rfl 4 (by decide) (htw _ k609) (fun _ h9 => h9) rfl d_Ptm_sum_34 ?_
  refine lv_imul hx hb d_Ptm_sum_37 ?_
  refine wi_c (v := 1) (by decide) ?_
  refine lv_icmp_ge (tgt := 59) hx hb d_Ptm_sum_38 (by decide) (fun c_1079 => absurd c_1079 (by decide)) (fun c_1079 => ?_)
  refine lv_bipush (v := 31) hx hb d_Ptm_sum_41 (by decide) ?_
  refine lv_iload_n hx hb d_Ptm_sum_43 rfl (lv_at hl 1 rfl) ?_
  refine lv_imul hx hb d_Ptm_sum_44 ?_
  refine wi_c (v := 0) (by decide) ?_
  refine lv_aload_n hx hb d_Ptm_sum_45 rfl (lv_at hl 2 rfl) ?_
  refine lv_iload_n hx hb d_Ptm_sum_46 rfl (lv_at hl 0 rfl) ?_
  refine lv_iload_n hx hb d_Ptm_sum_47 rfl (lv_at hl 3 rfl) ?_
  refine wc_i (wr := []) hC hP hD hS [3, 0, 1, 2] [] rfl rfl (by decide) (by decide) (va_runV (As := [.int 0, .int 1]) (rest := [.int 0]) ⟨hx, hb, hml, hown, htw⟩ (c_Pshow_1 l D cI cL B _ q586 z589 z590 z591 z592 z593 z594 z595 z596 z597 z598) (cwV 2 htw gV_Ptm_133 rfl rfl rfl (by decide +kernel) ⟨Nat.le_of_ble_eq_true rfl, Nat.le_of_ble_eq_true rfl⟩) (wC_preV (As := [.int 0, .int 1]) hC hP hD hS [3, 0, 1, 2] (by decide) rfl (q0 := 3) rfl rfl) rfl rfl hl.1 rfl (lv_room (Nat.le_of_ble_eq_true rfl)) d_Ptm_sum_48 ⟨Nat.le_of_ble_eq_true rfl, Nat.le_of_ble_eq_true rfl⟩) (fun r1082 u1080 H locs hw1081 hP hD hS => ?_)
  obtain rfl : r1082 = 0 := hw1081
  have hP : va_P D classes [(q586, .inr (18, [.int 0, .int 0, .int 0, .int 1, .int 1, .ref z589, .ref z590, .ref z591, .int 0, .ref z592, .int (-1), .int 0, .ref z593, .ref z594, .int (-1), .int 0, .ref z595, .int (-1), .int 15, .ref z596, .ref z597, .ref z598])), (z589, .inl (cI, 65536, .inl (fun _ => 0))), (z590, .inl (cI, 16384, .inl (fun _ => 0))), (z591, .inl (cI, 16384, .inl (fun _ => 0)))] H := hP
  have hD : va_D A [(q586, .inr (18, [.int 0, .int 0, .int 0, .int 1, .int 1, .ref z589, .ref z590, .ref z591, .int 0, .ref z592, .int (-1), .int 0, .ref z593, .ref z594, .int (-1), .int 0, .ref z595, .int (-1), .int 15, .ref z596, .ref z597, .ref z598])), (z589, .inl (cI, 65536, .inl (fun _ => 0))), (z590, .inl (cI, 16384, .inl (fun _ => 0))), (z591, .inl (cI, 16384, .inl (fun _ => 0)))] := hD
  refine W.widen (k := 0) (n := 0) (by omega) (by omega) ?_
  refine lv_iadd hx hb d_Ptm_sum_51 ?_
  refine wi_c (v := 0) (by decide) ?_
  refine lv_istore_n (lv' := [(2, .int 0), (3, .int 0), (0, .ref q586), (1, .int 1)]) hx hb d_Ptm_sum_52 rfl hl (by decide) rfl (fun ls hl => ?_)
  refine lv_iinc (v := 1) (lv' := [(3, .int 1), (2, .int 0), (0, .ref q586), (1, .int 1)]) hx hb d_Ptm_sum_53 hl (k := 1) rfl (by decide) (by decide) rfl (fun ls hl => ?_)
  refine lv_goto (tgt := 28) hx hb d_Ptm_sum_56 (by decide) ?_
  refine lv_iload_n hx hb d_Ptm_sum_28 rfl (lv_at hl 0 rfl) ?_
  refine lv_aload_n hx hb d_Ptm_sum_29 rfl (lv_at hl 2 rfl) ?_
  refine va_get (D := D) (ci := 18) (v := .int 1) (C := R_Ptm) (T := F_Ptm) (N := 22) hx hb htw i_Ptm hown hC.1 hP 0 rfl rfl 3 (by decide) (htw _ k608) (fun _ h9 => h9) rfl d_Ptm_sum_30 ?_
  refine lv_aload_n hx hb d_Ptm_sum_33 rfl (lv_at hl 2 rfl) ?_
  refine va_get (D := D) (ci := 18) (v := .int 1) (C := R_Ptm) (T := F_Ptm) (N := 22) hx hb htw i_Ptm hown hC.1 hP 0 rfl rfl 4 (by decide) (htw _ k609) (fun _ h9 => h9) rfl d_Ptm_sum_34 ?_
  refine lv_imul hx hb d_Ptm_sum_37 ?_
  refine wi_c (v := 1) (by decide) ?_
  refine lv_icmp_ge (tgt := 59) hx hb d_Ptm_sum_38 (by decide) (fun c_1083 => ?_) (fun c_1083 => absurd c_1083 (by decide))
  refine lv_iload_n hx hb d_Ptm_sum_59 rfl (lv_at hl 1 rfl) ?_
  refine W.widen (k := 0) (n := 0) (Nat.le_of_ble_eq_true rfl) (Nat.le_of_ble_eq_true rfl) ?_
  have hP9 := hP.sub (ws' := []) [] rfl
  have hD9 := hD.sub (ws' := []) [] (by decide) rfl
  exact W.iret (v := 0) hx hb hr (fun t ht hW => ⟨⟨0, (), rfl, rfl, by rw [ht]; exact hP9, va_K.moved hW.alike hC.1, hD9⟩, hS.F ht⟩) hS.2.2 d_Ptm_sum_60

set_option maxHeartbeats 4000000 in
set_option maxRecDepth 100000 in
theorem c_Mat_1 (l : Launch) (D : va_G) (cI cL : ClassId) (B sz : Nat) (h0 : Nat) (q562 : Nat) (q571 : Nat) (q574 : Nat) (q577 : Nat) (q580 : Nat) (q583 : Nat) (q586 : Nat) (z589 : Nat) (z590 : Nat) (z591 : Nat) (z592 : Nat) (z593 : Nat) (z594 : Nat) (z595 : Nat) (z596 : Nat) (z597 : Nat) (z598 : Nat) (q599 : Nat) (q600 : Nat) (q601 : Nat) (q602 : Nat) : Met l y_Mod_at ((Cond.code y_Mod_at prog_14_method_29_code 5 (some .int)) :: tw) ({ frames := 40, cells := 0, slots := 0, locals := 4000 }) (va_Pc [.ref h0, .int 0, .int 0, .int 1] (wP D cI cL B sz [(h0, .inr (12, [.int 0, .int 1, .int 1, .ref q562, .ref q571, .ref q574, .ref q577, .ref q580, .ref q583, .ref q586, .int 0, .int (-1), .int 0, .int 0, .long 0, .ref q599, .ref q600, .ref q601, .ref q602])), (q586, .inr (18, [.int 0, .int 0, .int 0, .int 1, .int 1, .ref z589, .ref z590, .ref z591, .int 0, .ref z592, .int (-1), .int 0, .ref z593, .ref z594, .int (-1), .int 0, .ref z595, .int (-1), .int 15, .ref z596, .ref z597, .ref z598])), (z589, .inl (cI, 65536, .inl (fun _ => 0))), (z590, .inl (cI, 16384, .inl (fun _ => 0))), (z591, .inl (cI, 16384, .inl (fun _ => 0)))])) (va_Qi (S := Unit) (fun r u => r = 0) (fun u => wB D cI cL (va_A [(h0, .inr (12, [.int 0, .int 1, .int 1, .ref q562, .ref q571, .ref q574, .ref q577, .ref q580, .ref q583, .ref q586, .int 0, .int (-1), .int 0, .int 0, .long 0, .ref q599, .ref q600, .ref q601, .ref q602])), (q586, .inr (18, [.int 0, .int 0, .int 0, .int 1, .int 1, .ref z589, .ref z590, .ref z591, .int 0, .ref z592, .int (-1), .int 0, .ref z593, .ref z594, .int (-1), .int 0, .ref z595, .int (-1), .int 15, .ref z596, .ref z597, .ref z598])), (z589, .inl (cI, 65536, .inl (fun _ => 0))), (z590, .inl (cI, 16384, .inl (fun _ => 0))), (z591, .inl (cI, 16384, .inl (fun _ => 0)))] sz) ((fun _ : Unit => [(h0, .inr (12, [.int 0, .int 1, .int 1, .ref q562, .ref q571, .ref q574, .ref q577, .ref q580, .ref q583, .ref q586, .int 0, .int (-1), .int 0, .int 0, .long 0, .ref q599, .ref q600, .ref q601, .ref q602]))]) u)) (va_A [(h0, .inr (12, [.int 0, .int 1, .int 1, .ref q562, .ref q571, .ref q574, .ref q577, .ref q580, .ref q583, .ref q586, .int 0, .int (-1), .int 0, .int 0, .long 0, .ref q599, .ref q600, .ref q601, .ref q602])), (q586, .inr (18, [.int 0, .int 0, .int 0, .int 1, .int 1, .ref z589, .ref z590, .ref z591, .int 0, .ref z592, .int (-1), .int 0, .ref z593, .ref z594, .int (-1), .int 0, .ref z595, .int (-1), .int 15, .ref z596, .ref z597, .ref z598])), (z589, .inl (cI, 65536, .inl (fun _ => 0))), (z590, .inl (cI, 16384, .inl (fun _ => 0))), (z591, .inl (cI, 16384, .inl (fun _ => 0)))] sz)) 0 0 (va_A [(h0, .inr (12, [.int 0, .int 1, .int 1, .ref q562, .ref q571, .ref q574, .ref q577, .ref q580, .ref q583, .ref q586, .int 0, .int (-1), .int 0, .int 0, .long 0, .ref q599, .ref q600, .ref q601, .ref q602])), (q586, .inr (18, [.int 0, .int 0, .int 0, .int 1, .int 1, .ref z589, .ref z590, .ref z591, .int 0, .ref z592, .int (-1), .int 0, .ref z593, .ref z594, .int (-1), .int 0, .ref z595, .int (-1), .int 15, .ref z596, .ref z597, .ref z598])), (z589, .inl (cI, 65536, .inl (fun _ => 0))), (z590, .inl (cI, 16384, .inl (fun _ => 0))), (z591, .inl (cI, 16384, .inl (fun _ => 0)))] sz) := by
  refine Met.ofW (cc := prog_14_method_29_code) (maxL := 5) (ret := (some .int)) (by decide) rfl ?_
  intro p e s m args below meth c s₁ B0 hml hv
  obtain ⟨rfl, hv⟩ := hv
  have hx := B0.exec
  have hb := B0.bytes
  have hr := B0.returns
  have hts := atoms_spec (ws := (Cond.code y_Mod_at prog_14_method_29_code 5 (some .int)) :: tw) B0.pre
  have htw : ∀ w ∈ tw, w.before _ s = true := fun w hw => hts w (List.mem_cons_of_mem _ hw)
  have hown : s.vm.findClass "DrawingMachineModel" = some m.cls := findClass_of_methodNamed B0.named
  have hlocks := B0.notSynchronized
  obtain ⟨hC, hP, hD, hsz⟩ := wC_init hv
  subst hsz
  generalize hAe : va_A [(h0, .inr (12, [.int 0, .int 1, .int 1, .ref q562, .ref q571, .ref q574, .ref q577, .ref q580, .ref q583, .ref q586, .int 0, .int (-1), .int 0, .int 0, .long 0, .ref q599, .ref q600, .ref q601, .ref q602])), (q586, .inr (18, [.int 0, .int 0, .int 0, .int 1, .int 1, .ref z589, .ref z590, .ref z591, .int 0, .ref z592, .int (-1), .int 0, .ref z593, .ref z594, .int (-1), .int 0, .ref z595, .int (-1), .int 15, .ref z596, .ref z597, .ref z598])), (z589, .inl (cI, 65536, .inl (fun _ => 0))), (z590, .inl (cI, 16384, .inl (fun _ => 0))), (z591, .inl (cI, 16384, .inl (fun _ => 0)))] s.heap.size = A at hC hD ⊢
  have hS : va_S A s.heap s.heap [] := va_S.rf
  have hl := lv_entry ([.ref h0, .int 0, .int 0, .int 1]) (n := 5) (Nat.le_of_ble_eq_true rfl)
  rw [lg_entry_eq]
  generalize (lg_sl ([.ref h0, .int 0, .int 0, .int 1]) ++ List.replicate (5 - (lg_sl ([.ref h0, .int 0, .int 0, .int 1])).length) Slot.unset).toArray = ls at hl ⊢
  have hl : lv_has ls 5 [(0, .ref h0), (1, .int 0), (2, .int 0), (3, .int 1)] := hl
  refine lv_iload_n hx hb d_Mod_at_0 rfl (lv_at hl 3 rfl) ?_
  refine lv_i2l (v := 1) hx hb d_Mod_at_1 (by decide) ?_
  refine lv_lconst (v := 0) hx hb d_Mod_at_2 (by decide) ?_
  refine lv_ldc2 (v := 2) hx hb hown (htw _ k690) d_Mod_at_3 ?_
  refine wc_i (wr := [(h0, .inr (12, [.int 0, .int 1, .int 1, .ref q562, .ref q571, .ref q574, .ref q577, .ref q580, .ref q583, .ref q586, .int 0, .int (-1), .int 0, .int 0, .long 0, .ref q599, .ref q600, .ref q601, .ref q602])), (q586, .inr (18, [.int 0, .int 0, .int 0, .int 1, .int 1, .ref z589, .ref z590, .ref z591, .int 0, .ref z592, .int (-1), .int 0, .ref z593, .ref z594, .int (-1), .int 0, .ref z595, .int (-1), .int 15, .ref z596, .ref z597, .ref z598])), (z589, .inl (cI, 65536, .inl (fun _ => 0))), (z590, .inl (cI, 16384, .inl (fun _ => 0))), (z591, .inl (cI, 16384, .inl (fun _ => 0)))]) hC hP hD hS [] [0, 1, 2, 3, 4] rfl rfl (by decide) (by decide) (va_runS (As := [.long 1, .long 0, .long 2]) (rest := []) ⟨hx, hb, hml, hown, htw⟩ (c_Mod_in_t l D cI cL B _ 1 0 2 (by decide) (by decide)) (va_cwS 3 htw gS_Mod_90 rfl rfl rfl (by decide +kernel) ⟨Nat.le_of_ble_eq_true rfl, Nat.le_of_ble_eq_true rfl⟩) (wC_pre hC hP hD hS [] (by decide) rfl) rfl rfl hl.1 rfl (lv_room (Nat.le_of_ble_eq_true rfl)) d_Mod_at_6 ⟨Nat.le_of_ble_eq_true rfl, Nat.le_of_ble_eq_true rfl⟩) (fun r1086 u1084 H locs hw1085 hP hD hS => ?_)
  obtain rfl : r1086 = 1 := hw1085
  have hP : va_P D classes [(h0, .inr (12, [.int 0, .int 1, .int 1, .ref q562, .ref q571, .ref q574, .ref q577, .ref q580, .ref q583, .ref q586, .int 0, .int (-1), .int 0, .int 0, .long 0, .ref q599, .ref q600, .ref q601, .ref q602])), (q586, .inr (18, [.int 0, .int 0, .int 0, .int 1, .int 1, .ref z589, .ref z590, .ref z591, .int 0, .ref z592, .int (-1), .int 0, .ref z593, .ref z594, .int (-1), .int 0, .ref z595, .int (-1), .int 15, .ref z596, .ref z597, .ref z598])), (z589, .inl (cI, 65536, .inl (fun _ => 0))), (z590, .inl (cI, 16384, .inl (fun _ => 0))), (z591, .inl (cI, 16384, .inl (fun _ => 0)))] H := hP
  have hD : va_D A [(h0, .inr (12, [.int 0, .int 1, .int 1, .ref q562, .ref q571, .ref q574, .ref q577, .ref q580, .ref q583, .ref q586, .int 0, .int (-1), .int 0, .int 0, .long 0, .ref q599, .ref q600, .ref q601, .ref q602])), (q586, .inr (18, [.int 0, .int 0, .int 0, .int 1, .int 1, .ref z589, .ref z590, .ref z591, .int 0, .ref z592, .int (-1), .int 0, .ref z593, .ref z594, .int (-1), .int 0, .ref z595, .int (-1), .int 15, .ref z596, .ref z597, .ref z598])), (z589, .inl (cI, 65536, .inl (fun _ => 0))), (z590, .inl (cI, 16384, .inl (fun _ => 0))), (z591, .inl (cI, 16384, .inl (fun _ => 0)))] := hD
  refine W.widen (k := 0) (n := 0) (by omega) (by omega) ?_
  refine lv_istore (lv' := [(4, .int 1), (0, .ref h0), (1, .int 0), (2, .int 0), (3, .int 1)]) hx hb d_Mod_at_9 hl (by decide) rfl (fun ls hl => ?_)
  refine lv_aload_n hx hb d_Mod_at_11 rfl (lv_at hl 1 rfl) ?_
  refine lv_iload hx hb d_Mod_at_12 (lv_at hl 0 rfl) ?_
  refine lv_if_ne (tgt := 21) hx hb d_Mod_at_14 (by decide) (fun c_1087 => ?_) (fun c_1087 => absurd c_1087 (by decide))
  refine lv_iconst (v := 0) hx hb d_Mod_at_21 (by decide) ?_
  refine lv_iload hx hb d_Mod_at_22 (lv_at hl 0 rfl) ?_
  refine lv_if_eq (tgt := 63) hx hb d_Mod_at_24 (by decide) (fun c_1088 => absurd c_1088 (by decide)) (fun c_1088 => ?_)
  refine lv_iload_n hx hb d_Mod_at_27 rfl (lv_at hl 2 rfl) ?_
  refine lv_i2l (v := 0) hx hb d_Mod_at_28 (by decide) ?_
  refine lv_lconst (v := 0) hx hb d_Mod_at_29 (by decide) ?_
  refine lv_aload_n hx hb d_Mod_at_30 rfl (lv_at hl 1 rfl) ?_
  refine va_get (D := D) (ci := 12) (v := .int 1) (C := R_Mod) (T := F_Mod) (N := 19) hx hb htw i_Mod hown hC.1 hP 0 rfl rfl 1 (by decide) (htw _ k515) (fun _ h9 => h9) rfl d_Mod_at_31 ?_
  refine lv_iconst (v := 1) hx hb d_Mod_at_34 (by decide) ?_
  refine lv_isub hx hb d_Mod_at_35 ?_
  refine wi_c (v := 0) (by decide) ?_
  refine lv_i2l (v := 0) hx hb d_Mod_at_36 (by decide) ?_
  refine wc_i (wr := [(h0, .inr (12, [.int 0, .int 1, .int 1, .ref q562, .ref q571, .ref q574, .ref q577, .ref q580, .ref q583, .ref q586, .int 0, .int (-1), .int 0, .int 0, .long 0, .ref q599, .ref q600, .ref q601, .ref q602])), (q586, .inr (18, [.int 0, .int 0, .int 0, .int 1, .int 1, .ref z589, .ref z590, .ref z591, .int 0, .ref z592, .int (-1), .int 0, .ref z593, .ref z594, .int (-1), .int 0, .ref z595, .int (-1), .int 15, .ref z596, .ref z597, .ref z598])), (z589, .inl (cI, 65536, .inl (fun _ => 0))), (z590, .inl (cI, 16384, .inl (fun _ => 0))), (z591, .inl (cI, 16384, .inl (fun _ => 0)))]) hC hP hD hS [] [0, 1, 2, 3, 4] rfl rfl (by decide) (by decide) (va_runS (As := [.long 0, .long 0, .long 0]) (rest := [.int 0, .ref h0]) ⟨hx, hb, hml, hown, htw⟩ (c_Mod_in_t l D cI cL B _ 0 0 0 (by decide) (by decide)) (va_cwS 3 htw gS_Mod_90 rfl rfl rfl (by decide +kernel) ⟨Nat.le_of_ble_eq_true rfl, Nat.le_of_ble_eq_true rfl⟩) (wC_pre hC hP hD hS [] (by decide) rfl) rfl rfl hl.1 rfl (lv_room (Nat.le_of_ble_eq_true rfl)) d_Mod_at_37 ⟨Nat.le_of_ble_eq_true rfl, Nat.le_of_ble_eq_true rfl⟩) (fun r1091 u1089 H locs hw1090 hP hD hS => ?_)
  obtain rfl : r1091 = 1 := hw1090
  have hP : va_P D classes [(h0, .inr (12, [.int 0, .int 1, .int 1, .ref q562, .ref q571, .ref q574, .ref q577, .ref q580, .ref q583, .ref q586, .int 0, .int (-1), .int 0, .int 0, .long 0, .ref q599, .ref q600, .ref q601, .ref q602])), (q586, .inr (18, [.int 0, .int 0, .int 0, .int 1, .int 1, .ref z589, .ref z590, .ref z591, .int 0, .ref z592, .int (-1), .int 0, .ref z593, .ref z594, .int (-1), .int 0, .ref z595, .int (-1), .int 15, .ref z596, .ref z597, .ref z598])), (z589, .inl (cI, 65536, .inl (fun _ => 0))), (z590, .inl (cI, 16384, .inl (fun _ => 0))), (z591, .inl (cI, 16384, .inl (fun _ => 0)))] H := hP
  have hD : va_D A [(h0, .inr (12, [.int 0, .int 1, .int 1, .ref q562, .ref q571, .ref q574, .ref q577, .ref q580, .ref q583, .ref q586, .int 0, .int (-1), .int 0, .int 0, .long 0, .ref q599, .ref q600, .ref q601, .ref q602])), (q586, .inr (18, [.int 0, .int 0, .int 0, .int 1, .int 1, .ref z589, .ref z590, .ref z591, .int 0, .ref z592, .int (-1), .int 0, .ref z593, .ref z594, .int (-1), .int 0, .ref z595, .int (-1), .int 15, .ref z596, .ref z597, .ref z598])), (z589, .inl (cI, 65536, .inl (fun _ => 0))), (z590, .inl (cI, 16384, .inl (fun _ => 0))), (z591, .inl (cI, 16384, .inl (fun _ => 0)))] := hD
  refine W.widen (k := 0) (n := 0) (by omega) (by omega) ?_
  refine lv_if_eq (tgt := 59) hx hb d_Mod_at_40 (by decide) (fun c_1092 => absurd c_1092 (by decide)) (fun c_1092 => ?_)
  refine lv_iload_n hx hb d_Mod_at_43 rfl (lv_at hl 3 rfl) ?_
  refine lv_i2l (v := 0) hx hb d_Mod_at_44 (by decide) ?_
  refine lv_lconst (v := 0) hx hb d_Mod_at_45 (by decide) ?_
  refine lv_aload_n hx hb d_Mod_at_46 rfl (lv_at hl 1 rfl) ?_
  refine va_get (D := D) (ci := 12) (v := .int 1) (C := R_Mod) (T := F_Mod) (N := 19) hx hb htw i_Mod hown hC.1 hP 0 rfl rfl 2 (by decide) (htw _ k516) (fun _ h9 => h9) rfl d_Mod_at_47 ?_
  refine lv_iconst (v := 1) hx hb d_Mod_at_50 (by decide) ?_
  refine lv_isub hx hb d_Mod_at_51 ?_
  refine wi_c (v := 0) (by decide) ?_
  refine lv_i2l (v := 0) hx hb d_Mod_at_52 (by decide) ?_
  refine wc_i (wr := [(h0, .inr (12, [.int 0, .int 1, .int 1, .ref q562, .ref q571, .ref q574, .ref q577, .ref q580, .ref q583, .ref q586, .int 0, .int (-1), .int 0, .int 0, .long 0, .ref q599, .ref q600, .ref q601, .ref q602])), (q586, .inr (18, [.int 0, .int 0, .int 0, .int 1, .int 1, .ref z589, .ref z590, .ref z591, .int 0, .ref z592, .int (-1), .int 0, .ref z593, .ref z594, .int (-1), .int 0, .ref z595, .int (-1), .int 15, .ref z596, .ref z597, .ref z598])), (z589, .inl (cI, 65536, .inl (fun _ => 0))), (z590, .inl (cI, 16384, .inl (fun _ => 0))), (z591, .inl (cI, 16384, .inl (fun _ => 0)))]) hC hP hD hS [] [0, 1, 2, 3, 4] rfl rfl (by decide) (by decide) (va_runS (As := [.long 0, .long 0, .long 0]) (rest := [.int 0, .ref h0]) ⟨hx, hb, hml, hown, htw⟩ (c_Mod_in_t l D cI cL B _ 0 0 0 (by decide) (by decide)) (va_cwS 3 htw gS_Mod_90 rfl rfl rfl (by decide +kernel) ⟨Nat.le_of_ble_eq_true rfl, Nat.le_of_ble_eq_true rfl⟩) (wC_pre hC hP hD hS [] (by decide) rfl) rfl rfl hl.1 rfl (lv_room (Nat.le_of_ble_eq_true rfl)) d_Mod_at_53 ⟨Nat.le_of_ble_eq_true rfl, Nat.le_of_ble_eq_true rfl⟩) (fun r1095 u1093 H locs hw1094 hP hD hS => ?_)
  obtain rfl : r1095 = 1 := hw1094
  have hP : va_P D classes [(h0, .inr (12, [.int 0, .int 1, .int 1, .ref q562, .ref q571, .ref q574, .ref q577, .ref q580, .ref q583, .ref q586, .int 0, .int (-1), .int 0, .int 0, .long 0, .ref q599, .ref q600, .ref q601, .ref q602])), (q586, .inr (18, [.int 0, .int 0, .int 0, .int 1, .int 1, .ref z589, .ref z590, .ref z591, .int 0, .ref z592, .int (-1), .int 0, .ref z593, .ref z594, .int (-1), .int 0, .ref z595, .int (-1), .int 15, .ref z596, .ref z597, .ref z598])), (z589, .inl (cI, 65536, .inl (fun _ => 0))), (z590, .inl (cI, 16384, .inl (fun _ => 0))), (z591, .inl (cI, 16384, .inl (fun _ => 0)))] H := hP
  have hD : va_D A [(h0, .inr (12, [.int 0, .int 1, .int 1, .ref q562, .ref q571, .ref q574, .ref q577, .ref q580, .ref q583, .ref q586, .int 0, .int (-1), .int 0, .int 0, .long 0, .ref q599, .ref q600, .ref q601, .ref q602])), (q586, .inr (18, [.int 0, .int 0, .int 0, .int 1, .int 1, .ref z589, .ref z590, .ref z591, .int 0, .ref z592, .int (-1), .int 0, .ref z593, .ref z594, .int (-1), .int 0, .ref z595, .int (-1), .int 15, .ref z596, .ref z597, .ref z598])), (z589, .inl (cI, 65536, .inl (fun _ => 0))), (z590, .inl (cI, 16384, .inl (fun _ => 0))), (z591, .inl (cI, 16384, .inl (fun _ => 0)))] := hD
  refine W.widen (k := 0) (n := 0) (by omega) (by omega) ?_
  refine lv_if_ne (tgt := 63) hx hb d_Mod_at_56 (by decide) (fun c_1096 => ?_) (fun c_1096 => absurd c_1096 (by decide))
  refine lv_iconst (v := 0) hx hb d_Mod_at_63 (by decide) ?_
  refine wc_i (wr := [(q586, .inr (18, [.int 0, .int 0, .int 0, .int 1, .int 1, .ref z589, .ref z590, .ref z591, .int 0, .ref z592, .int (-1), .int 0, .ref z593, .ref z594, .int (-1), .int 0, .ref z595, .int (-1), .int 15, .ref z596, .ref z597, .ref z598])), (z589, .inl (cI, 65536, .inl (fun _ => 0))), (z590, .inl (cI, 16384, .inl (fun _ => 0))), (z591, .inl (cI, 16384, .inl (fun _ => 0)))]) hC hP hD hS [0] [1, 2, 3, 4] rfl rfl (by decide) (by decide) (va_runV (As := [.int 0, .int 0]) (rest := []) ⟨hx, hb, hml, hown, htw⟩ (c_Mref_00 l D cI cL B _ h0 q562 q571 q574 q577 q580 q583 q586 q599 q600 q601 q602) (cwV 2 htw gV_Mod_94 rfl rfl rfl (by decide +kernel) ⟨Nat.le_of_ble_eq_true rfl, Nat.le_of_ble_eq_true rfl⟩) (wC_preV (As := [.int 0, .int 0]) hC hP hD hS [0] (by decide) rfl (q0 := 0) rfl rfl) rfl rfl hl.1 rfl (lv_room (Nat.le_of_ble_eq_true rfl)) d_Mod_at_64 ⟨Nat.le_of_ble_eq_true rfl, Nat.le_of_ble_eq_true rfl⟩) (fun r1099 u1097 H locs hw1098 hP hD hS => ?_)
  obtain rfl : r1099 = 0 := hw1098
  have hP : va_P D classes [(q586, .inr (18, [.int 0, .int 0, .int 0, .int 1, .int 1, .ref z589, .ref z590, .ref z591, .int 0, .ref z592, .int (-1), .int 0, .ref z593, .ref z594, .int (-1), .int 0, .ref z595, .int (-1), .int 15, .ref z596, .ref z597, .ref z598])), (z589, .inl (cI, 65536, .inl (fun _ => 0))), (z590, .inl (cI, 16384, .inl (fun _ => 0))), (z591, .inl (cI, 16384, .inl (fun _ => 0))), (h0, .inr (12, [.int 0, .int 1, .int 1, .ref q562, .ref q571, .ref q574, .ref q577, .ref q580, .ref q583, .ref q586, .int 0, .int (-1), .int 0, .int 0, .long 0, .ref q599, .ref q600, .ref q601, .ref q602]))] H := hP
  have hD : va_D A [(q586, .inr (18, [.int 0, .int 0, .int 0, .int 1, .int 1, .ref z589, .ref z590, .ref z591, .int 0, .ref z592, .int (-1), .int 0, .ref z593, .ref z594, .int (-1), .int 0, .ref z595, .int (-1), .int 15, .ref z596, .ref z597, .ref z598])), (z589, .inl (cI, 65536, .inl (fun _ => 0))), (z590, .inl (cI, 16384, .inl (fun _ => 0))), (z591, .inl (cI, 16384, .inl (fun _ => 0))), (h0, .inr (12, [.int 0, .int 1, .int 1, .ref q562, .ref q571, .ref q574, .ref q577, .ref q580, .ref q583, .ref q586, .int 0, .int (-1), .int 0, .int 0, .long 0, .ref q599, .ref q600, .ref q601, .ref q602]))] := hD
  refine W.widen (k := 0) (n := 0) (by omega) (by omega) ?_
  refine lv_if_eq (tgt := 72) hx hb d_Mod_at_67 (by decide) (fun c_1100 => ?_) (fun c_1100 => absurd c_1100 (by decide))
  refine lv_aload_n hx hb d_Mod_at_72 rfl (lv_at hl 1 rfl) ?_
  refine va_get (D := D) (ci := 12) (v := .ref q586) (C := R_Mod) (T := F_Mod) (N := 19) hx hb htw i_Mod hown hC.1 hP 4 rfl rfl 9 (by decide) (htw _ k547) (fun _ h9 => h9) rfl d_Mod_at_73 ?_
  refine lv_iload_n hx hb d_Mod_at_76 rfl (lv_at hl 3 rfl) ?_
  refine lv_aload_n hx hb d_Mod_at_77 rfl (lv_at hl 1 rfl) ?_
  refine va_get (D := D) (ci := 12) (v := .int 1) (C := R_Mod) (T := F_Mod) (N := 19) hx hb htw i_Mod hown hC.1 hP 4 rfl rfl 1 (by decide) (htw _ k515) (fun _ h9 => h9) rfl d_Mod_at_78 ?_
  refine lv_imul hx hb d_Mod_at_81 ?_
  refine wi_c (v := 0) (by decide) ?_
  refine lv_iload_n hx hb d_Mod_at_82 rfl (lv_at hl 2 rfl) ?_
  refine lv_iadd hx hb d_Mod_at_83 ?_
  refine wi_c (v := 0) (by decide) ?_
  refine lv_iload_n hx hb d_Mod_at_84 rfl (lv_at hl 4 rfl) ?_
  refine wc_i (wr := [(h0, .inr (12, [.int 0, .int 1, .int 1, .ref q562, .ref q571, .ref q574, .ref q577, .ref q580, .ref q583, .ref q586, .int 0, .int (-1), .int 0, .int 0, .long 0, .ref q599, .ref q600, .ref q601, .ref q602]))]) hC hP hD hS [0, 1, 2, 3] [4] rfl rfl (by decide) (by decide) (va_runVN (As := [.int 0, .int 1]) (rest := []) ⟨hx, hb, hml, hown, htw⟩ (c_Pshow_1 l D cI cL B _ q586 z589 z590 z591 z592 z593 z594 z595 z596 z597 z598) ⟨va_cnB 2 htw (tw_good (fun _ h => h) k692) rfl rfl rfl (hC.2.1.1 _ kn13) (htw _ k213) (by decide +kernel) ⟨Nat.le_of_ble_eq_true rfl, Nat.le_of_ble_eq_true rfl⟩, htw _ k691, htw _ k1012⟩ (wC_preV (As := [.int 0, .int 1]) hC hP hD hS [0, 1, 2, 3] (by decide) rfl (q0 := 0) rfl rfl) rfl rfl hl.1 rfl (lv_room (Nat.le_of_ble_eq_true rfl)) d_Mod_at_85 ⟨Nat.le_of_ble_eq_true rfl, Nat.le_of_ble_eq_true rfl⟩) (fun r1103 u1101 H locs hw1102 hP hD hS => ?_)
  obtain rfl : r1103 = 0 := hw1102
  have hP : va_P D classes [(h0, .inr (12, [.int 0, .int 1, .int 1, .ref q562, .ref q571, .ref q574, .ref q577, .ref q580, .ref q583, .ref q586, .int 0, .int (-1), .int 0, .int 0, .long 0, .ref q599, .ref q600, .ref q601, .ref q602])), (q586, .inr (18, [.int 0, .int 0, .int 0, .int 1, .int 1, .ref z589, .ref z590, .ref z591, .int 0, .ref z592, .int (-1), .int 0, .ref z593, .ref z594, .int (-1), .int 0, .ref z595, .int (-1), .int 15, .ref z596, .ref z597, .ref z598])), (z589, .inl (cI, 65536, .inl (fun _ => 0))), (z590, .inl (cI, 16384, .inl (fun _ => 0))), (z591, .inl (cI, 16384, .inl (fun _ => 0)))] H := hP
  have hD : va_D A [(h0, .inr (12, [.int 0, .int 1, .int 1, .ref q562, .ref q571, .ref q574, .ref q577, .ref q580, .ref q583, .ref q586, .int 0, .int (-1), .int 0, .int 0, .long 0, .ref q599, .ref q600, .ref q601, .ref q602])), (q586, .inr (18, [.int 0, .int 0, .int 0, .int 1, .int 1, .ref z589, .ref z590, .ref z591, .int 0, .ref z592, .int (-1), .int 0, .ref z593, .ref z594, .int (-1), .int 0, .ref z595, .int (-1), .int 15, .ref z596, .ref z597, .ref z598])), (z589, .inl (cI, 65536, .inl (fun _ => 0))), (z590, .inl (cI, 16384, .inl (fun _ => 0))), (z591, .inl (cI, 16384, .inl (fun _ => 0)))] := hD
  refine W.widen (k := 0) (n := 0) (by omega) (by omega) ?_
  refine W.widen (k := 0) (n := 0) (Nat.le_of_ble_eq_true rfl) (Nat.le_of_ble_eq_true rfl) ?_
  have hP9 := hP.sub (ws' := [(h0, .inr (12, [.int 0, .int 1, .int 1, .ref q562, .ref q571, .ref q574, .ref q577, .ref q580, .ref q583, .ref q586, .int 0, .int (-1), .int 0, .int 0, .long 0, .ref q599, .ref q600, .ref q601, .ref q602]))]) [0] rfl
  have hD9 := hD.sub (ws' := [(h0, .inr (12, [.int 0, .int 1, .int 1, .ref q562, .ref q571, .ref q574, .ref q577, .ref q580, .ref q583, .ref q586, .int 0, .int (-1), .int 0, .int 0, .long 0, .ref q599, .ref q600, .ref q601, .ref q602]))]) [0] (by decide) rfl
  exact W.iret (v := 0) hx hb hr (fun t ht hW => ⟨⟨0, (), rfl, rfl, by rw [ht]; exact hP9, va_K.moved hW.alike hC.1, hD9⟩, hS.F ht⟩) hS.2.2 d_Mod_at_88

set_option maxHeartbeats 4000000 in
set_option maxRecDepth 100000 in
theorem c_Msum_1 (l : Launch) (D : va_G) (cI cL : ClassId) (B sz : Nat) (h0 : Nat) (q562 : Nat) (q571 : Nat) (q574 : Nat) (q577 : Nat) (q580 : Nat) (q583 : Nat) (q586 : Nat) (z589 : Nat) (z590 : Nat) (z591 : Nat) (z592 : Nat) (z593 : Nat) (z594 : Nat) (z595 : Nat) (z596 : Nat) (z597 : Nat) (z598 : Nat) (q599 : Nat) (q600 : Nat) (q601 : Nat) (q602 : Nat) : Met l y_Mod_sum ((Cond.code y_Mod_sum prog_14_method_30_code 2 (some .int)) :: tw) ({ frames := 40, cells := 0, slots := 0, locals := 4000 }) (va_Pc [.ref h0, .int 1] (wP D cI cL B sz [(h0, .inr (12, [.int 0, .int 1, .int 1, .ref q562, .ref q571, .ref q574, .ref q577, .ref q580, .ref q583, .ref q586, .int 0, .int (-1), .int 0, .int 0, .long 0, .ref q599, .ref q600, .ref q601, .ref q602])), (q586, .inr (18, [.int 0, .int 0, .int 0, .int 1, .int 1, .ref z589, .ref z590, .ref z591, .int 0, .ref z592, .int (-1), .int 0, .ref z593, .ref z594, .int (-1), .int 0, .ref z595, .int (-1), .int 15, .ref z596, .ref z597, .ref z598])), (z589, .inl (cI, 65536, .inl (fun _ => 0))), (z590, .inl (cI, 16384, .inl (fun _ => 0))), (z591, .inl (cI, 16384, .inl (fun _ => 0)))])) (va_Qi (S := Unit) (fun r u => r = 0) (fun u => wB D cI cL (va_A [(h0, .inr (12, [.int 0, .int 1, .int 1, .ref q562, .ref q571, .ref q574, .ref q577, .ref q580, .ref q583, .ref q586, .int 0, .int (-1), .int 0, .int 0, .long 0, .ref q599, .ref q600, .ref q601, .ref q602])), (q586, .inr (18, [.int 0, .int 0, .int 0, .int 1, .int 1, .ref z589, .ref z590, .ref z591, .int 0, .ref z592, .int (-1), .int 0, .ref z593, .ref z594, .int (-1), .int 0, .ref z595, .int (-1), .int 15, .ref z596, .ref z597, .ref z598])), (z589, .inl (cI, 65536, .inl (fun _ => 0))), (z590, .inl (cI, 16384, .inl (fun _ => 0))), (z591, .inl (cI, 16384, .inl (fun _ => 0)))] sz) ((fun _ : Unit => [(h0, .inr (12, [.int 0, .int 1, .int 1, .ref q562, .ref q571, .ref q574, .ref q577, .ref q580, .ref q583, .ref q586, .int 0, .int (-1), .int 0, .int 0, .long 0, .ref q599, .ref q600, .ref q601, .ref q602]))]) u)) (va_A [(h0, .inr (12, [.int 0, .int 1, .int 1, .ref q562, .ref q571, .ref q574, .ref q577, .ref q580, .ref q583, .ref q586, .int 0, .int (-1), .int 0, .int 0, .long 0, .ref q599, .ref q600, .ref q601, .ref q602])), (q586, .inr (18, [.int 0, .int 0, .int 0, .int 1, .int 1, .ref z589, .ref z590, .ref z591, .int 0, .ref z592, .int (-1), .int 0, .ref z593, .ref z594, .int (-1), .int 0, .ref z595, .int (-1), .int 15, .ref z596, .ref z597, .ref z598])), (z589, .inl (cI, 65536, .inl (fun _ => 0))), (z590, .inl (cI, 16384, .inl (fun _ => 0))), (z591, .inl (cI, 16384, .inl (fun _ => 0)))] sz)) 0 0 (va_A [(h0, .inr (12, [.int 0, .int 1, .int 1, .ref q562, .ref q571, .ref q574, .ref q577, .ref q580, .ref q583, .ref q586, .int 0, .int (-1), .int 0, .int 0, .long 0, .ref q599, .ref q600, .ref q601, .ref q602])), (q586, .inr (18, [.int 0, .int 0, .int 0, .int 1, .int 1, .ref z589, .ref z590, .ref z591, .int 0, .ref z592, .int (-1), .int 0, .ref z593, .ref z594, .int (-1), .int 0, .ref z595, .int (-1), .int 15, .ref z596, .ref z597, .ref z598])), (z589, .inl (cI, 65536, .inl (fun _ => 0))), (z590, .inl (cI, 16384, .inl (fun _ => 0))), (z591, .inl (cI, 16384, .inl (fun _ => 0)))] sz) := by
  refine Met.ofW (cc := prog_14_method_30_code) (maxL := 2) (ret := (some .int)) (by decide) rfl ?_
  intro p e s m args below meth c s₁ B0 hml hv
  obtain ⟨rfl, hv⟩ := hv
  have hx := B0.exec
  have hb := B0.bytes
  have hr := B0.returns
  have hts := atoms_spec (ws := (Cond.code y_Mod_sum prog_14_method_30_code 2 (some .int)) :: tw) B0.pre
  have htw : ∀ w ∈ tw, w.before _ s = true := fun w hw => hts w (List.mem_cons_of_mem _ hw)
  have hown : s.vm.findClass "DrawingMachineModel" = some m.cls := findClass_of_methodNamed B0.named
  have hlocks := B0.notSynchronized
  obtain ⟨hC, hP, hD, hsz⟩ := wC_init hv
  subst hsz
  generalize hAe : va_A [(h0, .inr (12, [.int 0, .int 1, .int 1, .ref q562, .ref q571, .ref q574, .ref q577, .ref q580, .ref q583, .ref q586, .int 0, .int (-1), .int 0, .int 0, .long 0, .ref q599, .ref q600, .ref q601, .ref q602])), (q586, .inr (18, [.int 0, .int 0, .int 0, .int 1, .int 1, .ref z589, .ref z590, .ref z591, .int 0, .ref z592, .int (-1), .int 0, .ref z593, .ref z594, .int (-1), .int 0, .ref z595, .int (-1), .int 15, .ref z596, .ref z597, .ref z598])), (z589, .inl (cI, 65536, .inl (fun _ => 0))), (z590, .inl (cI, 16384, .inl (fun _ => 0))), (z591, .inl (cI, 16384, .inl (fun _ => 0)))] s.heap.size = A at hC hD ⊢
  have hS : va_S A s.heap s.heap [] := va_S.rf
  have hl := lv_entry ([.ref h0, .int 1]) (n := 2) (Nat.le_of_ble_eq_true rfl)
  rw [lg_entry_eq]
  generalize (lg_sl ([.ref h0, .int 1]) ++ List.replicate (2 - (lg_sl ([.ref h0, .int 1])).length) Slot.unset).toArray = ls at hl ⊢
  have hl : lv_has ls 2 [(0, .ref h0), (1, .int 1)] := hl
  refine lv_aload_n hx hb d_Mod_sum_0 rfl (lv_at hl 0 rfl) ?_
  refine lv_iload_n hx hb d_Mod_sum_1 rfl (lv_at hl 1 rfl) ?_
  refine lv_i2l (v := 1) hx hb d_Mod_sum_2 (by decide) ?_
  refine lv_lconst (v := 0) hx hb d_Mod_sum_3 (by decide) ?_
  refine lv_ldc2 (v := 2) hx hb hown (htw _ k690) d_Mod_sum_4 ?_
  refine wc_i (wr := [(h0, .inr (12, [.int 0, .int 1, .int 1, .ref q562, .ref q571, .ref q574, .ref q577, .ref q580, .ref q583, .ref q586, .int 0, .int (-1), .int 0, .int 0, .long 0, .ref q599, .ref q600, .ref q601, .ref q602])), (q586, .inr (18, [.int 0, .int 0, .int 0, .int 1, .int 1, .ref z589, .ref z590, .ref z591, .int 0, .ref z592, .int (-1), .int 0, .ref z593, .ref z594, .int (-1), .int 0, .ref z595, .int (-1), .int 15, .ref z596, .ref z597, .ref z598])), (z589, .inl (cI, 65536, .inl (fun _ => 0))), (z590, .inl (cI, 16384, .inl (fun _ => 0))), (z591, .inl (cI, 16384, .inl (fun _ => 0)))]) hC hP hD hS [] [0, 1, 2, 3, 4] rfl rfl (by decide) (by decide) (va_runS (As := [.long 1, .long 0, .long 2]) (rest := [.ref h0]) ⟨hx, hb, hml, hown, htw⟩ (c_Mod_in_t l D cI cL B _ 1 0 2 (by decide) (by decide)) (va_cwS 3 htw gS_Mod_90 rfl rfl rfl (by decide +kernel) ⟨Nat.le_of_ble_eq_true rfl, Nat.le_of_ble_eq_true rfl⟩) (wC_pre hC hP hD hS [] (by decide) rfl) rfl rfl hl.1 rfl (lv_room (Nat.le_of_ble_eq_true rfl)) d_Mod_sum_7 ⟨Nat.le_of_ble_eq_true rfl, Nat.le_of_ble_eq_true rfl⟩) (fun r1106 u1104 H locs hw1105 hP hD hS => ?_)
  obtain rfl : r1106 = 1 := hw1105
  have hP : va_P D classes [(h0, .inr (12, [.int 0, .int 1, .int 1, .ref q562, .ref q571, .ref q574, .ref q577, .ref q580, .ref q583, .ref q586, .int 0, .int (-1), .int 0, .int 0, .long 0, .ref q599, .ref q600, .ref q601, .ref q602])), (q586, .inr (18, [.int 0, .int 0, .int 0, .int 1, .int 1, .ref z589, .ref z590, .ref z591, .int 0, .ref z592, .int (-1), .int 0, .ref z593, .ref z594, .int (-1), .int 0, .ref z595, .int (-1), .int 15, .ref z596, .ref z597, .ref z598])), (z589, .inl (cI, 65536, .inl (fun _ => 0))), (z590, .inl (cI, 16384, .inl (fun _ => 0))), (z591, .inl (cI, 16384, .inl (fun _ => 0)))] H := hP
  have hD : va_D A [(h0, .inr (12, [.int 0, .int 1, .int 1, .ref q562, .ref q571, .ref q574, .ref q577, .ref q580, .ref q583, .ref q586, .int 0, .int (-1), .int 0, .int 0, .long 0, .ref q599, .ref q600, .ref q601, .ref q602])), (q586, .inr (18, [.int 0, .int 0, .int 0, .int 1, .int 1, .ref z589, .ref z590, .ref z591, .int 0, .ref z592, .int (-1), .int 0, .ref z593, .ref z594, .int (-1), .int 0, .ref z595, .int (-1), .int 15, .ref z596, .ref z597, .ref z598])), (z589, .inl (cI, 65536, .inl (fun _ => 0))), (z590, .inl (cI, 16384, .inl (fun _ => 0))), (z591, .inl (cI, 16384, .inl (fun _ => 0)))] := hD
  refine W.widen (k := 0) (n := 0) (by omega) (by omega) ?_
  refine lv_if_ne (tgt := 17) hx hb d_Mod_sum_10 (by decide) (fun c_1107 => ?_) (fun c_1107 => absurd c_1107 (by decide))
  refine lv_iconst (v := 0) hx hb d_Mod_sum_17 (by decide) ?_
  refine lv_iconst (v := 0) hx hb d_Mod_sum_18 (by decide) ?_
  refine wc_i (wr := [(q586, .inr (18, [.int 0, .int 0, .int 0, .int 1, .int 1, .ref z589, .ref z590, .ref z591, .int 0, .ref z592, .int (-1), .int 0, .ref z593, .ref z594, .int (-1), .int 0, .ref z595, .int (-1), .int 15, .ref z596, .ref z597, .ref z598])), (z589, .inl (cI, 65536, .inl (fun _ => 0))), (z590, .inl (cI, 16384, .inl (fun _ => 0))), (z591, .inl (cI, 16384, .inl (fun _ => 0)))]) hC hP hD hS [0] [1, 2, 3, 4] rfl rfl (by decide) (by decide) (va_runV (As := [.int 0, .int 0]) (rest := []) ⟨hx, hb, hml, hown, htw⟩ (c_Mref_00 l D cI cL B _ h0 q562 q571 q574 q577 q580 q583 q586 q599 q600 q601 q602) (cwV 2 htw gV_Mod_94 rfl rfl rfl (by decide +kernel) ⟨Nat.le_of_ble_eq_true rfl, Nat.le_of_ble_eq_true rfl⟩) (wC_preV (As := [.int 0, .int 0]) hC hP hD hS [0] (by decide) rfl (q0 := 0) rfl rfl) rfl rfl hl.1 rfl (lv_room (Nat.le_of_ble_eq_true rfl)) d_Mod_sum_19 ⟨Nat.le_of_ble_eq_true rfl, Nat.le_of_ble_eq_true rfl⟩) (fun r1110 u1108 H locs hw1109 hP hD hS => ?_)
  obtain rfl : r1110 = 0 := hw1109
  have hP : va_P D classes [(q586, .inr (18, [.int 0, .int 0, .int 0, .int 1, .int 1, .ref z589, .ref z590, .ref z591, .int 0, .ref z592, .int (-1), .int 0, .ref z593, .ref z594, .int (-1), .int 0, .ref z595, .int (-1), .int 15, .ref z596, .ref z597, .ref z598])), (z589, .inl (cI, 65536, .inl (fun _ => 0))), (z590, .inl (cI, 16384, .inl (fun _ => 0))), (z591, .inl (cI, 16384, .inl (fun _ => 0))), (h0, .inr (12, [.int 0, .int 1, .int 1, .ref q562, .ref q571, .ref q574, .ref q577, .ref q580, .ref q583, .ref q586, .int 0, .int (-1), .int 0, .int 0, .long 0, .ref q599, .ref q600, .ref q601, .ref q602]))] H := hP
  have hD : va_D A [(q586, .inr (18, [.int 0, .int 0, .int 0, .int 1, .int 1, .ref z589, .ref z590, .ref z591, .int 0, .ref z592, .int (-1), .int 0, .ref z593, .ref z594, .int (-1), .int 0, .ref z595, .int (-1), .int 15, .ref z596, .ref z597, .ref z598])), (z589, .inl (cI, 65536, .inl (fun _ => 0))), (z590, .inl (cI, 16384, .inl (fun _ => 0))), (z591, .inl (cI, 16384, .inl (fun _ => 0))), (h0, .inr (12, [.int 0, .int 1, .int 1, .ref q562, .ref q571, .ref q574, .ref q577, .ref q580, .ref q583, .ref q586, .int 0, .int (-1), .int 0, .int 0, .long 0, .ref q599, .ref q600, .ref q601, .ref q602]))] := hD
  refine W.widen (k := 0) (n := 0) (by omega) (by omega) ?_
  refine lv_if_eq (tgt := 27) hx hb d_Mod_sum_22 (by decide) (fun c_1111 => ?_) (fun c_1111 => absurd c_1111 (by decide))
  refine lv_aload_n hx hb d_Mod_sum_27 rfl (lv_at hl 0 rfl) ?_
  refine va_get (D := D) (ci := 12) (v := .ref q586) (C := R_Mod) (T := F_Mod) (N := 19) hx hb htw i_Mod hown hC.1 hP 4 rfl rfl 9 (by decide) (htw _ k547) (fun _ h9 => h9) rfl d_Mod_sum_28 ?_
  refine lv_iload_n hx hb d_Mod_sum_31 rfl (lv_at hl 1 rfl) ?_
  refine wc_i (wr := [(h0, .inr (12, [.int 0, .int 1, .int 1, .ref q562, .ref q571, .ref q574, .ref q577, .ref q580, .ref q583, .ref q586, .int 0, .int (-1), .int 0, .int 0, .long 0, .ref q599, .ref q600, .ref q601, .ref q602]))]) hC hP hD hS [0, 1, 2, 3] [4] rfl rfl (by decide) (by decide) (va_runV (As := [.int 1]) (rest := []) ⟨hx, hb, hml, hown, htw⟩ (c_Psum_1 l D cI cL B _ q586 z589 z590 z591 z592 z593 z594 z595 z596 z597 z598) (cwV 1 htw gV_Mod_369 rfl rfl rfl (by decide +kernel) ⟨Nat.le_of_ble_eq_true rfl, Nat.le_of_ble_eq_true rfl⟩) (wC_preV (As := [.int 1]) hC hP hD hS [0, 1, 2, 3] (by decide) rfl (q0 := 0) rfl rfl) rfl rfl hl.1 rfl (lv_room (Nat.le_of_ble_eq_true rfl)) d_Mod_sum_32 ⟨Nat.le_of_ble_eq_true rfl, Nat.le_of_ble_eq_true rfl⟩) (fun r1114 u1112 H locs hw1113 hP hD hS => ?_)
  obtain rfl : r1114 = 0 := hw1113
  have hP : va_P D classes [(h0, .inr (12, [.int 0, .int 1, .int 1, .ref q562, .ref q571, .ref q574, .ref q577, .ref q580, .ref q583, .ref q586, .int 0, .int (-1), .int 0, .int 0, .long 0, .ref q599, .ref q600, .ref q601, .ref q602]))] H := hP
  have hD : va_D A [(h0, .inr (12, [.int 0, .int 1, .int 1, .ref q562, .ref q571, .ref q574, .ref q577, .ref q580, .ref q583, .ref q586, .int 0, .int (-1), .int 0, .int 0, .long 0, .ref q599, .ref q600, .ref q601, .ref q602]))] := hD
  refine W.widen (k := 0) (n := 0) (by omega) (by omega) ?_
  refine W.widen (k := 0) (n := 0) (Nat.le_of_ble_eq_true rfl) (Nat.le_of_ble_eq_true rfl) ?_
  have hP9 := hP.sub (ws' := [(h0, .inr (12, [.int 0, .int 1, .int 1, .ref q562, .ref q571, .ref q574, .ref q577, .ref q580, .ref q583, .ref q586, .int 0, .int (-1), .int 0, .int 0, .long 0, .ref q599, .ref q600, .ref q601, .ref q602]))]) [0] rfl
  have hD9 := hD.sub (ws' := [(h0, .inr (12, [.int 0, .int 1, .int 1, .ref q562, .ref q571, .ref q574, .ref q577, .ref q580, .ref q583, .ref q586, .int 0, .int (-1), .int 0, .int 0, .long 0, .ref q599, .ref q600, .ref q601, .ref q602]))]) [0] (by decide) rfl
  exact W.iret (v := 0) hx hb hr (fun t ht hW => ⟨⟨0, (), rfl, rfl, by rw [ht]; exact hP9, va_K.moved hW.alike hC.1, hD9⟩, hS.F ht⟩) hS.2.2 d_Mod_sum_35

theorem d_Ptm_show_18 : decode prog_17_method_27_code 18 = .ok (.aload_n 0, 1) := by decide +kernel
theorem d_Ptm_show_19 : decode prog_17_method_27_code 19 = .ok (.getfield 24, 3) := by decide +kernel
theorem d_Ptm_show_22 : decode prog_17_method_27_code 22 = .ok (.iload_n 1, 1) := by decide +kernel
theorem d_Ptm_show_23 : decode prog_17_method_27_code 23 = .ok (.iaload, 1) := by decide +kernel
set_option maxHeartbeats 4000000 in
set_option maxRecDepth 100000 in
theorem c_Pshow_2 (l : Launch) (D : va_G) (cI cL : ClassId) (B sz : Nat) (q586 : Nat) (z589 : Nat) (z590 : Nat) (z591 : Nat) (z592 : Nat) (z593 : Nat) (z594 : Nat) (z595 : Nat) (z596 : Nat) (z597 : Nat) (z598 : Nat) : Met l y_Ptm_show ((Cond.code y_Ptm_show prog_17_method_27_code 5 (some .int)) :: tw) ({ frames := 20, cells := 0, slots := 0, locals := 2000 }) (va_Pc [.ref q586, .int 0, .int 2] (wP D cI cL B sz [(q586, .inr (18, [.int 0, .int 0, .int 0, .int 1, .int 1, .ref z589, .ref z590, .ref z591, .int 0, .ref z592, .int (-1), .int 0, .ref z593, .ref z594, .int (-1), .int 0, .ref z595, .int (-1), .int 15, .ref z596, .ref z597, .ref z598])), (z589, .inl (cI, 65536, .inl (fun _ => 0))), (z590, .inl (cI, 16384, .inl (fun _ => 0))), (z591, .inl (cI, 16384, .inl (fun _ => 0)))])) (va_Qi (S := Unit) (fun r u => r = 0) (fun u => wB D cI cL (va_A [(q586, .inr (18, [.int 0, .int 0, .int 0, .int 1, .int 1, .ref z589, .ref z590, .ref z591, .int 0, .ref z592, .int (-1), .int 0, .ref z593, .ref z594, .int (-1), .int 0, .ref z595, .int (-1), .int 15, .ref z596, .ref z597, .ref z598])), (z589, .inl (cI, 65536, .inl (fun _ => 0))), (z590, .inl (cI, 16384, .inl (fun _ => 0))), (z591, .inl (cI, 16384, .inl (fun _ => 0)))] sz) ((fun _ : Unit => [(q586, .inr (18, [.int 0, .int 0, .int 0, .int 1, .int 1, .ref z589, .ref z590, .ref z591, .int 0, .ref z592, .int (-1), .int 0, .ref z593, .ref z594, .int (-1), .int 0, .ref z595, .int (-1), .int 15, .ref z596, .ref z597, .ref z598])), (z589, .inl (cI, 65536, .inl (fun _ => 0))), (z590, .inl (cI, 16384, .inl (fun _ => 0))), (z591, .inl (cI, 16384, .inl (fun _ => 0)))]) u)) (va_A [(q586, .inr (18, [.int 0, .int 0, .int 0, .int 1, .int 1, .ref z589, .ref z590, .ref z591, .int 0, .ref z592, .int (-1), .int 0, .ref z593, .ref z594, .int (-1), .int 0, .ref z595, .int (-1), .int 15, .ref z596, .ref z597, .ref z598])), (z589, .inl (cI, 65536, .inl (fun _ => 0))), (z590, .inl (cI, 16384, .inl (fun _ => 0))), (z591, .inl (cI, 16384, .inl (fun _ => 0)))] sz)) 0 0 (va_A [(q586, .inr (18, [.int 0, .int 0, .int 0, .int 1, .int 1, .ref z589, .ref z590, .ref z591, .int 0, .ref z592, .int (-1), .int 0, .ref z593, .ref z594, .int (-1), .int 0, .ref z595, .int (-1), .int 15, .ref z596, .ref z597, .ref z598])), (z589, .inl (cI, 65536, .inl (fun _ => 0))), (z590, .inl (cI, 16384, .inl (fun _ => 0))), (z591, .inl (cI, 16384, .inl (fun _ => 0)))] sz) := by
  refine Met.ofW (cc := prog_17_method_27_code) (maxL := 5) (ret := (some .int)) (by decide) rfl ?_
  intro p e s m args below meth c s₁ B0 hml hv
  obtain ⟨rfl, hv⟩ := hv
  have hx := B0.exec
  have hb := B0.bytes
  have hr := B0.returns
  have hts := atoms_spec (ws := (Cond.code y_Ptm_show prog_17_method_27_code 5 (some .int)) :: tw) B0.pre
  have htw : ∀ w ∈ tw, w.before _ s = true := fun w hw => hts w (List.mem_cons_of_mem _ hw)
  have hown : s.vm.findClass "DrawingMachineModel$PlaceTestsModel" = some m.cls := findClass_of_methodNamed B0.named
  have hlocks := B0.notSynchronized
  obtain ⟨hC, hP, hD, hsz⟩ := wC_init hv
  subst hsz
  generalize hAe : va_A [(q586, .inr (18, [.int 0, .int 0, .int 0, .int 1, .int 1, .ref z589, .ref z590, .ref z591, .int 0, .ref z592, .int (-1), .int 0, .ref z593, .ref z594, .int (-1), .int 0, .ref z595, .int (-1), .int 15, .ref z596, .ref z597, .ref z598])), (z589, .inl (cI, 65536, .inl (fun _ => 0))), (z590, .inl (cI, 16384, .inl (fun _ => 0))), (z591, .inl (cI, 16384, .inl (fun _ => 0)))] s.heap.size = A at hC hD ⊢
  have hS : va_S A s.heap s.heap [] := va_S.rf
  have hl := lv_entry ([.ref q586, .int 0, .int 2]) (n := 5) (Nat.le_of_ble_eq_true rfl)
  rw [lg_entry_eq]
  generalize (lg_sl ([.ref q586, .int 0, .int 2]) ++ List.replicate (5 - (lg_sl ([.ref q586, .int 0, .int 2])).length) Slot.unset).toArray = ls at hl ⊢
  have hl : lv_has ls 5 [(0, .ref q586), (1, .int 0), (2, .int 2)] := hl
  refine lv_iload_n hx hb d_Ptm_show_0 rfl (lv_at hl 2 rfl) ?_
  refine lv_if_le (tgt := 25) hx hb d_Ptm_show_1 (by decide) (fun c_1115 => absurd c_1115 (by decide)) (fun c_1115 => ?_)
  refine lv_iload_n hx hb d_Ptm_show_4 rfl (lv_at hl 2 rfl) ?_
  refine lv_iconst (v := 1) hx hb d_Ptm_show_5 (by decide) ?_
  refine lv_icmp_ne (tgt := 18) hx hb d_Ptm_show_6 (by decide) (fun c_1116 => ?_) (fun c_1116 => absurd c_1116 (by decide))
  refine lv_aload_n hx hb d_Ptm_show_18 rfl (lv_at hl 0 rfl) ?_
  refine va_get (D := D) (ci := 18) (v := .ref z591) (C := R_Ptm) (T := F_Ptm) (N := 22) hx hb htw i_Ptm hown hC.1 hP 0 rfl rfl 7 (by decide) (htw _ k613) (fun _ h9 => h9) rfl d_Ptm_show_19 ?_
  refine lv_iload_n hx hb d_Ptm_show_22 rfl (lv_at hl 1 rfl) ?_
  refine va_iald hx hb hC.1 hP 3 0 rfl rfl (by unfold vp_in; decide) d_Ptm_show_23 ?_
  refine wi_c (v := 0) rfl ?_
  refine W.widen (k := 0) (n := 0) (Nat.le_of_ble_eq_true rfl) (Nat.le_of_ble_eq_true rfl) ?_
  have hP9 := hP.sub (ws' := [(q586, .inr (18, [.int 0, .int 0, .int 0, .int 1, .int 1, .ref z589, .ref z590, .ref z591, .int 0, .ref z592, .int (-1), .int 0, .ref z593, .ref z594, .int (-1), .int 0, .ref z595, .int (-1), .int 15, .ref z596, .ref z597, .ref z598])), (z589, .inl (cI, 65536, .inl (fun _ => 0))), (z590, .inl (cI, 16384, .inl (fun _ => 0))), (z591, .inl (cI, 16384, .inl (fun _ => 0)))]) [0, 1, 2, 3] rfl
  have hD9 := hD.sub (ws' := [(q586, .inr (18, [.int 0, .int 0, .int 0, .int 1, .int 1, .ref z589, .ref z590, .ref z591, .int 0, .ref z592, .int (-1), .int 0, .ref z593, .ref z594, .int (-1), .int 0, .ref z595, .int (-1), .int 15, .ref z596, .ref z597, .ref z598])), (z589, .inl (cI, 65536, .inl (fun _ => 0))), (z590, .inl (cI, 16384, .inl (fun _ => 0))), (z591, .inl (cI, 16384, .inl (fun _ => 0)))]) [0, 1, 2, 3] (by decide) rfl
  exact W.iret (v := 0) hx hb hr (fun t ht hW => ⟨⟨0, (), rfl, rfl, by rw [ht]; exact hP9, va_K.moved hW.alike hC.1, hD9⟩, hS.F ht⟩) hS.2.2 d_Ptm_show_24

set_option maxHeartbeats 4000000 in
set_option maxRecDepth 100000 in
theorem c_Psum_2 (l : Launch) (D : va_G) (cI cL : ClassId) (B sz : Nat) (q586 : Nat) (z589 : Nat) (z590 : Nat) (z591 : Nat) (z592 : Nat) (z593 : Nat) (z594 : Nat) (z595 : Nat) (z596 : Nat) (z597 : Nat) (z598 : Nat) : Met l y_Ptm_sum ((Cond.code y_Ptm_sum prog_17_method_30_code 4 (some .int)) :: tw) ({ frames := 30, cells := 0, slots := 0, locals := 3000 }) (va_Pc [.ref q586, .int 2] (wP D cI cL B sz [(q586, .inr (18, [.int 0, .int 0, .int 0, .int 1, .int 1, .ref z589, .ref z590, .ref z591, .int 0, .ref z592, .int (-1), .int 0, .ref z593, .ref z594, .int (-1), .int 0, .ref z595, .int (-1), .int 15, .ref z596, .ref z597, .ref z598])), (z589, .inl (cI, 65536, .inl (fun _ => 0))), (z590, .inl (cI, 16384, .inl (fun _ => 0))), (z591, .inl (cI, 16384, .inl (fun _ => 0)))])) (va_Qi (S := Unit) (fun r u => r = 0) (fun u => wB D cI cL (va_A [(q586, .inr (18, [.int 0, .int 0, .int 0, .int 1, .int 1, .ref z589, .ref z590, .ref z591, .int 0, .ref z592, .int (-1), .int 0, .ref z593, .ref z594, .int (-1), .int 0, .ref z595, .int (-1), .int 15, .ref z596, .ref z597, .ref z598])), (z589, .inl (cI, 65536, .inl (fun _ => 0))), (z590, .inl (cI, 16384, .inl (fun _ => 0))), (z591, .inl (cI, 16384, .inl (fun _ => 0)))] sz) ((fun _ : Unit => []) u)) (va_A [(q586, .inr (18, [.int 0, .int 0, .int 0, .int 1, .int 1, .ref z589, .ref z590, .ref z591, .int 0, .ref z592, .int (-1), .int 0, .ref z593, .ref z594, .int (-1), .int 0, .ref z595, .int (-1), .int 15, .ref z596, .ref z597, .ref z598])), (z589, .inl (cI, 65536, .inl (fun _ => 0))), (z590, .inl (cI, 16384, .inl (fun _ => 0))), (z591, .inl (cI, 16384, .inl (fun _ => 0)))] sz)) 0 0 (va_A [(q586, .inr (18, [.int 0, .int 0, .int 0, .int 1, .int 1, .ref z589, .ref z590, .ref z591, .int 0, .ref z592, .int (-1), .int 0, .ref z593, .ref z594, .int (-1), .int 0, .ref z595, .int (-1), .int 15, .ref z596, .ref z597, .ref z598])), (z589, .inl (cI, 65536, .inl (fun _ => 0))), (z590, .inl (cI, 16384, .inl (fun _ => 0))), (z591, .inl (cI, 16384, .inl (fun _ => 0)))] sz) := by
  refine Met.ofW (cc := prog_17_method_30_code) (maxL := 4) (ret := (some .int)) (by decide) rfl ?_
  intro p e s m args below meth c s₁ B0 hml hv
  obtain ⟨rfl, hv⟩ := hv
  have hx := B0.exec
  have hb := B0.bytes
  have hr := B0.returns
  have hts := atoms_spec (ws := (Cond.code y_Ptm_sum prog_17_method_30_code 4 (some .int)) :: tw) B0.pre
  have htw : ∀ w ∈ tw, w.before _ s = true := fun w hw => hts w (List.mem_cons_of_mem _ hw)
  have hown : s.vm.findClass "DrawingMachineModel$PlaceTestsModel" = some m.cls := findClass_of_methodNamed B0.named
  have hlocks := B0.notSynchronized
  obtain ⟨hC, hP, hD, hsz⟩ := wC_init hv
  subst hsz
  generalize hAe : va_A [(q586, .inr (18, [.int 0, .int 0, .int 0, .int 1, .int 1, .ref z589, .ref z590, .ref z591, .int 0, .ref z592, .int (-1), .int 0, .ref z593, .ref z594, .int (-1), .int 0, .ref z595, .int (-1), .int 15, .ref z596, .ref z597, .ref z598])), (z589, .inl (cI, 65536, .inl (fun _ => 0))), (z590, .inl (cI, 16384, .inl (fun _ => 0))), (z591, .inl (cI, 16384, .inl (fun _ => 0)))] s.heap.size = A at hC hD ⊢
  have hS : va_S A s.heap s.heap [] := va_S.rf
  have hl := lv_entry ([.ref q586, .int 2]) (n := 4) (Nat.le_of_ble_eq_true rfl)
  rw [lg_entry_eq]
  generalize (lg_sl ([.ref q586, .int 2]) ++ List.replicate (4 - (lg_sl ([.ref q586, .int 2])).length) Slot.unset).toArray = ls at hl ⊢
  have hl : lv_has ls 4 [(0, .ref q586), (1, .int 2)] := hl
  refine lv_aload_n hx hb d_Ptm_sum_0 rfl (lv_at hl 0 rfl) ?_
  refine lv_iload_n hx hb d_Ptm_sum_1 rfl (lv_at hl 1 rfl) ?_
  refine lv_iconst (v := 0) hx hb d_Ptm_sum_2 (by decide) ?_
  refine lv_iconst (v := 2) hx hb d_Ptm_sum_3 (by decide) ?_
  refine wc_i (wr := [(q586, .inr (18, [.int 0, .int 0, .int 0, .int 1, .int 1, .ref z589, .ref z590, .ref z591, .int 0, .ref z592, .int (-1), .int 0, .ref z593, .ref z594, .int (-1), .int 0, .ref z595, .int (-1), .int 15, .ref z596, .ref z597, .ref z598])), (z589, .inl (cI, 65536, .inl (fun _ => 0))), (z590, .inl (cI, 16384, .inl (fun _ => 0))), (z591, .inl (cI, 16384, .inl (fun _ => 0)))]) hC hP hD hS [] [0, 1, 2, 3] rfl rfl (by decide) (by decide) (va_runS (As := [.int 2, .int 0, .int 2]) (rest := [.ref q586]) ⟨hx, hb, hml, hown, htw⟩ (c_Ptm_in_t l D cI cL B _ 2 0 2 (by decide) (by decide)) (va_cwS 3 htw gS_Ptm_63 rfl rfl rfl (by decide +kernel) ⟨Nat.le_of_ble_eq_true rfl, Nat.le_of_ble_eq_true rfl⟩) (wC_pre hC hP hD hS [] (by decide) rfl) rfl rfl hl.1 rfl (lv_room (Nat.le_of_ble_eq_true rfl)) d_Ptm_sum_4 ⟨Nat.le_of_ble_eq_true rfl, Nat.le_of_ble_eq_true rfl⟩) (fun r1119 u1117 H locs hw1118 hP hD hS => ?_)
  obtain rfl : r1119 = 1 := hw1118
  have hP : va_P D classes [(q586, .inr (18, [.int 0, .int 0, .int 0, .int 1, .int 1, .ref z589, .ref z590, .ref z591, .int 0, .ref z592, .int (-1), .int 0, .ref z593, .ref z594, .int (-1), .int 0, .ref z595, .int (-1), .int 15, .ref z596, .ref z597, .ref z598])), (z589, .inl (cI, 65536, .inl (fun _ => 0))), (z590, .inl (cI, 16384, .inl (fun _ => 0))), (z591, .inl (cI, 16384, .inl (fun _ => 0)))] H := hP
  have hD : va_D A [(q586, .inr (18, [.int 0, .int 0, .int 0, .int 1, .int 1, .ref z589, .ref z590, .ref z591, .int 0, .ref z592, .int (-1), .int 0, .ref z593, .ref z594, .int (-1), .int 0, .ref z595, .int (-1), .int 15, .ref z596, .ref z597, .ref z598])), (z589, .inl (cI, 65536, .inl (fun _ => 0))), (z590, .inl (cI, 16384, .inl (fun _ => 0))), (z591, .inl (cI, 16384, .inl (fun _ => 0)))] := hD
  refine W.widen (k := 0) (n := 0) (by omega) (by omega) ?_
  refine lv_if_ne (tgt := 14) hx hb d_Ptm_sum_7 (by decide) (fun c_1120 => ?_) (fun c_1120 => absurd c_1120 (by decide))
  refine lv_iconst (v := 0) hx hb d_Ptm_sum_14 (by decide) ?_
  refine lv_iconst (v := 0) hx hb d_Ptm_sum_15 (by decide) ?_
  refine wc_i (wr := [(z589, .inl (cI, 65536, .inl (fun _ => 0))), (z590, .inl (cI, 16384, .inl (fun _ => 0))), (z591, .inl (cI, 16384, .inl (fun _ => 0)))]) hC hP hD hS [0] [1, 2, 3] rfl rfl (by decide) (by decide) (va_runV (As := [.int 0, .int 0]) (rest := []) ⟨hx, hb, hml, hown, htw⟩ (c_Pref_00 l D cI cL B _ q586 z589 z590 z591 z592 z593 z594 z595 z596 z597 z598) (cwV 2 htw gV_Ptm_67 rfl rfl rfl (by decide +kernel) ⟨Nat.le_of_ble_eq_true rfl, Nat.le_of_ble_eq_true rfl⟩) (wC_preV (As := [.int 0, .int 0]) hC hP hD hS [0] (by decide) rfl (q0 := 0) rfl rfl) rfl rfl hl.1 rfl (lv_room (Nat.le_of_ble_eq_true rfl)) d_Ptm_sum_16 ⟨Nat.le_of_ble_eq_true rfl, Nat.le_of_ble_eq_true rfl⟩) (fun r1123 u1121 H locs hw1122 hP hD hS => ?_)
  obtain rfl : r1123 = 0 := hw1122
  have hP : va_P D classes [(z589, .inl (cI, 65536, .inl (fun _ => 0))), (z590, .inl (cI, 16384, .inl (fun _ => 0))), (z591, .inl (cI, 16384, .inl (fun _ => 0))), (q586, .inr (18, [.int 0, .int 0, .int 0, .int 1, .int 1, .ref z589, .ref z590, .ref z591, .int 0, .ref z592, .int (-1), .int 0, .ref z593, .ref z594, .int (-1), .int 0, .ref z595, .int (-1), .int 15, .ref z596, .ref z597, .ref z598]))] H := hP
  have hD : va_D A [(z589, .inl (cI, 65536, .inl (fun _ => 0))), (z590, .inl (cI, 16384, .inl (fun _ => 0))), (z591, .inl (cI, 16384, .inl (fun _ => 0))), (q586, .inr (18, [.int 0, .int 0, .int 0, .int 1, .int 1, .ref z589, .ref z590, .ref z591, .int 0, .ref z592, .int (-1), .int 0, .ref z593, .ref z594, .int (-1), .int 0, .ref z595, .int (-1), .int 15, .ref z596, .ref z597, .ref z598]))] := hD
  refine W.widen (k := 0) (n := 0) (by omega) (by omega) ?_
  refine lv_if_eq (tgt := 24) hx hb d_Ptm_sum_19 (by decide) (fun c_1124 => ?_) (fun c_1124 => absurd c_1124 (by decide))
  refine lv_iconst (v := 0) hx hb d_Ptm_sum_24 (by decide) ?_
  refine lv_istore_n (lv' := [(2, .int 0), (0, .ref q586), (1, .int 2)]) hx hb d_Ptm_sum_25 rfl hl (by decide) rfl (fun ls hl => ?_)
  refine lv_iconst (v := 0) hx hb d_Ptm_sum_26 (by decide) ?_
  refine lv_istore_n (lv' := [(3, .int 0), (2, .int 0), (0, .ref q586), (1, .int 2)]) hx hb d_Ptm_sum_27 rfl hl (by decide) rfl (fun ls hl => ?_)
  refine lv_iload_n hx hb d_Ptm_sum_28 rfl (lv_at hl 0 rfl) ?_
  refine lv_aload_n hx hb d_Ptm_sum_29 rfl (lv_at hl 2 rfl) ?_
  refine va_get (D := D) (ci := 18) (v := .int 1) (C := R_Ptm) (T := F_Ptm) (N := 22) hx hb htw i_Ptm hown hC.1 hP 3 rfl rfl 3 (by decide) (htw _ k608) (fun _ h9 => h9) rfl d_Ptm_sum_30 ?_
  refine lv_aload_n hx hb d_Ptm_sum_33 rfl (lv_at hl 2 rfl) ?_
  refine va_get (D := D) (ci := 18) (v := .int 1) (C := R_Ptm) (T := F_Ptm) (N := 22) hx hb htw i_Ptm hown hC.1 hP 3 rfl rfl 4 (by decide) (htw _ k609) (fun _ h9 => h9) rfl d_Ptm_sum_34 ?_
  refine lv_imul hx hb d_Ptm_sum_37 ?_
  refine wi_c (v := 1) (by decide) ?_
  refine lv_icmp_ge (tgt := 59) hx hb d_Ptm_sum_38 (by decide) (fun c_1125 => absurd c_1125 (by decide)) (fun c_1125 => ?_)
  refine lv_bipush (v := 31) hx hb d_Ptm_sum_41 (by decide) ?_
  refine lv_iload_n hx hb d_Ptm_sum_43 rfl (lv_at hl 1 rfl) ?_
  refine lv_imul hx hb d_Ptm_sum_44 ?_
  refine wi_c (v := 0) (by decide) ?_
  refine lv_aload_n hx hb d_Ptm_sum_45 rfl (lv_at hl 2 rfl) ?_
  refine lv_iload_n hx hb d_Ptm_sum_46 rfl (lv_at hl 0 rfl) ?_
  refine lv_iload_n hx hb d_Ptm_sum_47 rfl (lv_at hl 3 rfl) ?_
  refine wc_i (wr := []) hC hP hD hS [3, 0, 1, 2] [] rfl rfl (by decide) (by decide) (va_runV (As := [.int 0, .int 2]) (rest := [.int 0]) ⟨hx, hb, hml, hown, htw⟩ (c_Pshow_2 l D cI cL B _ q586 z589 z590 z591 z592 z593 z594 z595 z596 z597 z598) (cwV 2 htw gV_Ptm_133 rfl rfl rfl (by decide +kernel) ⟨Nat.le_of_ble_eq_true rfl, Nat.le_of_ble_eq_true rfl⟩) (wC_preV (As := [.int 0, .int 2]) hC hP hD hS [3, 0, 1, 2] (by decide) rfl (q0 := 3) rfl rfl) rfl rfl hl.1 rfl (lv_room (Nat.le_of_ble_eq_true rfl)) d_Ptm_sum_48 ⟨Nat.le_of_ble_eq_true rfl, Nat.le_of_ble_eq_true rfl⟩) (fun r1128 u1126 H locs hw1127 hP hD hS => ?_)
  obtain rfl : r1128 = 0 := hw1127
  have hP : va_P D classes [(q586, .inr (18, [.int 0, .int 0, .int 0, .int 1, .int 1, .ref z589, .ref z590, .ref z591, .int 0, .ref z592, .int (-1), .int 0, .ref z593, .ref z594, .int (-1), .int 0, .ref z595, .int (-1), .int 15, .ref z596, .ref z597, .ref z598])), (z589, .inl (cI, 65536, .inl (fun _ => 0))), (z590, .inl (cI, 16384, .inl (fun _ => 0))), (z591, .inl (cI, 16384, .inl (fun _ => 0)))] H := hP
  have hD : va_D A [(q586, .inr (18, [.int 0, .int 0, .int 0, .int 1, .int 1, .ref z589, .ref z590, .ref z591, .int 0, .ref z592, .int (-1), .int 0, .ref z593, .ref z594, .int (-1), .int 0, .ref z595, .int (-1), .int 15, .ref z596, .ref z597, .ref z598])), (z589, .inl (cI, 65536, .inl (fun _ => 0))), (z590, .inl (cI, 16384, .inl (fun _ => 0))), (z591, .inl (cI, 16384, .inl (fun _ => 0)))] := hD
  refine W.widen (k := 0) (n := 0) (by omega) (by omega) ?_
  refine lv_iadd hx hb d_Ptm_sum_51 ?_
  refine wi_c (v := 0) (by decide) ?_
  refine lv_istore_n (lv' := [(2, .int 0), (3, .int 0), (0, .ref q586), (1, .int 2)]) hx hb d_Ptm_sum_52 rfl hl (by decide) rfl (fun ls hl => ?_)
  refine lv_iinc (v := 1) (lv' := [(3, .int 1), (2, .int 0), (0, .ref q586), (1, .int 2)]) hx hb d_Ptm_sum_53 hl (k := 1) rfl (by decide) (by decide) rfl (fun ls hl => ?_)
  refine lv_goto (tgt := 28) hx hb d_Ptm_sum_56 (by decide) ?_
  refine lv_iload_n hx hb d_Ptm_sum_28 rfl (lv_at hl 0 rfl) ?_
  refine lv_aload_n hx hb d_Ptm_sum_29 rfl (lv_at hl 2 rfl) ?_
  refine va_get (D := D) (ci := 18) (v := .int 1) (C := R_Ptm) (T := F_Ptm) (N := 22) hx hb htw i_Ptm hown hC.1 hP 0 rfl rfl 3 (by decide) (htw _ k608) (fun _ h9 => h9) rfl d_Ptm_sum_30 ?_
  refine lv_aload_n hx hb d_Ptm_sum_33 rfl (lv_at hl 2 rfl) ?_
  refine va_get (D := D) (ci := 18) (v := .int 1) (C := R_Ptm) (T := F_Ptm) (N := 22) hx hb htw i_Ptm hown hC.1 hP 0 rfl rfl 4 (by decide) (htw _ k609) (fun _ h9 => h9) rfl d_Ptm_sum_34 ?_
  refine lv_imul hx hb d_Ptm_sum_37 ?_
  refine wi_c (v := 1) (by decide) ?_
  refine lv_icmp_ge (tgt := 59) hx hb d_Ptm_sum_38 (by decide) (fun c_1129 => ?_) (fun c_1129 => absurd c_1129 (by decide))
  refine lv_iload_n hx hb d_Ptm_sum_59 rfl (lv_at hl 1 rfl) ?_
  refine W.widen (k := 0) (n := 0) (Nat.le_of_ble_eq_true rfl) (Nat.le_of_ble_eq_true rfl) ?_
  have hP9 := hP.sub (ws' := []) [] rfl
  have hD9 := hD.sub (ws' := []) [] (by decide) rfl
  exact W.iret (v := 0) hx hb hr (fun t ht hW => ⟨⟨0, (), rfl, rfl, by rw [ht]; exact hP9, va_K.moved hW.alike hC.1, hD9⟩, hS.F ht⟩) hS.2.2 d_Ptm_sum_60

set_option maxHeartbeats 4000000 in
set_option maxRecDepth 100000 in
theorem c_Mat_2 (l : Launch) (D : va_G) (cI cL : ClassId) (B sz : Nat) (h0 : Nat) (q562 : Nat) (q571 : Nat) (q574 : Nat) (q577 : Nat) (q580 : Nat) (q583 : Nat) (q586 : Nat) (z589 : Nat) (z590 : Nat) (z591 : Nat) (z592 : Nat) (z593 : Nat) (z594 : Nat) (z595 : Nat) (z596 : Nat) (z597 : Nat) (z598 : Nat) (q599 : Nat) (q600 : Nat) (q601 : Nat) (q602 : Nat) : Met l y_Mod_at ((Cond.code y_Mod_at prog_14_method_29_code 5 (some .int)) :: tw) ({ frames := 40, cells := 0, slots := 0, locals := 4000 }) (va_Pc [.ref h0, .int 0, .int 0, .int 2] (wP D cI cL B sz [(h0, .inr (12, [.int 0, .int 1, .int 1, .ref q562, .ref q571, .ref q574, .ref q577, .ref q580, .ref q583, .ref q586, .int 0, .int (-1), .int 0, .int 0, .long 0, .ref q599, .ref q600, .ref q601, .ref q602])), (q586, .inr (18, [.int 0, .int 0, .int 0, .int 1, .int 1, .ref z589, .ref z590, .ref z591, .int 0, .ref z592, .int (-1), .int 0, .ref z593, .ref z594, .int (-1), .int 0, .ref z595, .int (-1), .int 15, .ref z596, .ref z597, .ref z598])), (z589, .inl (cI, 65536, .inl (fun _ => 0))), (z590, .inl (cI, 16384, .inl (fun _ => 0))), (z591, .inl (cI, 16384, .inl (fun _ => 0)))])) (va_Qi (S := Unit) (fun r u => r = 0) (fun u => wB D cI cL (va_A [(h0, .inr (12, [.int 0, .int 1, .int 1, .ref q562, .ref q571, .ref q574, .ref q577, .ref q580, .ref q583, .ref q586, .int 0, .int (-1), .int 0, .int 0, .long 0, .ref q599, .ref q600, .ref q601, .ref q602])), (q586, .inr (18, [.int 0, .int 0, .int 0, .int 1, .int 1, .ref z589, .ref z590, .ref z591, .int 0, .ref z592, .int (-1), .int 0, .ref z593, .ref z594, .int (-1), .int 0, .ref z595, .int (-1), .int 15, .ref z596, .ref z597, .ref z598])), (z589, .inl (cI, 65536, .inl (fun _ => 0))), (z590, .inl (cI, 16384, .inl (fun _ => 0))), (z591, .inl (cI, 16384, .inl (fun _ => 0)))] sz) ((fun _ : Unit => [(h0, .inr (12, [.int 0, .int 1, .int 1, .ref q562, .ref q571, .ref q574, .ref q577, .ref q580, .ref q583, .ref q586, .int 0, .int (-1), .int 0, .int 0, .long 0, .ref q599, .ref q600, .ref q601, .ref q602]))]) u)) (va_A [(h0, .inr (12, [.int 0, .int 1, .int 1, .ref q562, .ref q571, .ref q574, .ref q577, .ref q580, .ref q583, .ref q586, .int 0, .int (-1), .int 0, .int 0, .long 0, .ref q599, .ref q600, .ref q601, .ref q602])), (q586, .inr (18, [.int 0, .int 0, .int 0, .int 1, .int 1, .ref z589, .ref z590, .ref z591, .int 0, .ref z592, .int (-1), .int 0, .ref z593, .ref z594, .int (-1), .int 0, .ref z595, .int (-1), .int 15, .ref z596, .ref z597, .ref z598])), (z589, .inl (cI, 65536, .inl (fun _ => 0))), (z590, .inl (cI, 16384, .inl (fun _ => 0))), (z591, .inl (cI, 16384, .inl (fun _ => 0)))] sz)) 0 0 (va_A [(h0, .inr (12, [.int 0, .int 1, .int 1, .ref q562, .ref q571, .ref q574, .ref q577, .ref q580, .ref q583, .ref q586, .int 0, .int (-1), .int 0, .int 0, .long 0, .ref q599, .ref q600, .ref q601, .ref q602])), (q586, .inr (18, [.int 0, .int 0, .int 0, .int 1, .int 1, .ref z589, .ref z590, .ref z591, .int 0, .ref z592, .int (-1), .int 0, .ref z593, .ref z594, .int (-1), .int 0, .ref z595, .int (-1), .int 15, .ref z596, .ref z597, .ref z598])), (z589, .inl (cI, 65536, .inl (fun _ => 0))), (z590, .inl (cI, 16384, .inl (fun _ => 0))), (z591, .inl (cI, 16384, .inl (fun _ => 0)))] sz) := by
  refine Met.ofW (cc := prog_14_method_29_code) (maxL := 5) (ret := (some .int)) (by decide) rfl ?_
  intro p e s m args below meth c s₁ B0 hml hv
  obtain ⟨rfl, hv⟩ := hv
  have hx := B0.exec
  have hb := B0.bytes
  have hr := B0.returns
  have hts := atoms_spec (ws := (Cond.code y_Mod_at prog_14_method_29_code 5 (some .int)) :: tw) B0.pre
  have htw : ∀ w ∈ tw, w.before _ s = true := fun w hw => hts w (List.mem_cons_of_mem _ hw)
  have hown : s.vm.findClass "DrawingMachineModel" = some m.cls := findClass_of_methodNamed B0.named
  have hlocks := B0.notSynchronized
  obtain ⟨hC, hP, hD, hsz⟩ := wC_init hv
  subst hsz
  generalize hAe : va_A [(h0, .inr (12, [.int 0, .int 1, .int 1, .ref q562, .ref q571, .ref q574, .ref q577, .ref q580, .ref q583, .ref q586, .int 0, .int (-1), .int 0, .int 0, .long 0, .ref q599, .ref q600, .ref q601, .ref q602])), (q586, .inr (18, [.int 0, .int 0, .int 0, .int 1, .int 1, .ref z589, .ref z590, .ref z591, .int 0, .ref z592, .int (-1), .int 0, .ref z593, .ref z594, .int (-1), .int 0, .ref z595, .int (-1), .int 15, .ref z596, .ref z597, .ref z598])), (z589, .inl (cI, 65536, .inl (fun _ => 0))), (z590, .inl (cI, 16384, .inl (fun _ => 0))), (z591, .inl (cI, 16384, .inl (fun _ => 0)))] s.heap.size = A at hC hD ⊢
  have hS : va_S A s.heap s.heap [] := va_S.rf
  have hl := lv_entry ([.ref h0, .int 0, .int 0, .int 2]) (n := 5) (Nat.le_of_ble_eq_true rfl)
  rw [lg_entry_eq]
  generalize (lg_sl ([.ref h0, .int 0, .int 0, .int 2]) ++ List.replicate (5 - (lg_sl ([.ref h0, .int 0, .int 0, .int 2])).length) Slot.unset).toArray = ls at hl ⊢
  have hl : lv_has ls 5 [(0, .ref h0), (1, .int 0), (2, .int 0), (3, .int 2)] := hl
  refine lv_iload_n hx hb d_Mod_at_0 rfl (lv_at hl 3 rfl) ?_
  refine lv_i2l (v := 2) hx hb d_Mod_at_1 (by decide) ?_
  refine lv_lconst (v := 0) hx hb d_Mod_at_2 (by decide) ?_
  refine lv_ldc2 (v := 2) hx hb hown (htw _ k690) d_Mod_at_3 ?_
  refine wc_i (wr := [(h0, .inr (12, [.int 0, .int 1, .int 1, .ref q562, .ref q571, .ref q574, .ref q577, .ref q580, .ref q583, .ref q586, .int 0, .int (-1), .int 0, .int 0, .long 0, .ref q599, .ref q600, .ref q601, .ref q602])), (q586, .inr (18, [.int 0, .int 0, .int 0, .int 1, .int 1, .ref z589, .ref z590, .ref z591, .int 0, .ref z592, .int (-1), .int 0, .ref z593, .ref z594, .int (-1), .int 0, .ref z595, .int (-1), .int 15, .ref z596, .ref z597, .ref z598])), (z589, .inl (cI, 65536, .inl (fun _ => 0))), (z590, .inl (cI, 16384, .inl (fun _ => 0))), (z591, .inl (cI, 16384, .inl (fun _ => 0)))]) hC hP hD hS [] [0, 1, 2, 3, 4] rfl rfl (by decide) (by decide) (va_runS (As := [.long 2, .long 0, .long 2]) (rest := []) ⟨hx, hb, hml, hown, htw⟩ (c_Mod_in_t l D cI cL B _ 2 0 2 (by decide) (by decide)) (va_cwS 3 htw gS_Mod_90 rfl rfl rfl (by decide +kernel) ⟨Nat.le_of_ble_eq_true rfl, Nat.le_of_ble_eq_true rfl⟩) (wC_pre hC hP hD hS [] (by decide) rfl) rfl rfl hl.1 rfl (lv_room (Nat.le_of_ble_eq_true rfl)) d_Mod_at_6 ⟨Nat.le_of_ble_eq_true rfl, Nat.le_of_ble_eq_true rfl⟩) (fun r1132 u1130 H locs hw1131 hP hD hS => ?_)
  obtain rfl : r1132 = 1 := hw1131
  have hP : va_P D classes [(h0, .inr (12, [.int 0, .int 1, .int 1, .ref q562, .ref q571, .ref q574, .ref q577, .ref q580, .ref q583, .ref q586, .int 0, .int (-1), .int 0, .int 0, .long 0, .ref q599, .ref q600, .ref q601, .ref q602])), (q586, .inr (18, [.int 0, .int 0, .int 0, .int 1, .int 1, .ref z589, .ref z590, .ref z591, .int 0, .ref z592, .int (-1), .int 0, .ref z593, .ref z594, .int (-1), .int 0, .ref z595, .int (-1), .int 15, .ref z596, .ref z597, .ref z598])), (z589, .inl (cI, 65536, .inl (fun _ => 0))), (z590, .inl (cI, 16384, .inl (fun _ => 0))), (z591, .inl (cI, 16384, .inl (fun _ => 0)))] H := hP
  have hD : va_D A [(h0, .inr (12, [.int 0, .int 1, .int 1, .ref q562, .ref q571, .ref q574, .ref q577, .ref q580, .ref q583, .ref q586, .int 0, .int (-1), .int 0, .int 0, .long 0, .ref q599, .ref q600, .ref q601, .ref q602])), (q586, .inr (18, [.int 0, .int 0, .int 0, .int 1, .int 1, .ref z589, .ref z590, .ref z591, .int 0, .ref z592, .int (-1), .int 0, .ref z593, .ref z594, .int (-1), .int 0, .ref z595, .int (-1), .int 15, .ref z596, .ref z597, .ref z598])), (z589, .inl (cI, 65536, .inl (fun _ => 0))), (z590, .inl (cI, 16384, .inl (fun _ => 0))), (z591, .inl (cI, 16384, .inl (fun _ => 0)))] := hD
  refine W.widen (k := 0) (n := 0) (by omega) (by omega) ?_
  refine lv_istore (lv' := [(4, .int 1), (0, .ref h0), (1, .int 0), (2, .int 0), (3, .int 2)]) hx hb d_Mod_at_9 hl (by decide) rfl (fun ls hl => ?_)
  refine lv_aload_n hx hb d_Mod_at_11 rfl (lv_at hl 1 rfl) ?_
  refine lv_iload hx hb d_Mod_at_12 (lv_at hl 0 rfl) ?_
  refine lv_if_ne (tgt := 21) hx hb d_Mod_at_14 (by decide) (fun c_1133 => ?_) (fun c_1133 => absurd c_1133 (by decide))
  refine lv_iconst (v := 0) hx hb d_Mod_at_21 (by decide) ?_
  refine lv_iload hx hb d_Mod_at_22 (lv_at hl 0 rfl) ?_
  refine lv_if_eq (tgt := 63) hx hb d_Mod_at_24 (by decide) (fun c_1134 => absurd c_1134 (by decide)) (fun c_1134 => ?_)
  refine lv_iload_n hx hb d_Mod_at_27 rfl (lv_at hl 2 rfl) ?_
  refine lv_i2l (v := 0) hx hb d_Mod_at_28 (by decide) ?_
  refine lv_lconst (v := 0) hx hb d_Mod_at_29 (by decide) ?_
  refine lv_aload_n hx hb d_Mod_at_30 rfl (lv_at hl 1 rfl) ?_
  refine va_get (D := D) (ci := 12) (v := .int 1) (C := R_Mod) (T := F_Mod) (N := 19) hx hb htw i_Mod hown hC.1 hP 0 rfl rfl 1 (by decide) (htw _ k515) (fun _ h9 => h9) rfl d_Mod_at_31 ?_
  refine lv_iconst (v := 1) hx hb d_Mod_at_34 (by decide) ?_
  refine lv_isub hx hb d_Mod_at_35 ?_
  refine wi_c (v := 0) (by decide) ?_
  refine lv_i2l (v := 0) hx hb d_Mod_at_36 (by decide) ?_
  refine wc_i (wr := [(h0, .inr (12, [.int 0, .int 1, .int 1, .ref q562, .ref q571, .ref q574, .ref q577, .ref q580, .ref q583, .ref q586, .int 0, .int (-1), .int 0, .int 0, .long 0, .ref q599, .ref q600, .ref q601, .ref q602])), (q586, .inr (18, [.int 0, .int 0, .int 0, .int 1, .int 1, .ref z589, .ref z590, .ref z591, .int 0, .ref z592, .int (-1), .int 0, .ref z593, .ref z594, .int (-1), .int 0, .ref z595, .int (-1), .int 15, .ref z596, .ref z597, .ref z598])), (z589, .inl (cI, 65536, .inl (fun _ => 0))), (z590, .inl (cI, 16384, .inl (fun _ => 0))), (z591, .inl (cI, 16384, .inl (fun _ => 0)))]) hC hP hD hS [] [0, 1, 2, 3, 4] rfl rfl (by decide) (by decide) (va_runS (As := [.long 0, .long 0, .long 0]) (rest := [.int 0, .ref h0]) ⟨hx, hb, hml, hown, htw⟩ (c_Mod_in_t l D cI cL B _ 0 0 0 (by decide) (by decide)) (va_cwS 3 htw gS_Mod_90 rfl rfl rfl (by decide +kernel) ⟨Nat.le_of_ble_eq_true rfl, Nat.le_of_ble_eq_true rfl⟩) (wC_pre hC hP hD hS [] (by decide) rfl) rfl rfl hl.1 rfl (lv_room (Nat.le_of_ble_eq_true rfl)) d_Mod_at_37 ⟨Nat.le_of_ble_eq_true rfl, Nat.le_of_ble_eq_true rfl⟩) (fun r1137 u1135 H locs hw1136 hP hD hS => ?_)
  obtain rfl : r1137 = 1 := hw1136
  have hP : va_P D classes [(h0, .inr (12, [.int 0, .int 1, .int 1, .ref q562, .ref q571, .ref q574, .ref q577, .ref q580, .ref q583, .ref q586, .int 0, .int (-1), .int 0, .int 0, .long 0, .ref q599, .ref q600, .ref q601, .ref q602])), (q586, .inr (18, [.int 0, .int 0, .int 0, .int 1, .int 1, .ref z589, .ref z590, .ref z591, .int 0, .ref z592, .int (-1), .int 0, .ref z593, .ref z594, .int (-1), .int 0, .ref z595, .int (-1), .int 15, .ref z596, .ref z597, .ref z598])), (z589, .inl (cI, 65536, .inl (fun _ => 0))), (z590, .inl (cI, 16384, .inl (fun _ => 0))), (z591, .inl (cI, 16384, .inl (fun _ => 0)))] H := hP
  have hD : va_D A [(h0, .inr (12, [.int 0, .int 1, .int 1, .ref q562, .ref q571, .ref q574, .ref q577, .ref q580, .ref q583, .ref q586, .int 0, .int (-1), .int 0, .int 0, .long 0, .ref q599, .ref q600, .ref q601, .ref q602])), (q586, .inr (18, [.int 0, .int 0, .int 0, .int 1, .int 1, .ref z589, .ref z590, .ref z591, .int 0, .ref z592, .int (-1), .int 0, .ref z593, .ref z594, .int (-1), .int 0, .ref z595, .int (-1), .int 15, .ref z596, .ref z597, .ref z598])), (z589, .inl (cI, 65536, .inl (fun _ => 0))), (z590, .inl (cI, 16384, .inl (fun _ => 0))), (z591, .inl (cI, 16384, .inl (fun _ => 0)))] := hD
  refine W.widen (k := 0) (n := 0) (by omega) (by omega) ?_
  refine lv_if_eq (tgt := 59) hx hb d_Mod_at_40 (by decide) (fun c_1138 => absurd c_1138 (by decide)) (fun c_1138 => ?_)
  refine lv_iload_n hx hb d_Mod_at_43 rfl (lv_at hl 3 rfl) ?_
  refine lv_i2l (v := 0) hx hb d_Mod_at_44 (by decide) ?_
  refine lv_lconst (v := 0) hx hb d_Mod_at_45 (by decide) ?_
  refine lv_aload_n hx hb d_Mod_at_46 rfl (lv_at hl 1 rfl) ?_
  refine va_get (D := D) (ci := 12) (v := .int 1) (C := R_Mod) (T := F_Mod) (N := 19) hx hb htw i_Mod hown hC.1 hP 0 rfl rfl 2 (by decide) (htw _ k516) (fun _ h9 => h9) rfl d_Mod_at_47 ?_
  refine lv_iconst (v := 1) hx hb d_Mod_at_50 (by decide) ?_
  refine lv_isub hx hb d_Mod_at_51 ?_
  refine wi_c (v := 0) (by decide) ?_
  refine lv_i2l (v := 0) hx hb d_Mod_at_52 (by decide) ?_
  refine wc_i (wr := [(h0, .inr (12, [.int 0, .int 1, .int 1, .ref q562, .ref q571, .ref q574, .ref q577, .ref q580, .ref q583, .ref q586, .int 0, .int (-1), .int 0, .int 0, .long 0, .ref q599, .ref q600, .ref q601, .ref q602])), (q586, .inr (18, [.int 0, .int 0, .int 0, .int 1, .int 1, .ref z589, .ref z590, .ref z591, .int 0, .ref z592, .int (-1), .int 0, .ref z593, .ref z594, .int (-1), .int 0, .ref z595, .int (-1), .int 15, .ref z596, .ref z597, .ref z598])), (z589, .inl (cI, 65536, .inl (fun _ => 0))), (z590, .inl (cI, 16384, .inl (fun _ => 0))), (z591, .inl (cI, 16384, .inl (fun _ => 0)))]) hC hP hD hS [] [0, 1, 2, 3, 4] rfl rfl (by decide) (by decide) (va_runS (As := [.long 0, .long 0, .long 0]) (rest := [.int 0, .ref h0]) ⟨hx, hb, hml, hown, htw⟩ (c_Mod_in_t l D cI cL B _ 0 0 0 (by decide) (by decide)) (va_cwS 3 htw gS_Mod_90 rfl rfl rfl (by decide +kernel) ⟨Nat.le_of_ble_eq_true rfl, Nat.le_of_ble_eq_true rfl⟩) (wC_pre hC hP hD hS [] (by decide) rfl) rfl rfl hl.1 rfl (lv_room (Nat.le_of_ble_eq_true rfl)) d_Mod_at_53 ⟨Nat.le_of_ble_eq_true rfl, Nat.le_of_ble_eq_true rfl⟩) (fun r1141 u1139 H locs hw1140 hP hD hS => ?_)
  obtain rfl : r1141 = 1 := hw1140
  have hP : va_P D classes [(h0, .inr (12, [.int 0, .int 1, .int 1, .ref q562, .ref q571, .ref q574, .ref q577, .ref q580, .ref q583, .ref q586, .int 0, .int (-1), .int 0, .int 0, .long 0, .ref q599, .ref q600, .ref q601, .ref q602])), (q586, .inr (18, [.int 0, .int 0, .int 0, .int 1, .int 1, .ref z589, .ref z590, .ref z591, .int 0, .ref z592, .int (-1), .int 0, .ref z593, .ref z594, .int (-1), .int 0, .ref z595, .int (-1), .int 15, .ref z596, .ref z597, .ref z598])), (z589, .inl (cI, 65536, .inl (fun _ => 0))), (z590, .inl (cI, 16384, .inl (fun _ => 0))), (z591, .inl (cI, 16384, .inl (fun _ => 0)))] H := hP
  have hD : va_D A [(h0, .inr (12, [.int 0, .int 1, .int 1, .ref q562, .ref q571, .ref q574, .ref q577, .ref q580, .ref q583, .ref q586, .int 0, .int (-1), .int 0, .int 0, .long 0, .ref q599, .ref q600, .ref q601, .ref q602])), (q586, .inr (18, [.int 0, .int 0, .int 0, .int 1, .int 1, .ref z589, .ref z590, .ref z591, .int 0, .ref z592, .int (-1), .int 0, .ref z593, .ref z594, .int (-1), .int 0, .ref z595, .int (-1), .int 15, .ref z596, .ref z597, .ref z598])), (z589, .inl (cI, 65536, .inl (fun _ => 0))), (z590, .inl (cI, 16384, .inl (fun _ => 0))), (z591, .inl (cI, 16384, .inl (fun _ => 0)))] := hD
  refine W.widen (k := 0) (n := 0) (by omega) (by omega) ?_
  refine lv_if_ne (tgt := 63) hx hb d_Mod_at_56 (by decide) (fun c_1142 => ?_) (fun c_1142 => absurd c_1142 (by decide))
  refine lv_iconst (v := 0) hx hb d_Mod_at_63 (by decide) ?_
  refine wc_i (wr := [(q586, .inr (18, [.int 0, .int 0, .int 0, .int 1, .int 1, .ref z589, .ref z590, .ref z591, .int 0, .ref z592, .int (-1), .int 0, .ref z593, .ref z594, .int (-1), .int 0, .ref z595, .int (-1), .int 15, .ref z596, .ref z597, .ref z598])), (z589, .inl (cI, 65536, .inl (fun _ => 0))), (z590, .inl (cI, 16384, .inl (fun _ => 0))), (z591, .inl (cI, 16384, .inl (fun _ => 0)))]) hC hP hD hS [0] [1, 2, 3, 4] rfl rfl (by decide) (by decide) (va_runV (As := [.int 0, .int 0]) (rest := []) ⟨hx, hb, hml, hown, htw⟩ (c_Mref_00 l D cI cL B _ h0 q562 q571 q574 q577 q580 q583 q586 q599 q600 q601 q602) (cwV 2 htw gV_Mod_94 rfl rfl rfl (by decide +kernel) ⟨Nat.le_of_ble_eq_true rfl, Nat.le_of_ble_eq_true rfl⟩) (wC_preV (As := [.int 0, .int 0]) hC hP hD hS [0] (by decide) rfl (q0 := 0) rfl rfl) rfl rfl hl.1 rfl (lv_room (Nat.le_of_ble_eq_true rfl)) d_Mod_at_64 ⟨Nat.le_of_ble_eq_true rfl, Nat.le_of_ble_eq_true rfl⟩) (fun r1145 u1143 H locs hw1144 hP hD hS => ?_)
  obtain rfl : r1145 = 0 := hw1144
  have hP : va_P D classes [(q586, .inr (18, [.int 0, .int 0, .int 0, .int 1, .int 1, .ref z589, .ref z590, .ref z591, .int 0, .ref z592, .int (-1), .int 0, .ref z593, .ref z594, .int (-1), .int 0, .ref z595, .int (-1), .int 15, .ref z596, .ref z597, .ref z598])), (z589, .inl (cI, 65536, .inl (fun _ => 0))), (z590, .inl (cI, 16384, .inl (fun _ => 0))), (z591, .inl (cI, 16384, .inl (fun _ => 0))), (h0, .inr (12, [.int 0, .int 1, .int 1, .ref q562, .ref q571, .ref q574, .ref q577, .ref q580, .ref q583, .ref q586, .int 0, .int (-1), .int 0, .int 0, .long 0, .ref q599, .ref q600, .ref q601, .ref q602]))] H := hP
  have hD : va_D A [(q586, .inr (18, [.int 0, .int 0, .int 0, .int 1, .int 1, .ref z589, .ref z590, .ref z591, .int 0, .ref z592, .int (-1), .int 0, .ref z593, .ref z594, .int (-1), .int 0, .ref z595, .int (-1), .int 15, .ref z596, .ref z597, .ref z598])), (z589, .inl (cI, 65536, .inl (fun _ => 0))), (z590, .inl (cI, 16384, .inl (fun _ => 0))), (z591, .inl (cI, 16384, .inl (fun _ => 0))), (h0, .inr (12, [.int 0, .int 1, .int 1, .ref q562, .ref q571, .ref q574, .ref q577, .ref q580, .ref q583, .ref q586, .int 0, .int (-1), .int 0, .int 0, .long 0, .ref q599, .ref q600, .ref q601, .ref q602]))] := hD
  refine W.widen (k := 0) (n := 0) (by omega) (by omega) ?_
  refine lv_if_eq (tgt := 72) hx hb d_Mod_at_67 (by decide) (fun c_1146 => ?_) (fun c_1146 => absurd c_1146 (by decide))
  refine lv_aload_n hx hb d_Mod_at_72 rfl (lv_at hl 1 rfl) ?_
  refine va_get (D := D) (ci := 12) (v := .ref q586) (C := R_Mod) (T := F_Mod) (N := 19) hx hb htw i_Mod hown hC.1 hP 4 rfl rfl 9 (by decide) (htw _ k547) (fun _ h9 => h9) rfl d_Mod_at_73 ?_
  refine lv_iload_n hx hb d_Mod_at_76 rfl (lv_at hl 3 rfl) ?_
  refine lv_aload_n hx hb d_Mod_at_77 rfl (lv_at hl 1 rfl) ?_
  refine va_get (D := D) (ci := 12) (v := .int 1) (C := R_Mod) (T := F_Mod) (N := 19) hx hb htw i_Mod hown hC.1 hP 4 rfl rfl 1 (by decide) (htw _ k515) (fun _ h9 => h9) rfl d_Mod_at_78 ?_
  refine lv_imul hx hb d_Mod_at_81 ?_
  refine wi_c (v := 0) (by decide) ?_
  refine lv_iload_n hx hb d_Mod_at_82 rfl (lv_at hl 2 rfl) ?_
  refine lv_iadd hx hb d_Mod_at_83 ?_
  refine wi_c (v := 0) (by decide) ?_
  refine lv_iload_n hx hb d_Mod_at_84 rfl (lv_at hl 4 rfl) ?_
  refine wc_i (wr := [(h0, .inr (12, [.int 0, .int 1, .int 1, .ref q562, .ref q571, .ref q574, .ref q577, .ref q580, .ref q583, .ref q586, .int 0, .int (-1), .int 0, .int 0, .long 0, .ref q599, .ref q600, .ref q601, .ref q602]))]) hC hP hD hS [0, 1, 2, 3] [4] rfl rfl (by decide) (by decide) (va_runVN (As := [.int 0, .int 2]) (rest := []) ⟨hx, hb, hml, hown, htw⟩ (c_Pshow_2 l D cI cL B _ q586 z589 z590 z591 z592 z593 z594 z595 z596 z597 z598) ⟨va_cnB 2 htw (tw_good (fun _ h => h) k692) rfl rfl rfl (hC.2.1.1 _ kn13) (htw _ k213) (by decide +kernel) ⟨Nat.le_of_ble_eq_true rfl, Nat.le_of_ble_eq_true rfl⟩, htw _ k691, htw _ k1012⟩ (wC_preV (As := [.int 0, .int 2]) hC hP hD hS [0, 1, 2, 3] (by decide) rfl (q0 := 0) rfl rfl) rfl rfl hl.1 rfl (lv_room (Nat.le_of_ble_eq_true rfl)) d_Mod_at_85 ⟨Nat.le_of_ble_eq_true rfl, Nat.le_of_ble_eq_true rfl⟩) (fun r1149 u1147 H locs hw1148 hP hD hS => ?_)
  obtain rfl : r1149 = 0 := hw1148
  have hP : va_P D classes [(h0, .inr (12, [.int 0, .int 1, .int 1, .ref q562, .ref q571, .ref q574, .ref q577, .ref q580, .ref q583, .ref q586, .int 0, .int (-1), .int 0, .int 0, .long 0, .ref q599, .ref q600, .ref q601, .ref q602])), (q586, .inr (18, [.int 0, .int 0, .int 0, .int 1, .int 1, .ref z589, .ref z590, .ref z591, .int 0, .ref z592, .int (-1), .int 0, .ref z593, .ref z594, .int (-1), .int 0, .ref z595, .int (-1), .int 15, .ref z596, .ref z597, .ref z598])), (z589, .inl (cI, 65536, .inl (fun _ => 0))), (z590, .inl (cI, 16384, .inl (fun _ => 0))), (z591, .inl (cI, 16384, .inl (fun _ => 0)))] H := hP
  have hD : va_D A [(h0, .inr (12, [.int 0, .int 1, .int 1, .ref q562, .ref q571, .ref q574, .ref q577, .ref q580, .ref q583, .ref q586, .int 0, .int (-1), .int 0, .int 0, .long 0, .ref q599, .ref q600, .ref q601, .ref q602])), (q586, .inr (18, [.int 0, .int 0, .int 0, .int 1, .int 1, .ref z589, .ref z590, .ref z591, .int 0, .ref z592, .int (-1), .int 0, .ref z593, .ref z594, .int (-1), .int 0, .ref z595, .int (-1), .int 15, .ref z596, .ref z597, .ref z598])), (z589, .inl (cI, 65536, .inl (fun _ => 0))), (z590, .inl (cI, 16384, .inl (fun _ => 0))), (z591, .inl (cI, 16384, .inl (fun _ => 0)))] := hD
  refine W.widen (k := 0) (n := 0) (by omega) (by omega) ?_
  refine W.widen (k := 0) (n := 0) (Nat.le_of_ble_eq_true rfl) (Nat.le_of_ble_eq_true rfl) ?_
  have hP9 := hP.sub (ws' := [(h0, .inr (12, [.int 0, .int 1, .int 1, .ref q562, .ref q571, .ref q574, .ref q577, .ref q580, .ref q583, .ref q586, .int 0, .int (-1), .int 0, .int 0, .long 0, .ref q599, .ref q600, .ref q601, .ref q602]))]) [0] rfl
  have hD9 := hD.sub (ws' := [(h0, .inr (12, [.int 0, .int 1, .int 1, .ref q562, .ref q571, .ref q574, .ref q577, .ref q580, .ref q583, .ref q586, .int 0, .int (-1), .int 0, .int 0, .long 0, .ref q599, .ref q600, .ref q601, .ref q602]))]) [0] (by decide) rfl
  exact W.iret (v := 0) hx hb hr (fun t ht hW => ⟨⟨0, (), rfl, rfl, by rw [ht]; exact hP9, va_K.moved hW.alike hC.1, hD9⟩, hS.F ht⟩) hS.2.2 d_Mod_at_88

set_option maxHeartbeats 4000000 in
set_option maxRecDepth 100000 in
theorem c_Msum_2 (l : Launch) (D : va_G) (cI cL : ClassId) (B sz : Nat) (h0 : Nat) (q562 : Nat) (q571 : Nat) (q574 : Nat) (q577 : Nat) (q580 : Nat) (q583 : Nat) (q586 : Nat) (z589 : Nat) (z590 : Nat) (z591 : Nat) (z592 : Nat) (z593 : Nat) (z594 : Nat) (z595 : Nat) (z596 : Nat) (z597 : Nat) (z598 : Nat) (q599 : Nat) (q600 : Nat) (q601 : Nat) (q602 : Nat) : Met l y_Mod_sum ((Cond.code y_Mod_sum prog_14_method_30_code 2 (some .int)) :: tw) ({ frames := 40, cells := 0, slots := 0, locals := 4000 }) (va_Pc [.ref h0, .int 2] (wP D cI cL B sz [(h0, .inr (12, [.int 0, .int 1, .int 1, .ref q562, .ref q571, .ref q574, .ref q577, .ref q580, .ref q583, .ref q586, .int 0, .int (-1), .int 0, .int 0, .long 0, .ref q599, .ref q600, .ref q601, .ref q602])), (q586, .inr (18, [.int 0, .int 0, .int 0, .int 1, .int 1, .ref z589, .ref z590, .ref z591, .int 0, .ref z592, .int (-1), .int 0, .ref z593, .ref z594, .int (-1), .int 0, .ref z595, .int (-1), .int 15, .ref z596, .ref z597, .ref z598])), (z589, .inl (cI, 65536, .inl (fun _ => 0))), (z590, .inl (cI, 16384, .inl (fun _ => 0))), (z591, .inl (cI, 16384, .inl (fun _ => 0)))])) (va_Qi (S := Unit) (fun r u => r = 0) (fun u => wB D cI cL (va_A [(h0, .inr (12, [.int 0, .int 1, .int 1, .ref q562, .ref q571, .ref q574, .ref q577, .ref q580, .ref q583, .ref q586, .int 0, .int (-1), .int 0, .int 0, .long 0, .ref q599, .ref q600, .ref q601, .ref q602])), (q586, .inr (18, [.int 0, .int 0, .int 0, .int 1, .int 1, .ref z589, .ref z590, .ref z591, .int 0, .ref z592, .int (-1), .int 0, .ref z593, .ref z594, .int (-1), .int 0, .ref z595, .int (-1), .int 15, .ref z596, .ref z597, .ref z598])), (z589, .inl (cI, 65536, .inl (fun _ => 0))), (z590, .inl (cI, 16384, .inl (fun _ => 0))), (z591, .inl (cI, 16384, .inl (fun _ => 0)))] sz) ((fun _ : Unit => [(h0, .inr (12, [.int 0, .int 1, .int 1, .ref q562, .ref q571, .ref q574, .ref q577, .ref q580, .ref q583, .ref q586, .int 0, .int (-1), .int 0, .int 0, .long 0, .ref q599, .ref q600, .ref q601, .ref q602]))]) u)) (va_A [(h0, .inr (12, [.int 0, .int 1, .int 1, .ref q562, .ref q571, .ref q574, .ref q577, .ref q580, .ref q583, .ref q586, .int 0, .int (-1), .int 0, .int 0, .long 0, .ref q599, .ref q600, .ref q601, .ref q602])), (q586, .inr (18, [.int 0, .int 0, .int 0, .int 1, .int 1, .ref z589, .ref z590, .ref z591, .int 0, .ref z592, .int (-1), .int 0, .ref z593, .ref z594, .int (-1), .int 0, .ref z595, .int (-1), .int 15, .ref z596, .ref z597, .ref z598])), (z589, .inl (cI, 65536, .inl (fun _ => 0))), (z590, .inl (cI, 16384, .inl (fun _ => 0))), (z591, .inl (cI, 16384, .inl (fun _ => 0)))] sz)) 0 0 (va_A [(h0, .inr (12, [.int 0, .int 1, .int 1, .ref q562, .ref q571, .ref q574, .ref q577, .ref q580, .ref q583, .ref q586, .int 0, .int (-1), .int 0, .int 0, .long 0, .ref q599, .ref q600, .ref q601, .ref q602])), (q586, .inr (18, [.int 0, .int 0, .int 0, .int 1, .int 1, .ref z589, .ref z590, .ref z591, .int 0, .ref z592, .int (-1), .int 0, .ref z593, .ref z594, .int (-1), .int 0, .ref z595, .int (-1), .int 15, .ref z596, .ref z597, .ref z598])), (z589, .inl (cI, 65536, .inl (fun _ => 0))), (z590, .inl (cI, 16384, .inl (fun _ => 0))), (z591, .inl (cI, 16384, .inl (fun _ => 0)))] sz) := by
  refine Met.ofW (cc := prog_14_method_30_code) (maxL := 2) (ret := (some .int)) (by decide) rfl ?_
  intro p e s m args below meth c s₁ B0 hml hv
  obtain ⟨rfl, hv⟩ := hv
  have hx := B0.exec
  have hb := B0.bytes
  have hr := B0.returns
  have hts := atoms_spec (ws := (Cond.code y_Mod_sum prog_14_method_30_code 2 (some .int)) :: tw) B0.pre
  have htw : ∀ w ∈ tw, w.before _ s = true := fun w hw => hts w (List.mem_cons_of_mem _ hw)
  have hown : s.vm.findClass "DrawingMachineModel" = some m.cls := findClass_of_methodNamed B0.named
  have hlocks := B0.notSynchronized
  obtain ⟨hC, hP, hD, hsz⟩ := wC_init hv
  subst hsz
  generalize hAe : va_A [(h0, .inr (12, [.int 0, .int 1, .int 1, .ref q562, .ref q571, .ref q574, .ref q577, .ref q580, .ref q583, .ref q586, .int 0, .int (-1), .int 0, .int 0, .long 0, .ref q599, .ref q600, .ref q601, .ref q602])), (q586, .inr (18, [.int 0, .int 0, .int 0, .int 1, .int 1, .ref z589, .ref z590, .ref z591, .int 0, .ref z592, .int (-1), .int 0, .ref z593, .ref z594, .int (-1), .int 0, .ref z595, .int (-1), .int 15, .ref z596, .ref z597, .ref z598])), (z589, .inl (cI, 65536, .inl (fun _ => 0))), (z590, .inl (cI, 16384, .inl (fun _ => 0))), (z591, .inl (cI, 16384, .inl (fun _ => 0)))] s.heap.size = A at hC hD ⊢
  have hS : va_S A s.heap s.heap [] := va_S.rf
  have hl := lv_entry ([.ref h0, .int 2]) (n := 2) (Nat.le_of_ble_eq_true rfl)
  rw [lg_entry_eq]
  generalize (lg_sl ([.ref h0, .int 2]) ++ List.replicate (2 - (lg_sl ([.ref h0, .int 2])).length) Slot.unset).toArray = ls at hl ⊢
  have hl : lv_has ls 2 [(0, .ref h0), (1, .int 2)] := hl
  refine lv_aload_n hx hb d_Mod_sum_0 rfl (lv_at hl 0 rfl) ?_
  refine lv_iload_n hx hb d_Mod_sum_1 rfl (lv_at hl 1 rfl) ?_
  refine lv_i2l (v := 2) hx hb d_Mod_sum_2 (by decide) ?_
  refine lv_lconst (v := 0) hx hb d_Mod_sum_3 (by decide) ?_
  refine lv_ldc2 (v := 2) hx hb hown (htw _ k690) d_Mod_sum_4 ?_
  refine wc_i (wr := [(h0, .inr (12, [.int 0, .int 1, .int 1, .ref q562, .ref q571, .ref q574, .ref q577, .ref q580, .ref q583, .ref q586, .int 0, .int (-1), .int 0, .int 0, .long 0, .ref q599, .ref q600, .ref q601, .ref q602])), (q586, .inr (18, [.int 0, .int 0, .int 0, .int 1, .int 1, .ref z589, .ref z590, .ref z591, .int 0, .ref z592, .int (-1), .int 0, .ref z593, .ref z594, .int (-1), .int 0, .ref z595, .int (-1), .int 15, .ref z596, .ref z597, .ref z598])), (z589, .inl (cI, 65536, .inl (fun _ => 0))), (z590, .inl (cI, 16384, .inl (fun _ => 0))), (z591, .inl (cI, 16384, .inl (fun _ => 0)))]) hC hP hD hS [] [0, 1, 2, 3, 4] rfl rfl (by decide) (by decide) (va_runS (As := [.long 2, .long 0, .long 2]) (rest := [.ref h0]) ⟨hx, hb, hml, hown, htw⟩ (c_Mod_in_t l D cI cL B _ 2 0 2 (by decide) (by decide)) (va_cwS 3 htw gS_Mod_90 rfl rfl rfl (by decide +kernel) ⟨Nat.le_of_ble_eq_true rfl, Nat.le_of_ble_eq_true rfl⟩) (wC_pre hC hP hD hS [] (by decide) rfl) rfl rfl hl.1 rfl (lv_room (Nat.le_of_ble_eq_true rfl)) d_Mod_sum_7 ⟨Nat.le_of_ble_eq_true rfl, Nat.le_of_ble_eq_true rfl⟩) (fun r1152 u1150 H locs hw1151 hP hD hS => ?_)
  obtain rfl : r1152 = 1 := hw1151
  have hP : va_P D classes [(h0, .inr (12, [.int 0, .int 1, .int 1, .ref q562, .ref q571, .ref q574, .ref q577, .ref q580, .ref q583, .ref q586, .int 0, .int (-1), .int 0, .int 0, .long 0, .ref q599, .ref q600, .ref q601, .ref q602])), (q586, .inr (18, [.int 0, .int 0, .int 0, .int 1, .int 1, .ref z589, .ref z590, .ref z591, .int 0, .ref z592, .int (-1), .int 0, .ref z593, .ref z594, .int (-1), .int 0, .ref z595, .int (-1), .int 15, .ref z596, .ref z597, .ref z598])), (z589, .inl (cI, 65536, .inl (fun _ => 0))), (z590, .inl (cI, 16384, .inl (fun _ => 0))), (z591, .inl (cI, 16384, .inl (fun _ => 0)))] H := hP
  have hD : va_D A [(h0, .inr (12, [.int 0, .int 1, .int 1, .ref q562, .ref q571, .ref q574, .ref q577, .ref q580, .ref q583, .ref q586, .int 0, .int (-1), .int 0, .int 0, .long 0, .ref q599, .ref q600, .ref q601, .ref q602])), (q586, .inr (18, [.int 0, .int 0, .int 0, .int 1, .int 1, .ref z589, .ref z590, .ref z591, .int 0, .ref z592, .int (-1), .int 0, .ref z593, .ref z594, .int (-1), .int 0, .ref z595, .int (-1), .int 15, .ref z596, .ref z597, .ref z598])), (z589, .inl (cI, 65536, .inl (fun _ => 0))), (z590, .inl (cI, 16384, .inl (fun _ => 0))), (z591, .inl (cI, 16384, .inl (fun _ => 0)))] := hD
  refine W.widen (k := 0) (n := 0) (by omega) (by omega) ?_
  refine lv_if_ne (tgt := 17) hx hb d_Mod_sum_10 (by decide) (fun c_1153 => ?_) (fun c_1153 => absurd c_1153 (by decide))
  refine lv_iconst (v := 0) hx hb d_Mod_sum_17 (by decide) ?_
  refine lv_iconst (v := 0) hx hb d_Mod_sum_18 (by decide) ?_
  refine wc_i (wr := [(q586, .inr (18, [.int 0, .int 0, .int 0, .int 1, .int 1, .ref z589, .ref z590, .ref z591, .int 0, .ref z592, .int (-1), .int 0, .ref z593, .ref z594, .int (-1), .int 0, .ref z595, .int (-1), .int 15, .ref z596, .ref z597, .ref z598])), (z589, .inl (cI, 65536, .inl (fun _ => 0))), (z590, .inl (cI, 16384, .inl (fun _ => 0))), (z591, .inl (cI, 16384, .inl (fun _ => 0)))]) hC hP hD hS [0] [1, 2, 3, 4] rfl rfl (by decide) (by decide) (va_runV (As := [.int 0, .int 0]) (rest := []) ⟨hx, hb, hml, hown, htw⟩ (c_Mref_00 l D cI cL B _ h0 q562 q571 q574 q577 q580 q583 q586 q599 q600 q601 q602) (cwV 2 htw gV_Mod_94 rfl rfl rfl (by decide +kernel) ⟨Nat.le_of_ble_eq_true rfl, Nat.le_of_ble_eq_true rfl⟩) (wC_preV (As := [.int 0, .int 0]) hC hP hD hS [0] (by decide) rfl (q0 := 0) rfl rfl) rfl rfl hl.1 rfl (lv_room (Nat.le_of_ble_eq_true rfl)) d_Mod_sum_19 ⟨Nat.le_of_ble_eq_true rfl, Nat.le_of_ble_eq_true rfl⟩) (fun r1156 u1154 H locs hw1155 hP hD hS => ?_)
  obtain rfl : r1156 = 0 := hw1155
  have hP : va_P D classes [(q586, .inr (18, [.int 0, .int 0, .int 0, .int 1, .int 1, .ref z589, .ref z590, .ref z591, .int 0, .ref z592, .int (-1), .int 0, .ref z593, .ref z594, .int (-1), .int 0, .ref z595, .int (-1), .int 15, .ref z596, .ref z597, .ref z598])), (z589, .inl (cI, 65536, .inl (fun _ => 0))), (z590, .inl (cI, 16384, .inl (fun _ => 0))), (z591, .inl (cI, 16384, .inl (fun _ => 0))), (h0, .inr (12, [.int 0, .int 1, .int 1, .ref q562, .ref q571, .ref q574, .ref q577, .ref q580, .ref q583, .ref q586, .int 0, .int (-1), .int 0, .int 0, .long 0, .ref q599, .ref q600, .ref q601, .ref q602]))] H := hP
  have hD : va_D A [(q586, .inr (18, [.int 0, .int 0, .int 0, .int 1, .int 1, .ref z589, .ref z590, .ref z591, .int 0, .ref z592, .int (-1), .int 0, .ref z593, .ref z594, .int (-1), .int 0, .ref z595, .int (-1), .int 15, .ref z596, .ref z597, .ref z598])), (z589, .inl (cI, 65536, .inl (fun _ => 0))), (z590, .inl (cI, 16384, .inl (fun _ => 0))), (z591, .inl (cI, 16384, .inl (fun _ => 0))), (h0, .inr (12, [.int 0, .int 1, .int 1, .ref q562, .ref q571, .ref q574, .ref q577, .ref q580, .ref q583, .ref q586, .int 0, .int (-1), .int 0, .int 0, .long 0, .ref q599, .ref q600, .ref q601, .ref q602]))] := hD
  refine W.widen (k := 0) (n := 0) (by omega) (by omega) ?_
  refine lv_if_eq (tgt := 27) hx hb d_Mod_sum_22 (by decide) (fun c_1157 => ?_) (fun c_1157 => absurd c_1157 (by decide))
  refine lv_aload_n hx hb d_Mod_sum_27 rfl (lv_at hl 0 rfl) ?_
  refine va_get (D := D) (ci := 12) (v := .ref q586) (C := R_Mod) (T := F_Mod) (N := 19) hx hb htw i_Mod hown hC.1 hP 4 rfl rfl 9 (by decide) (htw _ k547) (fun _ h9 => h9) rfl d_Mod_sum_28 ?_
  refine lv_iload_n hx hb d_Mod_sum_31 rfl (lv_at hl 1 rfl) ?_
  refine wc_i (wr := [(h0, .inr (12, [.int 0, .int 1, .int 1, .ref q562, .ref q571, .ref q574, .ref q577, .ref q580, .ref q583, .ref q586, .int 0, .int (-1), .int 0, .int 0, .long 0, .ref q599, .ref q600, .ref q601, .ref q602]))]) hC hP hD hS [0, 1, 2, 3] [4] rfl rfl (by decide) (by decide) (va_runV (As := [.int 2]) (rest := []) ⟨hx, hb, hml, hown, htw⟩ (c_Psum_2 l D cI cL B _ q586 z589 z590 z591 z592 z593 z594 z595 z596 z597 z598) (cwV 1 htw gV_Mod_369 rfl rfl rfl (by decide +kernel) ⟨Nat.le_of_ble_eq_true rfl, Nat.le_of_ble_eq_true rfl⟩) (wC_preV (As := [.int 2]) hC hP hD hS [0, 1, 2, 3] (by decide) rfl (q0 := 0) rfl rfl) rfl rfl hl.1 rfl (lv_room (Nat.le_of_ble_eq_true rfl)) d_Mod_sum_32 ⟨Nat.le_of_ble_eq_true rfl, Nat.le_of_ble_eq_true rfl⟩) (fun r1160 u1158 H locs hw1159 hP hD hS => ?_)
  obtain rfl : r1160 = 0 := hw1159
  have hP : va_P D classes [(h0, .inr (12, [.int 0, .int 1, .int 1, .ref q562, .ref q571, .ref q574, .ref q577, .ref q580, .ref q583, .ref q586, .int 0, .int (-1), .int 0, .int 0, .long 0, .ref q599, .ref q600, .ref q601, .ref q602]))] H := hP
  have hD : va_D A [(h0, .inr (12, [.int 0, .int 1, .int 1, .ref q562, .ref q571, .ref q574, .ref q577, .ref q580, .ref q583, .ref q586, .int 0, .int (-1), .int 0, .int 0, .long 0, .ref q599, .ref q600, .ref q601, .ref q602]))] := hD
  refine W.widen (k := 0) (n := 0) (by omega) (by omega) ?_
  refine W.widen (k := 0) (n := 0) (Nat.le_of_ble_eq_true rfl) (Nat.le_of_ble_eq_true rfl) ?_
  have hP9 := hP.sub (ws' := [(h0, .inr (12, [.int 0, .int 1, .int 1, .ref q562, .ref q571, .ref q574, .ref q577, .ref q580, .ref q583, .ref q586, .int 0, .int (-1), .int 0, .int 0, .long 0, .ref q599, .ref q600, .ref q601, .ref q602]))]) [0] rfl
  have hD9 := hD.sub (ws' := [(h0, .inr (12, [.int 0, .int 1, .int 1, .ref q562, .ref q571, .ref q574, .ref q577, .ref q580, .ref q583, .ref q586, .int 0, .int (-1), .int 0, .int 0, .long 0, .ref q599, .ref q600, .ref q601, .ref q602]))]) [0] (by decide) rfl
  exact W.iret (v := 0) hx hb hr (fun t ht hW => ⟨⟨0, (), rfl, rfl, by rw [ht]; exact hP9, va_K.moved hW.alike hC.1, hD9⟩, hS.F ht⟩) hS.2.2 d_Mod_sum_35

theorem d_Mod_at_17 : decode prog_14_method_29_code 17 = .ok (.iconst 1, 1) := by decide +kernel
theorem d_Mod_at_18 : decode prog_14_method_29_code 18 = .ok (.goto 4, 3) := by decide +kernel
theorem d_Mod_at_70 : decode prog_14_method_29_code 70 = .ok (.iconst 0, 1) := by decide +kernel
theorem d_Mod_at_71 : decode prog_14_method_29_code 71 = .ok (.ireturn, 1) := by decide +kernel
set_option maxHeartbeats 4000000 in
set_option maxRecDepth 100000 in
theorem c_Mat_bw (l : Launch) (D : va_G) (cI cL : ClassId) (B sz : Nat) (h0 : Nat) (q562 : Nat) (q571 : Nat) (q574 : Nat) (q577 : Nat) (q580 : Nat) (q583 : Nat) (q586 : Nat) (q599 : Nat) (q600 : Nat) (q601 : Nat) (q602 : Nat) (px : Int32) (py : Int32) (x : Int32) (hbd : x < 0 ∨ 2 < x) : Met l y_Mod_at ((Cond.code y_Mod_at prog_14_method_29_code 5 (some .int)) :: tw) ({ frames := 40, cells := 0, slots := 0, locals := 4000 }) (va_Pc [.ref h0, .int px, .int py, .int x] (wP D cI cL B sz [(h0, .inr (12, [.int 0, .int 1, .int 1, .ref q562, .ref q571, .ref q574, .ref q577, .ref q580, .ref q583, .ref q586, .int 0, .int (-1), .int 0, .int 0, .long 0, .ref q599, .ref q600, .ref q601, .ref q602]))])) (va_Qi (S := Unit) (fun r u => r = 0) (fun u => wB D cI cL (va_A [(h0, .inr (12, [.int 0, .int 1, .int 1, .ref q562, .ref q571, .ref q574, .ref q577, .ref q580, .ref q583, .ref q586, .int 0, .int (-1), .int 0, .int 0, .long 0, .ref q599, .ref q600, .ref q601, .ref q602]))] sz) ((fun _ : Unit => [(h0, .inr (12, [.int 1, .int 1, .int 1, .ref q562, .ref q571, .ref q574, .ref q577, .ref q580, .ref q583, .ref q586, .int 0, .int (-1), .int 0, .int 0, .long 0, .ref q599, .ref q600, .ref q601, .ref q602]))]) u)) (va_A [(h0, .inr (12, [.int 0, .int 1, .int 1, .ref q562, .ref q571, .ref q574, .ref q577, .ref q580, .ref q583, .ref q586, .int 0, .int (-1), .int 0, .int 0, .long 0, .ref q599, .ref q600, .ref q601, .ref q602]))] sz)) 0 0 (va_A [(h0, .inr (12, [.int 0, .int 1, .int 1, .ref q562, .ref q571, .ref q574, .ref q577, .ref q580, .ref q583, .ref q586, .int 0, .int (-1), .int 0, .int 0, .long 0, .ref q599, .ref q600, .ref q601, .ref q602]))] sz) := by
  refine Met.ofW (cc := prog_14_method_29_code) (maxL := 5) (ret := (some .int)) (by decide) rfl ?_
  intro p e s m args below meth c s₁ B0 hml hv
  obtain ⟨rfl, hv⟩ := hv
  have hx := B0.exec
  have hb := B0.bytes
  have hr := B0.returns
  have hts := atoms_spec (ws := (Cond.code y_Mod_at prog_14_method_29_code 5 (some .int)) :: tw) B0.pre
  have htw : ∀ w ∈ tw, w.before _ s = true := fun w hw => hts w (List.mem_cons_of_mem _ hw)
  have hown : s.vm.findClass "DrawingMachineModel" = some m.cls := findClass_of_methodNamed B0.named
  have hlocks := B0.notSynchronized
  obtain ⟨hC, hP, hD, hsz⟩ := wC_init hv
  subst hsz
  generalize hAe : va_A [(h0, .inr (12, [.int 0, .int 1, .int 1, .ref q562, .ref q571, .ref q574, .ref q577, .ref q580, .ref q583, .ref q586, .int 0, .int (-1), .int 0, .int 0, .long 0, .ref q599, .ref q600, .ref q601, .ref q602]))] s.heap.size = A at hC hD ⊢
  have hS : va_S A s.heap s.heap [] := va_S.rf
  have hl := lv_entry ([.ref h0, .int px, .int py, .int x]) (n := 5) (Nat.le_of_ble_eq_true rfl)
  rw [lg_entry_eq]
  generalize (lg_sl ([.ref h0, .int px, .int py, .int x]) ++ List.replicate (5 - (lg_sl ([.ref h0, .int px, .int py, .int x])).length) Slot.unset).toArray = ls at hl ⊢
  have hl : lv_has ls 5 [(0, .ref h0), (1, .int px), (2, .int py), (3, .int x)] := hl
  refine lv_iload_n hx hb d_Mod_at_0 rfl (lv_at hl 3 rfl) ?_
  refine lv_i2l (v := x.toInt64) hx hb d_Mod_at_1 rfl ?_
  refine lv_lconst (v := 0) hx hb d_Mod_at_2 (by decide) ?_
  refine lv_ldc2 (v := 2) hx hb hown (htw _ k690) d_Mod_at_3 ?_
  refine wc_i (wr := [(h0, .inr (12, [.int 0, .int 1, .int 1, .ref q562, .ref q571, .ref q574, .ref q577, .ref q580, .ref q583, .ref q586, .int 0, .int (-1), .int 0, .int 0, .long 0, .ref q599, .ref q600, .ref q601, .ref q602]))]) hC hP hD hS [] [0] rfl rfl (by decide) (by decide) (va_runS (As := [.long x.toInt64, .long 0, .long 2]) (rest := []) ⟨hx, hb, hml, hown, htw⟩ (c_Mod_in_f l D cI cL B _ x.toInt64 0 2 (bad_in 0 2 (by decide) (by decide) hbd)) (va_cwS 3 htw gS_Mod_90 rfl rfl rfl (by decide +kernel) ⟨Nat.le_of_ble_eq_true rfl, Nat.le_of_ble_eq_true rfl⟩) (wC_pre hC hP hD hS [] (by decide) rfl) rfl rfl hl.1 rfl (lv_room (Nat.le_of_ble_eq_true rfl)) d_Mod_at_6 ⟨Nat.le_of_ble_eq_true rfl, Nat.le_of_ble_eq_true rfl⟩) (fun r1163 u1161 H locs hw1162 hP hD hS => ?_)
  obtain rfl : r1163 = 0 := hw1162
  have hP : va_P D classes [(h0, .inr (12, [.int 0, .int 1, .int 1, .ref q562, .ref q571, .ref q574, .ref q577, .ref q580, .ref q583, .ref q586, .int 0, .int (-1), .int 0, .int 0, .long 0, .ref q599, .ref q600, .ref q601, .ref q602]))] H := hP
  have hD : va_D A [(h0, .inr (12, [.int 0, .int 1, .int 1, .ref q562, .ref q571, .ref q574, .ref q577, .ref q580, .ref q583, .ref q586, .int 0, .int (-1), .int 0, .int 0, .long 0, .ref q599, .ref q600, .ref q601, .ref q602]))] := hD
  refine W.widen (k := 0) (n := 0) (by omega) (by omega) ?_
  refine lv_istore (lv' := [(4, .int 0), (0, .ref h0), (1, .int px), (2, .int py), (3, .int x)]) hx hb d_Mod_at_9 hl (by decide) rfl (fun ls hl => ?_)
  refine lv_aload_n hx hb d_Mod_at_11 rfl (lv_at hl 1 rfl) ?_
  refine lv_iload hx hb d_Mod_at_12 (lv_at hl 0 rfl) ?_
  refine lv_if_ne (tgt := 21) hx hb d_Mod_at_14 (by decide) (fun c_1164 => absurd c_1164 (by decide)) (fun c_1164 => ?_)
  refine lv_iconst (v := 1) hx hb d_Mod_at_17 (by decide) ?_
  refine lv_goto (tgt := 22) hx hb d_Mod_at_18 (by decide) ?_
  refine lv_iload hx hb d_Mod_at_22 (lv_at hl 0 rfl) ?_
  refine lv_if_eq (tgt := 63) hx hb d_Mod_at_24 (by decide) (fun c_1165 => ?_) (fun c_1165 => absurd c_1165 (by decide))
  refine lv_iconst (v := 0) hx hb d_Mod_at_63 (by decide) ?_
  refine wc_i (wr := []) hC hP hD hS [0] [] rfl rfl (by decide) (by decide) (va_runV (As := [.int 1, .int 0]) (rest := []) ⟨hx, hb, hml, hown, htw⟩ (c_Mref_10 l D cI cL B _ h0 q562 q571 q574 q577 q580 q583 q586 q599 q600 q601 q602) (cwV 2 htw gV_Mod_94 rfl rfl rfl (by decide +kernel) ⟨Nat.le_of_ble_eq_true rfl, Nat.le_of_ble_eq_true rfl⟩) (wC_preV (As := [.int 1, .int 0]) hC hP hD hS [0] (by decide) rfl (q0 := 0) rfl rfl) rfl rfl hl.1 rfl (lv_room (Nat.le_of_ble_eq_true rfl)) d_Mod_at_64 ⟨Nat.le_of_ble_eq_true rfl, Nat.le_of_ble_eq_true rfl⟩) (fun r1168 u1166 H locs hw1167 hP hD hS => ?_)
  obtain rfl : r1168 = 1 := hw1167
  have hP : va_P D classes [(h0, .inr (12, [.int 1, .int 1, .int 1, .ref q562, .ref q571, .ref q574, .ref q577, .ref q580, .ref q583, .ref q586, .int 0, .int (-1), .int 0, .int 0, .long 0, .ref q599, .ref q600, .ref q601, .ref q602]))] H := hP
  have hD : va_D A [(h0, .inr (12, [.int 1, .int 1, .int 1, .ref q562, .ref q571, .ref q574, .ref q577, .ref q580, .ref q583, .ref q586, .int 0, .int (-1), .int 0, .int 0, .long 0, .ref q599, .ref q600, .ref q601, .ref q602]))] := hD
  refine W.widen (k := 0) (n := 0) (by omega) (by omega) ?_
  refine lv_if_eq (tgt := 72) hx hb d_Mod_at_67 (by decide) (fun c_1169 => absurd c_1169 (by decide)) (fun c_1169 => ?_)
  refine lv_iconst (v := 0) hx hb d_Mod_at_70 (by decide) ?_
  refine W.widen (k := 0) (n := 0) (Nat.le_of_ble_eq_true rfl) (Nat.le_of_ble_eq_true rfl) ?_
  have hP9 := hP.sub (ws' := [(h0, .inr (12, [.int 1, .int 1, .int 1, .ref q562, .ref q571, .ref q574, .ref q577, .ref q580, .ref q583, .ref q586, .int 0, .int (-1), .int 0, .int 0, .long 0, .ref q599, .ref q600, .ref q601, .ref q602]))]) [0] rfl
  have hD9 := hD.sub (ws' := [(h0, .inr (12, [.int 1, .int 1, .int 1, .ref q562, .ref q571, .ref q574, .ref q577, .ref q580, .ref q583, .ref q586, .int 0, .int (-1), .int 0, .int 0, .long 0, .ref q599, .ref q600, .ref q601, .ref q602]))]) [0] (by decide) rfl
  exact W.iret (v := 0) hx hb hr (fun t ht hW => ⟨⟨0, (), rfl, rfl, by rw [ht]; exact hP9, va_K.moved hW.alike hC.1, hD9⟩, hS.F ht⟩) hS.2.2 d_Mod_at_71

theorem d_Mod_at_59 : decode prog_14_method_29_code 59 = .ok (.iconst 1, 1) := by decide +kernel
theorem d_Mod_at_60 : decode prog_14_method_29_code 60 = .ok (.goto 4, 3) := by decide +kernel
set_option maxHeartbeats 4000000 in
set_option maxRecDepth 100000 in
theorem c_Mat_bp1 (l : Launch) (D : va_G) (cI cL : ClassId) (B sz : Nat) (h0 : Nat) (q562 : Nat) (q571 : Nat) (q574 : Nat) (q577 : Nat) (q580 : Nat) (q583 : Nat) (q586 : Nat) (q599 : Nat) (q600 : Nat) (q601 : Nat) (q602 : Nat) (px : Int32) (py : Int32) (x : Int32) (h1 : ¬ x < 0) (h2 : ¬ 2 < x) (hbd : px < 0 ∨ 0 < px) : Met l y_Mod_at ((Cond.code y_Mod_at prog_14_method_29_code 5 (some .int)) :: tw) ({ frames := 40, cells := 0, slots := 0, locals := 4000 }) (va_Pc [.ref h0, .int px, .int py, .int x] (wP D cI cL B sz [(h0, .inr (12, [.int 0, .int 1, .int 1, .ref q562, .ref q571, .ref q574, .ref q577, .ref q580, .ref q583, .ref q586, .int 0, .int (-1), .int 0, .int 0, .long 0, .ref q599, .ref q600, .ref q601, .ref q602]))])) (va_Qi (S := Unit) (fun r u => r = 0) (fun u => wB D cI cL (va_A [(h0, .inr (12, [.int 0, .int 1, .int 1, .ref q562, .ref q571, .ref q574, .ref q577, .ref q580, .ref q583, .ref q586, .int 0, .int (-1), .int 0, .int 0, .long 0, .ref q599, .ref q600, .ref q601, .ref q602]))] sz) ((fun _ : Unit => [(h0, .inr (12, [.int 2, .int 1, .int 1, .ref q562, .ref q571, .ref q574, .ref q577, .ref q580, .ref q583, .ref q586, .int 0, .int (-1), .int 0, .int 0, .long 0, .ref q599, .ref q600, .ref q601, .ref q602]))]) u)) (va_A [(h0, .inr (12, [.int 0, .int 1, .int 1, .ref q562, .ref q571, .ref q574, .ref q577, .ref q580, .ref q583, .ref q586, .int 0, .int (-1), .int 0, .int 0, .long 0, .ref q599, .ref q600, .ref q601, .ref q602]))] sz)) 0 0 (va_A [(h0, .inr (12, [.int 0, .int 1, .int 1, .ref q562, .ref q571, .ref q574, .ref q577, .ref q580, .ref q583, .ref q586, .int 0, .int (-1), .int 0, .int 0, .long 0, .ref q599, .ref q600, .ref q601, .ref q602]))] sz) := by
  refine Met.ofW (cc := prog_14_method_29_code) (maxL := 5) (ret := (some .int)) (by decide) rfl ?_
  intro p e s m args below meth c s₁ B0 hml hv
  obtain ⟨rfl, hv⟩ := hv
  have hx := B0.exec
  have hb := B0.bytes
  have hr := B0.returns
  have hts := atoms_spec (ws := (Cond.code y_Mod_at prog_14_method_29_code 5 (some .int)) :: tw) B0.pre
  have htw : ∀ w ∈ tw, w.before _ s = true := fun w hw => hts w (List.mem_cons_of_mem _ hw)
  have hown : s.vm.findClass "DrawingMachineModel" = some m.cls := findClass_of_methodNamed B0.named
  have hlocks := B0.notSynchronized
  obtain ⟨hC, hP, hD, hsz⟩ := wC_init hv
  subst hsz
  generalize hAe : va_A [(h0, .inr (12, [.int 0, .int 1, .int 1, .ref q562, .ref q571, .ref q574, .ref q577, .ref q580, .ref q583, .ref q586, .int 0, .int (-1), .int 0, .int 0, .long 0, .ref q599, .ref q600, .ref q601, .ref q602]))] s.heap.size = A at hC hD ⊢
  have hS : va_S A s.heap s.heap [] := va_S.rf
  have hl := lv_entry ([.ref h0, .int px, .int py, .int x]) (n := 5) (Nat.le_of_ble_eq_true rfl)
  rw [lg_entry_eq]
  generalize (lg_sl ([.ref h0, .int px, .int py, .int x]) ++ List.replicate (5 - (lg_sl ([.ref h0, .int px, .int py, .int x])).length) Slot.unset).toArray = ls at hl ⊢
  have hl : lv_has ls 5 [(0, .ref h0), (1, .int px), (2, .int py), (3, .int x)] := hl
  refine lv_iload_n hx hb d_Mod_at_0 rfl (lv_at hl 3 rfl) ?_
  refine lv_i2l (v := x.toInt64) hx hb d_Mod_at_1 rfl ?_
  refine lv_lconst (v := 0) hx hb d_Mod_at_2 (by decide) ?_
  refine lv_ldc2 (v := 2) hx hb hown (htw _ k690) d_Mod_at_3 ?_
  refine wc_i (wr := [(h0, .inr (12, [.int 0, .int 1, .int 1, .ref q562, .ref q571, .ref q574, .ref q577, .ref q580, .ref q583, .ref q586, .int 0, .int (-1), .int 0, .int 0, .long 0, .ref q599, .ref q600, .ref q601, .ref q602]))]) hC hP hD hS [] [0] rfl rfl (by decide) (by decide) (va_runS (As := [.long x.toInt64, .long 0, .long 2]) (rest := []) ⟨hx, hb, hml, hown, htw⟩ (c_Mod_in_t l D cI cL B _ x.toInt64 0 2 (good_lo 0 (by decide) h1) (good_hi 2 (by decide) h2)) (va_cwS 3 htw gS_Mod_90 rfl rfl rfl (by decide +kernel) ⟨Nat.le_of_ble_eq_true rfl, Nat.le_of_ble_eq_true rfl⟩) (wC_pre hC hP hD hS [] (by decide) rfl) rfl rfl hl.1 rfl (lv_room (Nat.le_of_ble_eq_true rfl)) d_Mod_at_6 ⟨Nat.le_of_ble_eq_true rfl, Nat.le_of_ble_eq_true rfl⟩) (fun r1172 u1170 H locs hw1171 hP hD hS => ?_)
  obtain rfl : r1172 = 1 := hw1171
  have hP : va_P D classes [(h0, .inr (12, [.int 0, .int 1, .int 1, .ref q562, .ref q571, .ref q574, .ref q577, .ref q580, .ref q583, .ref q586, .int 0, .int (-1), .int 0, .int 0, .long 0, .ref q599, .ref q600, .ref q601, .ref q602]))] H := hP
  have hD : va_D A [(h0, .inr (12, [.int 0, .int 1, .int 1, .ref q562, .ref q571, .ref q574, .ref q577, .ref q580, .ref q583, .ref q586, .int 0, .int (-1), .int 0, .int 0, .long 0, .ref q599, .ref q600, .ref q601, .ref q602]))] := hD
  refine W.widen (k := 0) (n := 0) (by omega) (by omega) ?_
  refine lv_istore (lv' := [(4, .int 1), (0, .ref h0), (1, .int px), (2, .int py), (3, .int x)]) hx hb d_Mod_at_9 hl (by decide) rfl (fun ls hl => ?_)
  refine lv_aload_n hx hb d_Mod_at_11 rfl (lv_at hl 1 rfl) ?_
  refine lv_iload hx hb d_Mod_at_12 (lv_at hl 0 rfl) ?_
  refine lv_if_ne (tgt := 21) hx hb d_Mod_at_14 (by decide) (fun c_1173 => ?_) (fun c_1173 => absurd c_1173 (by decide))
  refine lv_iconst (v := 0) hx hb d_Mod_at_21 (by decide) ?_
  refine lv_iload hx hb d_Mod_at_22 (lv_at hl 0 rfl) ?_
  refine lv_if_eq (tgt := 63) hx hb d_Mod_at_24 (by decide) (fun c_1174 => absurd c_1174 (by decide)) (fun c_1174 => ?_)
  refine lv_iload_n hx hb d_Mod_at_27 rfl (lv_at hl 2 rfl) ?_
  refine lv_i2l (v := px.toInt64) hx hb d_Mod_at_28 rfl ?_
  refine lv_lconst (v := 0) hx hb d_Mod_at_29 (by decide) ?_
  refine lv_aload_n hx hb d_Mod_at_30 rfl (lv_at hl 1 rfl) ?_
  refine va_get (D := D) (ci := 12) (v := .int 1) (C := R_Mod) (T := F_Mod) (N := 19) hx hb htw i_Mod hown hC.1 hP 0 rfl rfl 1 (by decide) (htw _ k515) (fun _ h9 => h9) rfl d_Mod_at_31 ?_
  refine lv_iconst (v := 1) hx hb d_Mod_at_34 (by decide) ?_
  refine lv_isub hx hb d_Mod_at_35 ?_
  refine wi_c (v := 0) (by decide) ?_
  refine lv_i2l (v := 0) hx hb d_Mod_at_36 (by decide) ?_
  refine wc_i (wr := [(h0, .inr (12, [.int 0, .int 1, .int 1, .ref q562, .ref q571, .ref q574, .ref q577, .ref q580, .ref q583, .ref q586, .int 0, .int (-1), .int 0, .int 0, .long 0, .ref q599, .ref q600, .ref q601, .ref q602]))]) hC hP hD hS [] [0] rfl rfl (by decide) (by decide) (va_runS (As := [.long px.toInt64, .long 0, .long 0]) (rest := [.int 0, .ref h0]) ⟨hx, hb, hml, hown, htw⟩ (c_Mod_in_f l D cI cL B _ px.toInt64 0 0 (bad_in 0 0 (by decide) (by decide) hbd)) (va_cwS 3 htw gS_Mod_90 rfl rfl rfl (by decide +kernel) ⟨Nat.le_of_ble_eq_true rfl, Nat.le_of_ble_eq_true rfl⟩) (wC_pre hC hP hD hS [] (by decide) rfl) rfl rfl hl.1 rfl (lv_room (Nat.le_of_ble_eq_true rfl)) d_Mod_at_37 ⟨Nat.le_of_ble_eq_true rfl, Nat.le_of_ble_eq_true rfl⟩) (fun r1177 u1175 H locs hw1176 hP hD hS => ?_)
  obtain rfl : r1177 = 0 := hw1176
  have hP : va_P D classes [(h0, .inr (12, [.int 0, .int 1, .int 1, .ref q562, .ref q571, .ref q574, .ref q577, .ref q580, .ref q583, .ref q586, .int 0, .int (-1), .int 0, .int 0, .long 0, .ref q599, .ref q600, .ref q601, .ref q602]))] H := hP
  have hD : va_D A [(h0, .inr (12, [.int 0, .int 1, .int 1, .ref q562, .ref q571, .ref q574, .ref q577, .ref q580, .ref q583, .ref q586, .int 0, .int (-1), .int 0, .int 0, .long 0, .ref q599, .ref q600, .ref q601, .ref q602]))] := hD
  refine W.widen (k := 0) (n := 0) (by omega) (by omega) ?_
  refine lv_if_eq (tgt := 59) hx hb d_Mod_at_40 (by decide) (fun c_1178 => ?_) (fun c_1178 => absurd c_1178 (by decide))
  refine lv_iconst (v := 1) hx hb d_Mod_at_59 (by decide) ?_
  refine lv_goto (tgt := 64) hx hb d_Mod_at_60 (by decide) ?_
  refine wc_i (wr := []) hC hP hD hS [0] [] rfl rfl (by decide) (by decide) (va_runV (As := [.int 0, .int 1]) (rest := []) ⟨hx, hb, hml, hown, htw⟩ (c_Mref_01 l D cI cL B _ h0 q562 q571 q574 q577 q580 q583 q586 q599 q600 q601 q602) (cwV 2 htw gV_Mod_94 rfl rfl rfl (by decide +kernel) ⟨Nat.le_of_ble_eq_true rfl, Nat.le_of_ble_eq_true rfl⟩) (wC_preV (As := [.int 0, .int 1]) hC hP hD hS [0] (by decide) rfl (q0 := 0) rfl rfl) rfl rfl hl.1 rfl (lv_room (Nat.le_of_ble_eq_true rfl)) d_Mod_at_64 ⟨Nat.le_of_ble_eq_true rfl, Nat.le_of_ble_eq_true rfl⟩) (fun r1181 u1179 H locs hw1180 hP hD hS => ?_)
  obtain rfl : r1181 = 1 := hw1180
  have hP : va_P D classes [(h0, .inr (12, [.int 2, .int 1, .int 1, .ref q562, .ref q571, .ref q574, .ref q577, .ref q580, .ref q583, .ref q586, .int 0, .int (-1), .int 0, .int 0, .long 0, .ref q599, .ref q600, .ref q601, .ref q602]))] H := hP
  have hD : va_D A [(h0, .inr (12, [.int 2, .int 1, .int 1, .ref q562, .ref q571, .ref q574, .ref q577, .ref q580, .ref q583, .ref q586, .int 0, .int (-1), .int 0, .int 0, .long 0, .ref q599, .ref q600, .ref q601, .ref q602]))] := hD
  refine W.widen (k := 0) (n := 0) (by omega) (by omega) ?_
  refine lv_if_eq (tgt := 72) hx hb d_Mod_at_67 (by decide) (fun c_1182 => absurd c_1182 (by decide)) (fun c_1182 => ?_)
  refine lv_iconst (v := 0) hx hb d_Mod_at_70 (by decide) ?_
  refine W.widen (k := 0) (n := 0) (Nat.le_of_ble_eq_true rfl) (Nat.le_of_ble_eq_true rfl) ?_
  have hP9 := hP.sub (ws' := [(h0, .inr (12, [.int 2, .int 1, .int 1, .ref q562, .ref q571, .ref q574, .ref q577, .ref q580, .ref q583, .ref q586, .int 0, .int (-1), .int 0, .int 0, .long 0, .ref q599, .ref q600, .ref q601, .ref q602]))]) [0] rfl
  have hD9 := hD.sub (ws' := [(h0, .inr (12, [.int 2, .int 1, .int 1, .ref q562, .ref q571, .ref q574, .ref q577, .ref q580, .ref q583, .ref q586, .int 0, .int (-1), .int 0, .int 0, .long 0, .ref q599, .ref q600, .ref q601, .ref q602]))]) [0] (by decide) rfl
  exact W.iret (v := 0) hx hb hr (fun t ht hW => ⟨⟨0, (), rfl, rfl, by rw [ht]; exact hP9, va_K.moved hW.alike hC.1, hD9⟩, hS.F ht⟩) hS.2.2 d_Mod_at_71

set_option maxHeartbeats 4000000 in
set_option maxRecDepth 100000 in
theorem c_Mat_bp2 (l : Launch) (D : va_G) (cI cL : ClassId) (B sz : Nat) (h0 : Nat) (q562 : Nat) (q571 : Nat) (q574 : Nat) (q577 : Nat) (q580 : Nat) (q583 : Nat) (q586 : Nat) (q599 : Nat) (q600 : Nat) (q601 : Nat) (q602 : Nat) (py : Int32) (x : Int32) (h1 : ¬ x < 0) (h2 : ¬ 2 < x) (hbd : py < 0 ∨ 0 < py) : Met l y_Mod_at ((Cond.code y_Mod_at prog_14_method_29_code 5 (some .int)) :: tw) ({ frames := 40, cells := 0, slots := 0, locals := 4000 }) (va_Pc [.ref h0, .int 0, .int py, .int x] (wP D cI cL B sz [(h0, .inr (12, [.int 0, .int 1, .int 1, .ref q562, .ref q571, .ref q574, .ref q577, .ref q580, .ref q583, .ref q586, .int 0, .int (-1), .int 0, .int 0, .long 0, .ref q599, .ref q600, .ref q601, .ref q602]))])) (va_Qi (S := Unit) (fun r u => r = 0) (fun u => wB D cI cL (va_A [(h0, .inr (12, [.int 0, .int 1, .int 1, .ref q562, .ref q571, .ref q574, .ref q577, .ref q580, .ref q583, .ref q586, .int 0, .int (-1), .int 0, .int 0, .long 0, .ref q599, .ref q600, .ref q601, .ref q602]))] sz) ((fun _ : Unit => [(h0, .inr (12, [.int 2, .int 1, .int 1, .ref q562, .ref q571, .ref q574, .ref q577, .ref q580, .ref q583, .ref q586, .int 0, .int (-1), .int 0, .int 0, .long 0, .ref q599, .ref q600, .ref q601, .ref q602]))]) u)) (va_A [(h0, .inr (12, [.int 0, .int 1, .int 1, .ref q562, .ref q571, .ref q574, .ref q577, .ref q580, .ref q583, .ref q586, .int 0, .int (-1), .int 0, .int 0, .long 0, .ref q599, .ref q600, .ref q601, .ref q602]))] sz)) 0 0 (va_A [(h0, .inr (12, [.int 0, .int 1, .int 1, .ref q562, .ref q571, .ref q574, .ref q577, .ref q580, .ref q583, .ref q586, .int 0, .int (-1), .int 0, .int 0, .long 0, .ref q599, .ref q600, .ref q601, .ref q602]))] sz) := by
  refine Met.ofW (cc := prog_14_method_29_code) (maxL := 5) (ret := (some .int)) (by decide) rfl ?_
  intro p e s m args below meth c s₁ B0 hml hv
  obtain ⟨rfl, hv⟩ := hv
  have hx := B0.exec
  have hb := B0.bytes
  have hr := B0.returns
  have hts := atoms_spec (ws := (Cond.code y_Mod_at prog_14_method_29_code 5 (some .int)) :: tw) B0.pre
  have htw : ∀ w ∈ tw, w.before _ s = true := fun w hw => hts w (List.mem_cons_of_mem _ hw)
  have hown : s.vm.findClass "DrawingMachineModel" = some m.cls := findClass_of_methodNamed B0.named
  have hlocks := B0.notSynchronized
  obtain ⟨hC, hP, hD, hsz⟩ := wC_init hv
  subst hsz
  generalize hAe : va_A [(h0, .inr (12, [.int 0, .int 1, .int 1, .ref q562, .ref q571, .ref q574, .ref q577, .ref q580, .ref q583, .ref q586, .int 0, .int (-1), .int 0, .int 0, .long 0, .ref q599, .ref q600, .ref q601, .ref q602]))] s.heap.size = A at hC hD ⊢
  have hS : va_S A s.heap s.heap [] := va_S.rf
  have hl := lv_entry ([.ref h0, .int 0, .int py, .int x]) (n := 5) (Nat.le_of_ble_eq_true rfl)
  rw [lg_entry_eq]
  generalize (lg_sl ([.ref h0, .int 0, .int py, .int x]) ++ List.replicate (5 - (lg_sl ([.ref h0, .int 0, .int py, .int x])).length) Slot.unset).toArray = ls at hl ⊢
  have hl : lv_has ls 5 [(0, .ref h0), (1, .int 0), (2, .int py), (3, .int x)] := hl
  refine lv_iload_n hx hb d_Mod_at_0 rfl (lv_at hl 3 rfl) ?_
  refine lv_i2l (v := x.toInt64) hx hb d_Mod_at_1 rfl ?_
  refine lv_lconst (v := 0) hx hb d_Mod_at_2 (by decide) ?_
  refine lv_ldc2 (v := 2) hx hb hown (htw _ k690) d_Mod_at_3 ?_
  refine wc_i (wr := [(h0, .inr (12, [.int 0, .int 1, .int 1, .ref q562, .ref q571, .ref q574, .ref q577, .ref q580, .ref q583, .ref q586, .int 0, .int (-1), .int 0, .int 0, .long 0, .ref q599, .ref q600, .ref q601, .ref q602]))]) hC hP hD hS [] [0] rfl rfl (by decide) (by decide) (va_runS (As := [.long x.toInt64, .long 0, .long 2]) (rest := []) ⟨hx, hb, hml, hown, htw⟩ (c_Mod_in_t l D cI cL B _ x.toInt64 0 2 (good_lo 0 (by decide) h1) (good_hi 2 (by decide) h2)) (va_cwS 3 htw gS_Mod_90 rfl rfl rfl (by decide +kernel) ⟨Nat.le_of_ble_eq_true rfl, Nat.le_of_ble_eq_true rfl⟩) (wC_pre hC hP hD hS [] (by decide) rfl) rfl rfl hl.1 rfl (lv_room (Nat.le_of_ble_eq_true rfl)) d_Mod_at_6 ⟨Nat.le_of_ble_eq_true rfl, Nat.le_of_ble_eq_true rfl⟩) (fun r1185 u1183 H locs hw1184 hP hD hS => ?_)
  obtain rfl : r1185 = 1 := hw1184
  have hP : va_P D classes [(h0, .inr (12, [.int 0, .int 1, .int 1, .ref q562, .ref q571, .ref q574, .ref q577, .ref q580, .ref q583, .ref q586, .int 0, .int (-1), .int 0, .int 0, .long 0, .ref q599, .ref q600, .ref q601, .ref q602]))] H := hP
  have hD : va_D A [(h0, .inr (12, [.int 0, .int 1, .int 1, .ref q562, .ref q571, .ref q574, .ref q577, .ref q580, .ref q583, .ref q586, .int 0, .int (-1), .int 0, .int 0, .long 0, .ref q599, .ref q600, .ref q601, .ref q602]))] := hD
  refine W.widen (k := 0) (n := 0) (by omega) (by omega) ?_
  refine lv_istore (lv' := [(4, .int 1), (0, .ref h0), (1, .int 0), (2, .int py), (3, .int x)]) hx hb d_Mod_at_9 hl (by decide) rfl (fun ls hl => ?_)
  refine lv_aload_n hx hb d_Mod_at_11 rfl (lv_at hl 1 rfl) ?_
  refine lv_iload hx hb d_Mod_at_12 (lv_at hl 0 rfl) ?_
  refine lv_if_ne (tgt := 21) hx hb d_Mod_at_14 (by decide) (fun c_1186 => ?_) (fun c_1186 => absurd c_1186 (by decide))
  refine lv_iconst (v := 0) hx hb d_Mod_at_21 (by decide) ?_
  refine lv_iload hx hb d_Mod_at_22 (lv_at hl 0 rfl) ?_
  refine lv_if_eq (tgt := 63) hx hb d_Mod_at_24 (by decide) (fun c_1187 => absurd c_1187 (by decide)) (fun c_1187 => ?_)
  refine lv_iload_n hx hb d_Mod_at_27 rfl (lv_at hl 2 rfl) ?_
  refine lv_i2l (v := 0) hx hb d_Mod_at_28 (by decide) ?_
  refine lv_lconst (v := 0) hx hb d_Mod_at_29 (by decide) ?_
  refine lv_aload_n hx hb d_Mod_at_30 rfl (lv_at hl 1 rfl) ?_
  refine va_get (D := D) (ci := 12) (v := .int 1) (C := R_Mod) (T := F_Mod) (N := 19) hx hb htw i_Mod hown hC.1 hP 0 rfl rfl 1 (by decide) (htw _ k515) (fun _ h9 => h9) rfl d_Mod_at_31 ?_
  refine lv_iconst (v := 1) hx hb d_Mod_at_34 (by decide) ?_
  refine lv_isub hx hb d_Mod_at_35 ?_
  refine wi_c (v := 0) (by decide) ?_
  refine lv_i2l (v := 0) hx hb d_Mod_at_36 (by decide) ?_
  refine wc_i (wr := [(h0, .inr (12, [.int 0, .int 1, .int 1, .ref q562, .ref q571, .ref q574, .ref q577, .ref q580, .ref q583, .ref q586, .int 0, .int (-1), .int 0, .int 0, .long 0, .ref q599, .ref q600, .ref q601, .ref q602]))]) hC hP hD hS [] [0] rfl rfl (by decide) (by decide) (va_runS (As := [.long 0, .long 0, .long 0]) (rest := [.int 0, .ref h0]) ⟨hx, hb, hml, hown, htw⟩ (c_Mod_in_t l D cI cL B _ 0 0 0 (by decide) (by decide)) (va_cwS 3 htw gS_Mod_90 rfl rfl rfl (by decide +kernel) ⟨Nat.le_of_ble_eq_true rfl, Nat.le_of_ble_eq_true rfl⟩) (wC_pre hC hP hD hS [] (by decide) rfl) rfl rfl hl.1 rfl (lv_room (Nat.le_of_ble_eq_true rfl)) d_Mod_at_37 ⟨Nat.le_of_ble_eq_true rfl, Nat.le_of_ble_eq_true rfl⟩) (fun r1190 u1188 H locs hw1189 hP hD hS => ?_)
  obtain rfl : r1190 = 1 := hw1189
  have hP : va_P D classes [(h0, .inr (12, [.int 0, .int 1, .int 1, .ref q562, .ref q571, .ref q574, .ref q577, .ref q580, .ref q583, .ref q586, .int 0, .int (-1), .int 0, .int 0, .long 0, .ref q599, .ref q600, .ref q601, .ref q602]))] H := hP
  have hD : va_D A [(h0, .inr (12, [.int 0, .int 1, .int 1, .ref q562, .ref q571, .ref q574, .ref q577, .ref q580, .ref q583, .ref q586, .int 0, .int (-1), .int 0, .int 0, .long 0, .ref q599, .ref q600, .ref q601, .ref q602]))] := hD
  refine W.widen (k := 0) (n := 0) (by omega) (by omega) ?_
  refine lv_if_eq (tgt := 59) hx hb d_Mod_at_40 (by decide) (fun c_1191 => absurd c_1191 (by decide)) (fun c_1191 => ?_)
  refine lv_iload_n hx hb d_Mod_at_43 rfl (lv_at hl 3 rfl) ?_
  refine lv_i2l (v := py.toInt64) hx hb d_Mod_at_44 rfl ?_
  refine lv_lconst (v := 0) hx hb d_Mod_at_45 (by decide) ?_
  refine lv_aload_n hx hb d_Mod_at_46 rfl (lv_at hl 1 rfl) ?_
  refine va_get (D := D) (ci := 12) (v := .int 1) (C := R_Mod) (T := F_Mod) (N := 19) hx hb htw i_Mod hown hC.1 hP 0 rfl rfl 2 (by decide) (htw _ k516) (fun _ h9 => h9) rfl d_Mod_at_47 ?_
  refine lv_iconst (v := 1) hx hb d_Mod_at_50 (by decide) ?_
  refine lv_isub hx hb d_Mod_at_51 ?_
  refine wi_c (v := 0) (by decide) ?_
  refine lv_i2l (v := 0) hx hb d_Mod_at_52 (by decide) ?_
  refine wc_i (wr := [(h0, .inr (12, [.int 0, .int 1, .int 1, .ref q562, .ref q571, .ref q574, .ref q577, .ref q580, .ref q583, .ref q586, .int 0, .int (-1), .int 0, .int 0, .long 0, .ref q599, .ref q600, .ref q601, .ref q602]))]) hC hP hD hS [] [0] rfl rfl (by decide) (by decide) (va_runS (As := [.long py.toInt64, .long 0, .long 0]) (rest := [.int 0, .ref h0]) ⟨hx, hb, hml, hown, htw⟩ (c_Mod_in_f l D cI cL B _ py.toInt64 0 0 (bad_in 0 0 (by decide) (by decide) hbd)) (va_cwS 3 htw gS_Mod_90 rfl rfl rfl (by decide +kernel) ⟨Nat.le_of_ble_eq_true rfl, Nat.le_of_ble_eq_true rfl⟩) (wC_pre hC hP hD hS [] (by decide) rfl) rfl rfl hl.1 rfl (lv_room (Nat.le_of_ble_eq_true rfl)) d_Mod_at_53 ⟨Nat.le_of_ble_eq_true rfl, Nat.le_of_ble_eq_true rfl⟩) (fun r1194 u1192 H locs hw1193 hP hD hS => ?_)
  obtain rfl : r1194 = 0 := hw1193
  have hP : va_P D classes [(h0, .inr (12, [.int 0, .int 1, .int 1, .ref q562, .ref q571, .ref q574, .ref q577, .ref q580, .ref q583, .ref q586, .int 0, .int (-1), .int 0, .int 0, .long 0, .ref q599, .ref q600, .ref q601, .ref q602]))] H := hP
  have hD : va_D A [(h0, .inr (12, [.int 0, .int 1, .int 1, .ref q562, .ref q571, .ref q574, .ref q577, .ref q580, .ref q583, .ref q586, .int 0, .int (-1), .int 0, .int 0, .long 0, .ref q599, .ref q600, .ref q601, .ref q602]))] := hD
  refine W.widen (k := 0) (n := 0) (by omega) (by omega) ?_
  refine lv_if_ne (tgt := 63) hx hb d_Mod_at_56 (by decide) (fun c_1195 => absurd c_1195 (by decide)) (fun c_1195 => ?_)
  refine lv_iconst (v := 1) hx hb d_Mod_at_59 (by decide) ?_
  refine lv_goto (tgt := 64) hx hb d_Mod_at_60 (by decide) ?_
  refine wc_i (wr := []) hC hP hD hS [0] [] rfl rfl (by decide) (by decide) (va_runV (As := [.int 0, .int 1]) (rest := []) ⟨hx, hb, hml, hown, htw⟩ (c_Mref_01 l D cI cL B _ h0 q562 q571 q574 q577 q580 q583 q586 q599 q600 q601 q602) (cwV 2 htw gV_Mod_94 rfl rfl rfl (by decide +kernel) ⟨Nat.le_of_ble_eq_true rfl, Nat.le_of_ble_eq_true rfl⟩) (wC_preV (As := [.int 0, .int 1]) hC hP hD hS [0] (by decide) rfl (q0 := 0) rfl rfl) rfl rfl hl.1 rfl (lv_room (Nat.le_of_ble_eq_true rfl)) d_Mod_at_64 ⟨Nat.le_of_ble_eq_true rfl, Nat.le_of_ble_eq_true rfl⟩) (fun r1198 u1196 H locs hw1197 hP hD hS => ?_)
  obtain rfl : r1198 = 1 := hw1197
  have hP : va_P D classes [(h0, .inr (12, [.int 2, .int 1, .int 1, .ref q562, .ref q571, .ref q574, .ref q577, .ref q580, .ref q583, .ref q586, .int 0, .int (-1), .int 0, .int 0, .long 0, .ref q599, .ref q600, .ref q601, .ref q602]))] H := hP
  have hD : va_D A [(h0, .inr (12, [.int 2, .int 1, .int 1, .ref q562, .ref q571, .ref q574, .ref q577, .ref q580, .ref q583, .ref q586, .int 0, .int (-1), .int 0, .int 0, .long 0, .ref q599, .ref q600, .ref q601, .ref q602]))] := hD
  refine W.widen (k := 0) (n := 0) (by omega) (by omega) ?_
  refine lv_if_eq (tgt := 72) hx hb d_Mod_at_67 (by decide) (fun c_1199 => absurd c_1199 (by decide)) (fun c_1199 => ?_)
  refine lv_iconst (v := 0) hx hb d_Mod_at_70 (by decide) ?_
  refine W.widen (k := 0) (n := 0) (Nat.le_of_ble_eq_true rfl) (Nat.le_of_ble_eq_true rfl) ?_
  have hP9 := hP.sub (ws' := [(h0, .inr (12, [.int 2, .int 1, .int 1, .ref q562, .ref q571, .ref q574, .ref q577, .ref q580, .ref q583, .ref q586, .int 0, .int (-1), .int 0, .int 0, .long 0, .ref q599, .ref q600, .ref q601, .ref q602]))]) [0] rfl
  have hD9 := hD.sub (ws' := [(h0, .inr (12, [.int 2, .int 1, .int 1, .ref q562, .ref q571, .ref q574, .ref q577, .ref q580, .ref q583, .ref q586, .int 0, .int (-1), .int 0, .int 0, .long 0, .ref q599, .ref q600, .ref q601, .ref q602]))]) [0] (by decide) rfl
  exact W.iret (v := 0) hx hb hr (fun t ht hW => ⟨⟨0, (), rfl, rfl, by rw [ht]; exact hP9, va_K.moved hW.alike hC.1, hD9⟩, hS.F ht⟩) hS.2.2 d_Mod_at_71

theorem d_Mod_sum_13 : decode prog_14_method_30_code 13 = .ok (.iconst 1, 1) := by decide +kernel
theorem d_Mod_sum_14 : decode prog_14_method_30_code 14 = .ok (.goto 4, 3) := by decide +kernel
theorem d_Mod_sum_25 : decode prog_14_method_30_code 25 = .ok (.iconst 0, 1) := by decide +kernel
theorem d_Mod_sum_26 : decode prog_14_method_30_code 26 = .ok (.ireturn, 1) := by decide +kernel
set_option maxHeartbeats 4000000 in
set_option maxRecDepth 100000 in
theorem c_Msum_b (l : Launch) (D : va_G) (cI cL : ClassId) (B sz : Nat) (h0 : Nat) (q562 : Nat) (q571 : Nat) (q574 : Nat) (q577 : Nat) (q580 : Nat) (q583 : Nat) (q586 : Nat) (q599 : Nat) (q600 : Nat) (q601 : Nat) (q602 : Nat) (x : Int32) (hbd : x < 0 ∨ 2 < x) : Met l y_Mod_sum ((Cond.code y_Mod_sum prog_14_method_30_code 2 (some .int)) :: tw) ({ frames := 40, cells := 0, slots := 0, locals := 4000 }) (va_Pc [.ref h0, .int x] (wP D cI cL B sz [(h0, .inr (12, [.int 0, .int 1, .int 1, .ref q562, .ref q571, .ref q574, .ref q577, .ref q580, .ref q583, .ref q586, .int 0, .int (-1), .int 0, .int 0, .long 0, .ref q599, .ref q600, .ref q601, .ref q602]))])) (va_Qi (S := Unit) (fun r u => r = 0) (fun u => wB D cI cL (va_A [(h0, .inr (12, [.int 0, .int 1, .int 1, .ref q562, .ref q571, .ref q574, .ref q577, .ref q580, .ref q583, .ref q586, .int 0, .int (-1), .int 0, .int 0, .long 0, .ref q599, .ref q600, .ref q601, .ref q602]))] sz) ((fun _ : Unit => [(h0, .inr (12, [.int 1, .int 1, .int 1, .ref q562, .ref q571, .ref q574, .ref q577, .ref q580, .ref q583, .ref q586, .int 0, .int (-1), .int 0, .int 0, .long 0, .ref q599, .ref q600, .ref q601, .ref q602]))]) u)) (va_A [(h0, .inr (12, [.int 0, .int 1, .int 1, .ref q562, .ref q571, .ref q574, .ref q577, .ref q580, .ref q583, .ref q586, .int 0, .int (-1), .int 0, .int 0, .long 0, .ref q599, .ref q600, .ref q601, .ref q602]))] sz)) 0 0 (va_A [(h0, .inr (12, [.int 0, .int 1, .int 1, .ref q562, .ref q571, .ref q574, .ref q577, .ref q580, .ref q583, .ref q586, .int 0, .int (-1), .int 0, .int 0, .long 0, .ref q599, .ref q600, .ref q601, .ref q602]))] sz) := by
  refine Met.ofW (cc := prog_14_method_30_code) (maxL := 2) (ret := (some .int)) (by decide) rfl ?_
  intro p e s m args below meth c s₁ B0 hml hv
  obtain ⟨rfl, hv⟩ := hv
  have hx := B0.exec
  have hb := B0.bytes
  have hr := B0.returns
  have hts := atoms_spec (ws := (Cond.code y_Mod_sum prog_14_method_30_code 2 (some .int)) :: tw) B0.pre
  have htw : ∀ w ∈ tw, w.before _ s = true := fun w hw => hts w (List.mem_cons_of_mem _ hw)
  have hown : s.vm.findClass "DrawingMachineModel" = some m.cls := findClass_of_methodNamed B0.named
  have hlocks := B0.notSynchronized
  obtain ⟨hC, hP, hD, hsz⟩ := wC_init hv
  subst hsz
  generalize hAe : va_A [(h0, .inr (12, [.int 0, .int 1, .int 1, .ref q562, .ref q571, .ref q574, .ref q577, .ref q580, .ref q583, .ref q586, .int 0, .int (-1), .int 0, .int 0, .long 0, .ref q599, .ref q600, .ref q601, .ref q602]))] s.heap.size = A at hC hD ⊢
  have hS : va_S A s.heap s.heap [] := va_S.rf
  have hl := lv_entry ([.ref h0, .int x]) (n := 2) (Nat.le_of_ble_eq_true rfl)
  rw [lg_entry_eq]
  generalize (lg_sl ([.ref h0, .int x]) ++ List.replicate (2 - (lg_sl ([.ref h0, .int x])).length) Slot.unset).toArray = ls at hl ⊢
  have hl : lv_has ls 2 [(0, .ref h0), (1, .int x)] := hl
  refine lv_aload_n hx hb d_Mod_sum_0 rfl (lv_at hl 0 rfl) ?_
  refine lv_iload_n hx hb d_Mod_sum_1 rfl (lv_at hl 1 rfl) ?_
  refine lv_i2l (v := x.toInt64) hx hb d_Mod_sum_2 rfl ?_
  refine lv_lconst (v := 0) hx hb d_Mod_sum_3 (by decide) ?_
  refine lv_ldc2 (v := 2) hx hb hown (htw _ k690) d_Mod_sum_4 ?_
  refine wc_i (wr := [(h0, .inr (12, [.int 0, .int 1, .int 1, .ref q562, .ref q571, .ref q574, .ref q577, .ref q580, .ref q583, .ref q586, .int 0, .int (-1), .int 0, .int 0, .long 0, .ref q599, .ref q600, .ref q601, .ref q602]))]) hC hP hD hS [] [0] rfl rfl (by decide) (by decide) (va_runS (As := [.long x.toInt64, .long 0, .long 2]) (rest := [.ref h0]) ⟨hx, hb, hml, hown, htw⟩ (c_Mod_in_f l D cI cL B _ x.toInt64 0 2 (bad_in 0 2 (by decide) (by decide) hbd)) (va_cwS 3 htw gS_Mod_90 rfl rfl rfl (by decide +kernel) ⟨Nat.le_of_ble_eq_true rfl, Nat.le_of_ble_eq_true rfl⟩) (wC_pre hC hP hD hS [] (by decide) rfl) rfl rfl hl.1 rfl (lv_room (Nat.le_of_ble_eq_true rfl)) d_Mod_sum_7 ⟨Nat.le_of_ble_eq_true rfl, Nat.le_of_ble_eq_true rfl⟩) (fun r1202 u1200 H locs hw1201 hP hD hS => ?_)
  obtain rfl : r1202 = 0 := hw1201
  have hP : va_P D classes [(h0, .inr (12, [.int 0, .int 1, .int 1, .ref q562, .ref q571, .ref q574, .ref q577, .ref q580, .ref q583, .ref q586, .int 0, .int (-1), .int 0, .int 0, .long 0, .ref q599, .ref q600, .ref q601, .ref q602]))] H := hP
  have hD : va_D A [(h0, .inr (12, [.int 0, .int 1, .int 1, .ref q562, .ref q571, .ref q574, .ref q577, .ref q580, .ref q583, .ref q586, .int 0, .int (-1), .int 0, .int 0, .long 0, .ref q599, .ref q600, .ref q601, .ref q602]))] := hD
  refine W.widen (k := 0) (n := 0) (by omega) (by omega) ?_
  refine lv_if_ne (tgt := 17) hx hb d_Mod_sum_10 (by decide) (fun c_1203 => absurd c_1203 (by decide)) (fun c_1203 => ?_)
  refine lv_iconst (v := 1) hx hb d_Mod_sum_13 (by decide) ?_
  refine lv_goto (tgt := 18) hx hb d_Mod_sum_14 (by decide) ?_
  refine lv_iconst (v := 0) hx hb d_Mod_sum_18 (by decide) ?_
  refine wc_i (wr := []) hC hP hD hS [0] [] rfl rfl (by decide) (by decide) (va_runV (As := [.int 1, .int 0]) (rest := []) ⟨hx, hb, hml, hown, htw⟩ (c_Mref_10 l D cI cL B _ h0 q562 q571 q574 q577 q580 q583 q586 q599 q600 q601 q602) (cwV 2 htw gV_Mod_94 rfl rfl rfl (by decide +kernel) ⟨Nat.le_of_ble_eq_true rfl, Nat.le_of_ble_eq_true rfl⟩) (wC_preV (As := [.int 1, .int 0]) hC hP hD hS [0] (by decide) rfl (q0 := 0) rfl rfl) rfl rfl hl.1 rfl (lv_room (Nat.le_of_ble_eq_true rfl)) d_Mod_sum_19 ⟨Nat.le_of_ble_eq_true rfl, Nat.le_of_ble_eq_true rfl⟩) (fun r1206 u1204 H locs hw1205 hP hD hS => ?_)
  obtain rfl : r1206 = 1 := hw1205
  have hP : va_P D classes [(h0, .inr (12, [.int 1, .int 1, .int 1, .ref q562, .ref q571, .ref q574, .ref q577, .ref q580, .ref q583, .ref q586, .int 0, .int (-1), .int 0, .int 0, .long 0, .ref q599, .ref q600, .ref q601, .ref q602]))] H := hP
  have hD : va_D A [(h0, .inr (12, [.int 1, .int 1, .int 1, .ref q562, .ref q571, .ref q574, .ref q577, .ref q580, .ref q583, .ref q586, .int 0, .int (-1), .int 0, .int 0, .long 0, .ref q599, .ref q600, .ref q601, .ref q602]))] := hD
  refine W.widen (k := 0) (n := 0) (by omega) (by omega) ?_
  refine lv_if_eq (tgt := 27) hx hb d_Mod_sum_22 (by decide) (fun c_1207 => absurd c_1207 (by decide)) (fun c_1207 => ?_)
  refine lv_iconst (v := 0) hx hb d_Mod_sum_25 (by decide) ?_
  refine W.widen (k := 0) (n := 0) (Nat.le_of_ble_eq_true rfl) (Nat.le_of_ble_eq_true rfl) ?_
  have hP9 := hP.sub (ws' := [(h0, .inr (12, [.int 1, .int 1, .int 1, .ref q562, .ref q571, .ref q574, .ref q577, .ref q580, .ref q583, .ref q586, .int 0, .int (-1), .int 0, .int 0, .long 0, .ref q599, .ref q600, .ref q601, .ref q602]))]) [0] rfl
  have hD9 := hD.sub (ws' := [(h0, .inr (12, [.int 1, .int 1, .int 1, .ref q562, .ref q571, .ref q574, .ref q577, .ref q580, .ref q583, .ref q586, .int 0, .int (-1), .int 0, .int 0, .long 0, .ref q599, .ref q600, .ref q601, .ref q602]))]) [0] (by decide) rfl
  exact W.iret (v := 0) hx hb hr (fun t ht hW => ⟨⟨0, (), rfl, rfl, by rw [ht]; exact hP9, va_K.moved hW.alike hC.1, hD9⟩, hS.F ht⟩) hS.2.2 d_Mod_sum_26

theorem d_Mod_query_0 : decode prog_14_method_31_code 0 = .ok (.aload_n 0, 1) := by decide +kernel
theorem d_Mod_query_1 : decode prog_14_method_31_code 1 = .ok (.iload_n 1, 1) := by decide +kernel
theorem d_Mod_query_2 : decode prog_14_method_31_code 2 = .ok (.i2l, 1) := by decide +kernel
theorem d_Mod_query_3 : decode prog_14_method_31_code 3 = .ok (.lconst 0, 1) := by decide +kernel
theorem d_Mod_query_4 : decode prog_14_method_31_code 4 = .ok (.ldc2_w 372, 3) := by decide +kernel
theorem d_Mod_query_7 : decode prog_14_method_31_code 7 = .ok (.invokestatic 90, 3) := by decide +kernel
theorem d_Mod_query_10 : decode prog_14_method_31_code 10 = .ok (.ifCond .ne 7, 3) := by decide +kernel
theorem d_Mod_query_17 : decode prog_14_method_31_code 17 = .ok (.iconst 0, 1) := by decide +kernel
theorem d_Mod_query_18 : decode prog_14_method_31_code 18 = .ok (.iconst 0, 1) := by decide +kernel
theorem d_Mod_query_19 : decode prog_14_method_31_code 19 = .ok (.invokevirtual 94, 3) := by decide +kernel
theorem d_Mod_query_22 : decode prog_14_method_31_code 22 = .ok (.ifCond .eq 5, 3) := by decide +kernel
theorem d_Mod_query_27 : decode prog_14_method_31_code 27 = .ok (.aload_n 0, 1) := by decide +kernel
theorem d_Mod_query_28 : decode prog_14_method_31_code 28 = .ok (.getfield 72, 3) := by decide +kernel
theorem d_Mod_query_31 : decode prog_14_method_31_code 31 = .ok (.iload_n 1, 1) := by decide +kernel
theorem d_Mod_query_32 : decode prog_14_method_31_code 32 = .ok (.iaload, 1) := by decide +kernel
theorem d_Mod_query_33 : decode prog_14_method_31_code 33 = .ok (.ireturn, 1) := by decide +kernel
set_option maxHeartbeats 4000000 in
set_option maxRecDepth 100000 in
theorem c_Mquery_g (l : Launch) (D : va_G) (cI cL : ClassId) (B sz : Nat) (h0 : Nat) (q562 : Nat) (q571 : Nat) (q574 : Nat) (q577 : Nat) (q580 : Nat) (q583 : Nat) (q586 : Nat) (q599 : Nat) (q600 : Nat) (q601 : Nat) (q602 : Nat) (j : Nat) (hj : j < 8) : Met l y_Mod_query ((Cond.code y_Mod_query prog_14_method_31_code 2 (some .int)) :: tw) ({ frames := 50, cells := 0, slots := 0, locals := 5000 }) (va_Pc [.ref h0, .int (nI j)] (wP D cI cL B sz [(h0, .inr (12, [.int 0, .int 1, .int 1, .ref q562, .ref q571, .ref q574, .ref q577, .ref q580, .ref q583, .ref q586, .int 0, .int (-1), .int 0, .int 0, .long 0, .ref q599, .ref q600, .ref q601, .ref q602])), (q599, .inl (cI, 8, .inl (fun _ => 0)))])) (va_Qi (S := Unit) (fun r u => r = 0) (fun u => wB D cI cL (va_A [(h0, .inr (12, [.int 0, .int 1, .int 1, .ref q562, .ref q571, .ref q574, .ref q577, .ref q580, .ref q583, .ref q586, .int 0, .int (-1), .int 0, .int 0, .long 0, .ref q599, .ref q600, .ref q601, .ref q602])), (q599, .inl (cI, 8, .inl (fun _ => 0)))] sz) ((fun _ : Unit => [(h0, .inr (12, [.int 0, .int 1, .int 1, .ref q562, .ref q571, .ref q574, .ref q577, .ref q580, .ref q583, .ref q586, .int 0, .int (-1), .int 0, .int 0, .long 0, .ref q599, .ref q600, .ref q601, .ref q602]))]) u)) (va_A [(h0, .inr (12, [.int 0, .int 1, .int 1, .ref q562, .ref q571, .ref q574, .ref q577, .ref q580, .ref q583, .ref q586, .int 0, .int (-1), .int 0, .int 0, .long 0, .ref q599, .ref q600, .ref q601, .ref q602])), (q599, .inl (cI, 8, .inl (fun _ => 0)))] sz)) 0 0 (va_A [(h0, .inr (12, [.int 0, .int 1, .int 1, .ref q562, .ref q571, .ref q574, .ref q577, .ref q580, .ref q583, .ref q586, .int 0, .int (-1), .int 0, .int 0, .long 0, .ref q599, .ref q600, .ref q601, .ref q602])), (q599, .inl (cI, 8, .inl (fun _ => 0)))] sz) := by
  refine Met.ofW (cc := prog_14_method_31_code) (maxL := 2) (ret := (some .int)) (by decide) rfl ?_
  intro p e s m args below meth c s₁ B0 hml hv
  obtain ⟨rfl, hv⟩ := hv
  have hx := B0.exec
  have hb := B0.bytes
  have hr := B0.returns
  have hts := atoms_spec (ws := (Cond.code y_Mod_query prog_14_method_31_code 2 (some .int)) :: tw) B0.pre
  have htw : ∀ w ∈ tw, w.before _ s = true := fun w hw => hts w (List.mem_cons_of_mem _ hw)
  have hown : s.vm.findClass "DrawingMachineModel" = some m.cls := findClass_of_methodNamed B0.named
  have hlocks := B0.notSynchronized
  obtain ⟨hC, hP, hD, hsz⟩ := wC_init hv
  subst hsz
  generalize hAe : va_A [(h0, .inr (12, [.int 0, .int 1, .int 1, .ref q562, .ref q571, .ref q574, .ref q577, .ref q580, .ref q583, .ref q586, .int 0, .int (-1), .int 0, .int 0, .long 0, .ref q599, .ref q600, .ref q601, .ref q602])), (q599, .inl (cI, 8, .inl (fun _ => 0)))] s.heap.size = A at hC hD ⊢
  have hS : va_S A s.heap s.heap [] := va_S.rf
  have hl := lv_entry ([.ref h0, .int (nI j)]) (n := 2) (Nat.le_of_ble_eq_true rfl)
  rw [lg_entry_eq]
  generalize (lg_sl ([.ref h0, .int (nI j)]) ++ List.replicate (2 - (lg_sl ([.ref h0, .int (nI j)])).length) Slot.unset).toArray = ls at hl ⊢
  have hl : lv_has ls 2 [(0, .ref h0), (1, .int (nI j))] := hl
  refine lv_aload_n hx hb d_Mod_query_0 rfl (lv_at hl 0 rfl) ?_
  refine lv_iload_n hx hb d_Mod_query_1 rfl (lv_at hl 1 rfl) ?_
  refine lv_i2l (v := (nI j).toInt64) hx hb d_Mod_query_2 rfl ?_
  refine lv_lconst (v := 0) hx hb d_Mod_query_3 (by decide) ?_
  refine lv_ldc2 (v := 7) hx hb hown (htw _ k699) d_Mod_query_4 ?_
  refine wc_i (wr := [(h0, .inr (12, [.int 0, .int 1, .int 1, .ref q562, .ref q571, .ref q574, .ref q577, .ref q580, .ref q583, .ref q586, .int 0, .int (-1), .int 0, .int 0, .long 0, .ref q599, .ref q600, .ref q601, .ref q602])), (q599, .inl (cI, 8, .inl (fun _ => 0)))]) hC hP hD hS [] [0, 1] rfl rfl (by decide) (by decide) (va_runS (As := [.long ((nI j).toInt64), .long 0, .long 7]) (rest := [.ref h0]) ⟨hx, hb, hml, hown, htw⟩ (c_Mod_in_t l D cI cL B _ ((nI j).toInt64) 0 7 (good_lo 0 (by decide) (nI_pos (by omega))) (good_hi 7 (by decide) (nI_nlt (a := 7) (b := j) (by omega) (by omega)))) (va_cwS 3 htw gS_Mod_90 rfl rfl rfl (by decide +kernel) ⟨Nat.le_of_ble_eq_true rfl, Nat.le_of_ble_eq_true rfl⟩) (wC_pre hC hP hD hS [] (by decide) rfl) rfl rfl hl.1 rfl (lv_room (Nat.le_of_ble_eq_true rfl)) d_Mod_query_7 ⟨Nat.le_of_ble_eq_true rfl, Nat.le_of_ble_eq_true rfl⟩) (fun r1210 u1208 H locs hw1209 hP hD hS => ?_)
  obtain rfl : r1210 = 1 := hw1209
  have hP : va_P D classes [(h0, .inr (12, [.int 0, .int 1, .int 1, .ref q562, .ref q571, .ref q574, .ref q577, .ref q580, .ref q583, .ref q586, .int 0, .int (-1), .int 0, .int 0, .long 0, .ref q599, .ref q600, .ref q601, .ref q602])), (q599, .inl (cI, 8, .inl (fun _ => 0)))] H := hP
  have hD : va_D A [(h0, .inr (12, [.int 0, .int 1, .int 1, .ref q562, .ref q571, .ref q574, .ref q577, .ref q580, .ref q583, .ref q586, .int 0, .int (-1), .int 0, .int 0, .long 0, .ref q599, .ref q600, .ref q601, .ref q602])), (q599, .inl (cI, 8, .inl (fun _ => 0)))] := hD
  refine W.widen (k := 0) (n := 0) (by omega) (by omega) ?_
  refine lv_if_ne (tgt := 17) hx hb d_Mod_query_10 (by decide) (fun c_1211 => ?_) (fun c_1211 => absurd c_1211 (by decide))
  refine lv_iconst (v := 0) hx hb d_Mod_query_17 (by decide) ?_
  refine lv_iconst (v := 0) hx hb d_Mod_query_18 (by decide) ?_
  refine wc_i (wr := [(q599, .inl (cI, 8, .inl (fun _ => 0)))]) hC hP hD hS [0] [1] rfl rfl (by decide) (by decide) (va_runV (As := [.int 0, .int 0]) (rest := []) ⟨hx, hb, hml, hown, htw⟩ (c_Mref_00 l D cI cL B _ h0 q562 q571 q574 q577 q580 q583 q586 q599 q600 q601 q602) (cwV 2 htw gV_Mod_94 rfl rfl rfl (by decide +kernel) ⟨Nat.le_of_ble_eq_true rfl, Nat.le_of_ble_eq_true rfl⟩) (wC_preV (As := [.int 0, .int 0]) hC hP hD hS [0] (by decide) rfl (q0 := 0) rfl rfl) rfl rfl hl.1 rfl (lv_room (Nat.le_of_ble_eq_true rfl)) d_Mod_query_19 ⟨Nat.le_of_ble_eq_true rfl, Nat.le_of_ble_eq_true rfl⟩) (fun r1214 u1212 H locs hw1213 hP hD hS => ?_)
  obtain rfl : r1214 = 0 := hw1213
  have hP : va_P D classes [(q599, .inl (cI, 8, .inl (fun _ => 0))), (h0, .inr (12, [.int 0, .int 1, .int 1, .ref q562, .ref q571, .ref q574, .ref q577, .ref q580, .ref q583, .ref q586, .int 0, .int (-1), .int 0, .int 0, .long 0, .ref q599, .ref q600, .ref q601, .ref q602]))] H := hP
  have hD : va_D A [(q599, .inl (cI, 8, .inl (fun _ => 0))), (h0, .inr (12, [.int 0, .int 1, .int 1, .ref q562, .ref q571, .ref q574, .ref q577, .ref q580, .ref q583, .ref q586, .int 0, .int (-1), .int 0, .int 0, .long 0, .ref q599, .ref q600, .ref q601, .ref q602]))] := hD
  refine W.widen (k := 0) (n := 0) (by omega) (by omega) ?_
  refine lv_if_eq (tgt := 27) hx hb d_Mod_query_22 (by decide) (fun c_1215 => ?_) (fun c_1215 => absurd c_1215 (by decide))
  refine lv_aload_n hx hb d_Mod_query_27 rfl (lv_at hl 0 rfl) ?_
  refine va_get (D := D) (ci := 12) (v := .ref q599) (C := R_Mod) (T := F_Mod) (N := 19) hx hb htw i_Mod hown hC.1 hP 1 rfl rfl 15 (by decide) (htw _ k549) (fun _ h9 => h9) rfl d_Mod_query_28 ?_
  refine lv_iload_n hx hb d_Mod_query_31 rfl (lv_at hl 1 rfl) ?_
  refine va_iald hx hb hC.1 hP 0 0 rfl rfl (vp_in_nI (by omega) (by omega)) d_Mod_query_32 ?_
  refine wi_c (v := 0) rfl ?_
  refine W.widen (k := 0) (n := 0) (Nat.le_of_ble_eq_true rfl) (Nat.le_of_ble_eq_true rfl) ?_
  have hP9 := hP.sub (ws' := [(h0, .inr (12, [.int 0, .int 1, .int 1, .ref q562, .ref q571, .ref q574, .ref q577, .ref q580, .ref q583, .ref q586, .int 0, .int (-1), .int 0, .int 0, .long 0, .ref q599, .ref q600, .ref q601, .ref q602]))]) [1] rfl
  have hD9 := hD.sub (ws' := [(h0, .inr (12, [.int 0, .int 1, .int 1, .ref q562, .ref q571, .ref q574, .ref q577, .ref q580, .ref q583, .ref q586, .int 0, .int (-1), .int 0, .int 0, .long 0, .ref q599, .ref q600, .ref q601, .ref q602]))]) [1] (by decide) rfl
  exact W.iret (v := 0) hx hb hr (fun t ht hW => ⟨⟨0, (), rfl, rfl, by rw [ht]; exact hP9, va_K.moved hW.alike hC.1, hD9⟩, hS.F ht⟩) hS.2.2 d_Mod_query_33

theorem d_Mod_query_13 : decode prog_14_method_31_code 13 = .ok (.iconst 1, 1) := by decide +kernel
theorem d_Mod_query_14 : decode prog_14_method_31_code 14 = .ok (.goto 4, 3) := by decide +kernel
theorem d_Mod_query_25 : decode prog_14_method_31_code 25 = .ok (.iconst 0, 1) := by decide +kernel
theorem d_Mod_query_26 : decode prog_14_method_31_code 26 = .ok (.ireturn, 1) := by decide +kernel
set_option maxHeartbeats 4000000 in
set_option maxRecDepth 100000 in
theorem c_Mquery_b (l : Launch) (D : va_G) (cI cL : ClassId) (B sz : Nat) (h0 : Nat) (q562 : Nat) (q571 : Nat) (q574 : Nat) (q577 : Nat) (q580 : Nat) (q583 : Nat) (q586 : Nat) (q599 : Nat) (q600 : Nat) (q601 : Nat) (q602 : Nat) (x : Int32) (hbd : x < 0 ∨ 7 < x) : Met l y_Mod_query ((Cond.code y_Mod_query prog_14_method_31_code 2 (some .int)) :: tw) ({ frames := 50, cells := 0, slots := 0, locals := 5000 }) (va_Pc [.ref h0, .int x] (wP D cI cL B sz [(h0, .inr (12, [.int 0, .int 1, .int 1, .ref q562, .ref q571, .ref q574, .ref q577, .ref q580, .ref q583, .ref q586, .int 0, .int (-1), .int 0, .int 0, .long 0, .ref q599, .ref q600, .ref q601, .ref q602]))])) (va_Qi (S := Unit) (fun r u => r = 0) (fun u => wB D cI cL (va_A [(h0, .inr (12, [.int 0, .int 1, .int 1, .ref q562, .ref q571, .ref q574, .ref q577, .ref q580, .ref q583, .ref q586, .int 0, .int (-1), .int 0, .int 0, .long 0, .ref q599, .ref q600, .ref q601, .ref q602]))] sz) ((fun _ : Unit => [(h0, .inr (12, [.int 1, .int 1, .int 1, .ref q562, .ref q571, .ref q574, .ref q577, .ref q580, .ref q583, .ref q586, .int 0, .int (-1), .int 0, .int 0, .long 0, .ref q599, .ref q600, .ref q601, .ref q602]))]) u)) (va_A [(h0, .inr (12, [.int 0, .int 1, .int 1, .ref q562, .ref q571, .ref q574, .ref q577, .ref q580, .ref q583, .ref q586, .int 0, .int (-1), .int 0, .int 0, .long 0, .ref q599, .ref q600, .ref q601, .ref q602]))] sz)) 0 0 (va_A [(h0, .inr (12, [.int 0, .int 1, .int 1, .ref q562, .ref q571, .ref q574, .ref q577, .ref q580, .ref q583, .ref q586, .int 0, .int (-1), .int 0, .int 0, .long 0, .ref q599, .ref q600, .ref q601, .ref q602]))] sz) := by
  refine Met.ofW (cc := prog_14_method_31_code) (maxL := 2) (ret := (some .int)) (by decide) rfl ?_
  intro p e s m args below meth c s₁ B0 hml hv
  obtain ⟨rfl, hv⟩ := hv
  have hx := B0.exec
  have hb := B0.bytes
  have hr := B0.returns
  have hts := atoms_spec (ws := (Cond.code y_Mod_query prog_14_method_31_code 2 (some .int)) :: tw) B0.pre
  have htw : ∀ w ∈ tw, w.before _ s = true := fun w hw => hts w (List.mem_cons_of_mem _ hw)
  have hown : s.vm.findClass "DrawingMachineModel" = some m.cls := findClass_of_methodNamed B0.named
  have hlocks := B0.notSynchronized
  obtain ⟨hC, hP, hD, hsz⟩ := wC_init hv
  subst hsz
  generalize hAe : va_A [(h0, .inr (12, [.int 0, .int 1, .int 1, .ref q562, .ref q571, .ref q574, .ref q577, .ref q580, .ref q583, .ref q586, .int 0, .int (-1), .int 0, .int 0, .long 0, .ref q599, .ref q600, .ref q601, .ref q602]))] s.heap.size = A at hC hD ⊢
  have hS : va_S A s.heap s.heap [] := va_S.rf
  have hl := lv_entry ([.ref h0, .int x]) (n := 2) (Nat.le_of_ble_eq_true rfl)
  rw [lg_entry_eq]
  generalize (lg_sl ([.ref h0, .int x]) ++ List.replicate (2 - (lg_sl ([.ref h0, .int x])).length) Slot.unset).toArray = ls at hl ⊢
  have hl : lv_has ls 2 [(0, .ref h0), (1, .int x)] := hl
  refine lv_aload_n hx hb d_Mod_query_0 rfl (lv_at hl 0 rfl) ?_
  refine lv_iload_n hx hb d_Mod_query_1 rfl (lv_at hl 1 rfl) ?_
  refine lv_i2l (v := x.toInt64) hx hb d_Mod_query_2 rfl ?_
  refine lv_lconst (v := 0) hx hb d_Mod_query_3 (by decide) ?_
  refine lv_ldc2 (v := 7) hx hb hown (htw _ k699) d_Mod_query_4 ?_
  refine wc_i (wr := [(h0, .inr (12, [.int 0, .int 1, .int 1, .ref q562, .ref q571, .ref q574, .ref q577, .ref q580, .ref q583, .ref q586, .int 0, .int (-1), .int 0, .int 0, .long 0, .ref q599, .ref q600, .ref q601, .ref q602]))]) hC hP hD hS [] [0] rfl rfl (by decide) (by decide) (va_runS (As := [.long x.toInt64, .long 0, .long 7]) (rest := [.ref h0]) ⟨hx, hb, hml, hown, htw⟩ (c_Mod_in_f l D cI cL B _ x.toInt64 0 7 (bad_in 0 7 (by decide) (by decide) hbd)) (va_cwS 3 htw gS_Mod_90 rfl rfl rfl (by decide +kernel) ⟨Nat.le_of_ble_eq_true rfl, Nat.le_of_ble_eq_true rfl⟩) (wC_pre hC hP hD hS [] (by decide) rfl) rfl rfl hl.1 rfl (lv_room (Nat.le_of_ble_eq_true rfl)) d_Mod_query_7 ⟨Nat.le_of_ble_eq_true rfl, Nat.le_of_ble_eq_true rfl⟩) (fun r1218 u1216 H locs hw1217 hP hD hS => ?_)
  obtain rfl : r1218 = 0 := hw1217
  have hP : va_P D classes [(h0, .inr (12, [.int 0, .int 1, .int 1, .ref q562, .ref q571, .ref q574, .ref q577, .ref q580, .ref q583, .ref q586, .int 0, .int (-1), .int 0, .int 0, .long 0, .ref q599, .ref q600, .ref q601, .ref q602]))] H := hP
  have hD : va_D A [(h0, .inr (12, [.int 0, .int 1, .int 1, .ref q562, .ref q571, .ref q574, .ref q577, .ref q580, .ref q583, .ref q586, .int 0, .int (-1), .int 0, .int 0, .long 0, .ref q599, .ref q600, .ref q601, .ref q602]))] := hD
  refine W.widen (k := 0) (n := 0) (by omega) (by omega) ?_
  refine lv_if_ne (tgt := 17) hx hb d_Mod_query_10 (by decide) (fun c_1219 => absurd c_1219 (by decide)) (fun c_1219 => ?_)
  refine lv_iconst (v := 1) hx hb d_Mod_query_13 (by decide) ?_
  refine lv_goto (tgt := 18) hx hb d_Mod_query_14 (by decide) ?_
  refine lv_iconst (v := 0) hx hb d_Mod_query_18 (by decide) ?_
  refine wc_i (wr := []) hC hP hD hS [0] [] rfl rfl (by decide) (by decide) (va_runV (As := [.int 1, .int 0]) (rest := []) ⟨hx, hb, hml, hown, htw⟩ (c_Mref_10 l D cI cL B _ h0 q562 q571 q574 q577 q580 q583 q586 q599 q600 q601 q602) (cwV 2 htw gV_Mod_94 rfl rfl rfl (by decide +kernel) ⟨Nat.le_of_ble_eq_true rfl, Nat.le_of_ble_eq_true rfl⟩) (wC_preV (As := [.int 1, .int 0]) hC hP hD hS [0] (by decide) rfl (q0 := 0) rfl rfl) rfl rfl hl.1 rfl (lv_room (Nat.le_of_ble_eq_true rfl)) d_Mod_query_19 ⟨Nat.le_of_ble_eq_true rfl, Nat.le_of_ble_eq_true rfl⟩) (fun r1222 u1220 H locs hw1221 hP hD hS => ?_)
  obtain rfl : r1222 = 1 := hw1221
  have hP : va_P D classes [(h0, .inr (12, [.int 1, .int 1, .int 1, .ref q562, .ref q571, .ref q574, .ref q577, .ref q580, .ref q583, .ref q586, .int 0, .int (-1), .int 0, .int 0, .long 0, .ref q599, .ref q600, .ref q601, .ref q602]))] H := hP
  have hD : va_D A [(h0, .inr (12, [.int 1, .int 1, .int 1, .ref q562, .ref q571, .ref q574, .ref q577, .ref q580, .ref q583, .ref q586, .int 0, .int (-1), .int 0, .int 0, .long 0, .ref q599, .ref q600, .ref q601, .ref q602]))] := hD
  refine W.widen (k := 0) (n := 0) (by omega) (by omega) ?_
  refine lv_if_eq (tgt := 27) hx hb d_Mod_query_22 (by decide) (fun c_1223 => absurd c_1223 (by decide)) (fun c_1223 => ?_)
  refine lv_iconst (v := 0) hx hb d_Mod_query_25 (by decide) ?_
  refine W.widen (k := 0) (n := 0) (Nat.le_of_ble_eq_true rfl) (Nat.le_of_ble_eq_true rfl) ?_
  have hP9 := hP.sub (ws' := [(h0, .inr (12, [.int 1, .int 1, .int 1, .ref q562, .ref q571, .ref q574, .ref q577, .ref q580, .ref q583, .ref q586, .int 0, .int (-1), .int 0, .int 0, .long 0, .ref q599, .ref q600, .ref q601, .ref q602]))]) [0] rfl
  have hD9 := hD.sub (ws' := [(h0, .inr (12, [.int 1, .int 1, .int 1, .ref q562, .ref q571, .ref q574, .ref q577, .ref q580, .ref q583, .ref q586, .int 0, .int (-1), .int 0, .int 0, .long 0, .ref q599, .ref q600, .ref q601, .ref q602]))]) [0] (by decide) rfl
  exact W.iret (v := 0) hx hb hr (fun t ht hW => ⟨⟨0, (), rfl, rfl, by rw [ht]; exact hP9, va_K.moved hW.alike hC.1, hD9⟩, hS.F ht⟩) hS.2.2 d_Mod_query_26

theorem d_Mod_count_0 : decode prog_14_method_32_code 0 = .ok (.aload_n 0, 1) := by decide +kernel
theorem d_Mod_count_1 : decode prog_14_method_32_code 1 = .ok (.iload_n 1, 1) := by decide +kernel
theorem d_Mod_count_2 : decode prog_14_method_32_code 2 = .ok (.i2l, 1) := by decide +kernel
theorem d_Mod_count_3 : decode prog_14_method_32_code 3 = .ok (.lconst 0, 1) := by decide +kernel
theorem d_Mod_count_4 : decode prog_14_method_32_code 4 = .ok (.ldc2_w 362, 3) := by decide +kernel
theorem d_Mod_count_7 : decode prog_14_method_32_code 7 = .ok (.invokestatic 90, 3) := by decide +kernel
theorem d_Mod_count_10 : decode prog_14_method_32_code 10 = .ok (.ifCond .ne 7, 3) := by decide +kernel
theorem d_Mod_count_17 : decode prog_14_method_32_code 17 = .ok (.iconst 0, 1) := by decide +kernel
theorem d_Mod_count_18 : decode prog_14_method_32_code 18 = .ok (.iconst 0, 1) := by decide +kernel
theorem d_Mod_count_19 : decode prog_14_method_32_code 19 = .ok (.invokevirtual 94, 3) := by decide +kernel
theorem d_Mod_count_22 : decode prog_14_method_32_code 22 = .ok (.ifCond .eq 5, 3) := by decide +kernel
theorem d_Mod_count_27 : decode prog_14_method_32_code 27 = .ok (.aload_n 0, 1) := by decide +kernel
theorem d_Mod_count_28 : decode prog_14_method_32_code 28 = .ok (.getfield 75, 3) := by decide +kernel
theorem d_Mod_count_31 : decode prog_14_method_32_code 31 = .ok (.iload_n 1, 1) := by decide +kernel
theorem d_Mod_count_32 : decode prog_14_method_32_code 32 = .ok (.iaload, 1) := by decide +kernel
theorem d_Mod_count_33 : decode prog_14_method_32_code 33 = .ok (.ireturn, 1) := by decide +kernel
set_option maxHeartbeats 4000000 in
set_option maxRecDepth 100000 in
theorem c_Mcount_g (l : Launch) (D : va_G) (cI cL : ClassId) (B sz : Nat) (h0 : Nat) (q562 : Nat) (q571 : Nat) (q574 : Nat) (q577 : Nat) (q580 : Nat) (q583 : Nat) (q586 : Nat) (q599 : Nat) (q600 : Nat) (q601 : Nat) (q602 : Nat) (j : Nat) (hj : j < 9) : Met l y_Mod_count ((Cond.code y_Mod_count prog_14_method_32_code 2 (some .int)) :: tw) ({ frames := 50, cells := 0, slots := 0, locals := 5000 }) (va_Pc [.ref h0, .int (nI j)] (wP D cI cL B sz [(h0, .inr (12, [.int 0, .int 1, .int 1, .ref q562, .ref q571, .ref q574, .ref q577, .ref q580, .ref q583, .ref q586, .int 0, .int (-1), .int 0, .int 0, .long 0, .ref q599, .ref q600, .ref q601, .ref q602])), (q600, .inl (cI, 9, .inl (fun _ => 0)))])) (va_Qi (S := Unit) (fun r u => r = 0) (fun u => wB D cI cL (va_A [(h0, .inr (12, [.int 0, .int 1, .int 1, .ref q562, .ref q571, .ref q574, .ref q577, .ref q580, .ref q583, .ref q586, .int 0, .int (-1), .int 0, .int 0, .long 0, .ref q599, .ref q600, .ref q601, .ref q602])), (q600, .inl (cI, 9, .inl (fun _ => 0)))] sz) ((fun _ : Unit => [(h0, .inr (12, [.int 0, .int 1, .int 1, .ref q562, .ref q571, .ref q574, .ref q577, .ref q580, .ref q583, .ref q586, .int 0, .int (-1), .int 0, .int 0, .long 0, .ref q599, .ref q600, .ref q601, .ref q602]))]) u)) (va_A [(h0, .inr (12, [.int 0, .int 1, .int 1, .ref q562, .ref q571, .ref q574, .ref q577, .ref q580, .ref q583, .ref q586, .int 0, .int (-1), .int 0, .int 0, .long 0, .ref q599, .ref q600, .ref q601, .ref q602])), (q600, .inl (cI, 9, .inl (fun _ => 0)))] sz)) 0 0 (va_A [(h0, .inr (12, [.int 0, .int 1, .int 1, .ref q562, .ref q571, .ref q574, .ref q577, .ref q580, .ref q583, .ref q586, .int 0, .int (-1), .int 0, .int 0, .long 0, .ref q599, .ref q600, .ref q601, .ref q602])), (q600, .inl (cI, 9, .inl (fun _ => 0)))] sz) := by
  refine Met.ofW (cc := prog_14_method_32_code) (maxL := 2) (ret := (some .int)) (by decide) rfl ?_
  intro p e s m args below meth c s₁ B0 hml hv
  obtain ⟨rfl, hv⟩ := hv
  have hx := B0.exec
  have hb := B0.bytes
  have hr := B0.returns
  have hts := atoms_spec (ws := (Cond.code y_Mod_count prog_14_method_32_code 2 (some .int)) :: tw) B0.pre
  have htw : ∀ w ∈ tw, w.before _ s = true := fun w hw => hts w (List.mem_cons_of_mem _ hw)
  have hown : s.vm.findClass "DrawingMachineModel" = some m.cls := findClass_of_methodNamed B0.named
  have hlocks := B0.notSynchronized
  obtain ⟨hC, hP, hD, hsz⟩ := wC_init hv
  subst hsz
  generalize hAe : va_A [(h0, .inr (12, [.int 0, .int 1, .int 1, .ref q562, .ref q571, .ref q574, .ref q577, .ref q580, .ref q583, .ref q586, .int 0, .int (-1), .int 0, .int 0, .long 0, .ref q599, .ref q600, .ref q601, .ref q602])), (q600, .inl (cI, 9, .inl (fun _ => 0)))] s.heap.size = A at hC hD ⊢
  have hS : va_S A s.heap s.heap [] := va_S.rf
  have hl := lv_entry ([.ref h0, .int (nI j)]) (n := 2) (Nat.le_of_ble_eq_true rfl)
  rw [lg_entry_eq]
  generalize (lg_sl ([.ref h0, .int (nI j)]) ++ List.replicate (2 - (lg_sl ([.ref h0, .int (nI j)])).length) Slot.unset).toArray = ls at hl ⊢
  have hl : lv_has ls 2 [(0, .ref h0), (1, .int (nI j))] := hl
  refine lv_aload_n hx hb d_Mod_count_0 rfl (lv_at hl 0 rfl) ?_
  refine lv_iload_n hx hb d_Mod_count_1 rfl (lv_at hl 1 rfl) ?_
  refine lv_i2l (v := (nI j).toInt64) hx hb d_Mod_count_2 rfl ?_
  refine lv_lconst (v := 0) hx hb d_Mod_count_3 (by decide) ?_
  refine lv_ldc2 (v := 8) hx hb hown (htw _ k683) d_Mod_count_4 ?_
  refine wc_i (wr := [(h0, .inr (12, [.int 0, .int 1, .int 1, .ref q562, .ref q571, .ref q574, .ref q577, .ref q580, .ref q583, .ref q586, .int 0, .int (-1), .int 0, .int 0, .long 0, .ref q599, .ref q600, .ref q601, .ref q602])), (q600, .inl (cI, 9, .inl (fun _ => 0)))]) hC hP hD hS [] [0, 1] rfl rfl (by decide) (by decide) (va_runS (As := [.long ((nI j).toInt64), .long 0, .long 8]) (rest := [.ref h0]) ⟨hx, hb, hml, hown, htw⟩ (c_Mod_in_t l D cI cL B _ ((nI j).toInt64) 0 8 (good_lo 0 (by decide) (nI_pos (by omega))) (good_hi 8 (by decide) (nI_nlt (a := 8) (b := j) (by omega) (by omega)))) (va_cwS 3 htw gS_Mod_90 rfl rfl rfl (by decide +kernel) ⟨Nat.le_of_ble_eq_true rfl, Nat.le_of_ble_eq_true rfl⟩) (wC_pre hC hP hD hS [] (by decide) rfl) rfl rfl hl.1 rfl (lv_room (Nat.le_of_ble_eq_true rfl)) d_Mod_count_7 ⟨Nat.le_of_ble_eq_true rfl, Nat.le_of_ble_eq_true rfl⟩) (fun r1226 u1224 H locs hw1225 hP hD hS => ?_)
  obtain rfl : r1226 = 1 := hw1225
  have hP : va_P D classes [(h0, .inr (12, [.int 0, .int 1, .int 1, .ref q562, .ref q571, .ref q574, .ref q577, .ref q580, .ref q583, .ref q586, .int 0, .int (-1), .int 0, .int 0, .long 0, .ref q599, .ref q600, .ref q601, .ref q602])), (q600, .inl (cI, 9, .inl (fun _ => 0)))] H := hP
  have hD : va_D A [(h0, .inr (12, [.int 0, .int 1, .int 1, .ref q562, .ref q571, .ref q574, .ref q577, .ref q580, .ref q583, .ref q586, .int 0, .int (-1), .int 0, .int 0, .long 0, .ref q599, .ref q600, .ref q601, .ref q602])), (q600, .inl (cI, 9, .inl (fun _ => 0)))] := hD
  refine W.widen (k := 0) (n := 0) (by omega) (by omega) ?_
  refine lv_if_ne (tgt := 17) hx hb d_Mod_count_10 (by decide) (fun c_1227 => ?_) (fun c_1227 => absurd c_1227 (by decide))
  refine lv_iconst (v := 0) hx hb d_Mod_count_17 (by decide) ?_
  refine lv_iconst (v := 0) hx hb d_Mod_count_18 (by decide) ?_
  refine wc_i (wr := [(q600, .inl (cI, 9, .inl (fun _ => 0)))]) hC hP hD hS [0] [1] rfl rfl (by decide) (by decide) (va_runV (As := [.int 0, .int 0]) (rest := []) ⟨hx, hb, hml, hown, htw⟩ (c_Mref_00 l D cI cL B _ h0 q562 q571 q574 q577 q580 q583 q586 q599 q600 q601 q602) (cwV 2 htw gV_Mod_94 rfl rfl rfl (by decide +kernel) ⟨Nat.le_of_ble_eq_true rfl, Nat.le_of_ble_eq_true rfl⟩) (wC_preV (As := [.int 0, .int 0]) hC hP hD hS [0] (by decide) rfl (q0 := 0) rfl rfl) rfl rfl hl.1 rfl (lv_room (Nat.le_of_ble_eq_true rfl)) d_Mod_count_19 ⟨Nat.le_of_ble_eq_true rfl, Nat.le_of_ble_eq_true rfl⟩) (fun r1230 u1228 H locs hw1229 hP hD hS => ?_)
  obtain rfl : r1230 = 0 := hw1229
  have hP : va_P D classes [(q600, .inl (cI, 9, .inl (fun _ => 0))), (h0, .inr (12, [.int 0, .int 1, .int 1, .ref q562, .ref q571, .ref q574, .ref q577, .ref q580, .ref q583, .ref q586, .int 0, .int (-1), .int 0, .int 0, .long 0, .ref q599, .ref q600, .ref q601, .ref q602]))] H := hP
  have hD : va_D A [(q600, .inl (cI, 9, .inl (fun _ => 0))), (h0, .inr (12, [.int 0, .int 1, .int 1, .ref q562, .ref q571, .ref q574, .ref q577, .ref q580, .ref q583, .ref q586, .int 0, .int (-1), .int 0, .int 0, .long 0, .ref q599, .ref q600, .ref q601, .ref q602]))] := hD
  refine W.widen (k := 0) (n := 0) (by omega) (by omega) ?_
  refine lv_if_eq (tgt := 27) hx hb d_Mod_count_22 (by decide) (fun c_1231 => ?_) (fun c_1231 => absurd c_1231 (by decide))
  refine lv_aload_n hx hb d_Mod_count_27 rfl (lv_at hl 0 rfl) ?_
  refine va_get (D := D) (ci := 12) (v := .ref q600) (C := R_Mod) (T := F_Mod) (N := 19) hx hb htw i_Mod hown hC.1 hP 1 rfl rfl 16 (by decide) (htw _ k550) (fun _ h9 => h9) rfl d_Mod_count_28 ?_
  refine lv_iload_n hx hb d_Mod_count_31 rfl (lv_at hl 1 rfl) ?_
  refine va_iald hx hb hC.1 hP 0 0 rfl rfl (vp_in_nI (by omega) (by omega)) d_Mod_count_32 ?_
  refine wi_c (v := 0) rfl ?_
  refine W.widen (k := 0) (n := 0) (Nat.le_of_ble_eq_true rfl) (Nat.le_of_ble_eq_true rfl) ?_
  have hP9 := hP.sub (ws' := [(h0, .inr (12, [.int 0, .int 1, .int 1, .ref q562, .ref q571, .ref q574, .ref q577, .ref q580, .ref q583, .ref q586, .int 0, .int (-1), .int 0, .int 0, .long 0, .ref q599, .ref q600, .ref q601, .ref q602]))]) [1] rfl
  have hD9 := hD.sub (ws' := [(h0, .inr (12, [.int 0, .int 1, .int 1, .ref q562, .ref q571, .ref q574, .ref q577, .ref q580, .ref q583, .ref q586, .int 0, .int (-1), .int 0, .int 0, .long 0, .ref q599, .ref q600, .ref q601, .ref q602]))]) [1] (by decide) rfl
  exact W.iret (v := 0) hx hb hr (fun t ht hW => ⟨⟨0, (), rfl, rfl, by rw [ht]; exact hP9, va_K.moved hW.alike hC.1, hD9⟩, hS.F ht⟩) hS.2.2 d_Mod_count_33

theorem d_Mod_count_13 : decode prog_14_method_32_code 13 = .ok (.iconst 1, 1) := by decide +kernel
theorem d_Mod_count_14 : decode prog_14_method_32_code 14 = .ok (.goto 4, 3) := by decide +kernel
theorem d_Mod_count_25 : decode prog_14_method_32_code 25 = .ok (.iconst 0, 1) := by decide +kernel
theorem d_Mod_count_26 : decode prog_14_method_32_code 26 = .ok (.ireturn, 1) := by decide +kernel
set_option maxHeartbeats 4000000 in
set_option maxRecDepth 100000 in
theorem c_Mcount_b (l : Launch) (D : va_G) (cI cL : ClassId) (B sz : Nat) (h0 : Nat) (q562 : Nat) (q571 : Nat) (q574 : Nat) (q577 : Nat) (q580 : Nat) (q583 : Nat) (q586 : Nat) (q599 : Nat) (q600 : Nat) (q601 : Nat) (q602 : Nat) (x : Int32) (hbd : x < 0 ∨ 8 < x) : Met l y_Mod_count ((Cond.code y_Mod_count prog_14_method_32_code 2 (some .int)) :: tw) ({ frames := 50, cells := 0, slots := 0, locals := 5000 }) (va_Pc [.ref h0, .int x] (wP D cI cL B sz [(h0, .inr (12, [.int 0, .int 1, .int 1, .ref q562, .ref q571, .ref q574, .ref q577, .ref q580, .ref q583, .ref q586, .int 0, .int (-1), .int 0, .int 0, .long 0, .ref q599, .ref q600, .ref q601, .ref q602]))])) (va_Qi (S := Unit) (fun r u => r = 0) (fun u => wB D cI cL (va_A [(h0, .inr (12, [.int 0, .int 1, .int 1, .ref q562, .ref q571, .ref q574, .ref q577, .ref q580, .ref q583, .ref q586, .int 0, .int (-1), .int 0, .int 0, .long 0, .ref q599, .ref q600, .ref q601, .ref q602]))] sz) ((fun _ : Unit => [(h0, .inr (12, [.int 1, .int 1, .int 1, .ref q562, .ref q571, .ref q574, .ref q577, .ref q580, .ref q583, .ref q586, .int 0, .int (-1), .int 0, .int 0, .long 0, .ref q599, .ref q600, .ref q601, .ref q602]))]) u)) (va_A [(h0, .inr (12, [.int 0, .int 1, .int 1, .ref q562, .ref q571, .ref q574, .ref q577, .ref q580, .ref q583, .ref q586, .int 0, .int (-1), .int 0, .int 0, .long 0, .ref q599, .ref q600, .ref q601, .ref q602]))] sz)) 0 0 (va_A [(h0, .inr (12, [.int 0, .int 1, .int 1, .ref q562, .ref q571, .ref q574, .ref q577, .ref q580, .ref q583, .ref q586, .int 0, .int (-1), .int 0, .int 0, .long 0, .ref q599, .ref q600, .ref q601, .ref q602]))] sz) := by
  refine Met.ofW (cc := prog_14_method_32_code) (maxL := 2) (ret := (some .int)) (by decide) rfl ?_
  intro p e s m args below meth c s₁ B0 hml hv
  obtain ⟨rfl, hv⟩ := hv
  have hx := B0.exec
  have hb := B0.bytes
  have hr := B0.returns
  have hts := atoms_spec (ws := (Cond.code y_Mod_count prog_14_method_32_code 2 (some .int)) :: tw) B0.pre
  have htw : ∀ w ∈ tw, w.before _ s = true := fun w hw => hts w (List.mem_cons_of_mem _ hw)
  have hown : s.vm.findClass "DrawingMachineModel" = some m.cls := findClass_of_methodNamed B0.named
  have hlocks := B0.notSynchronized
  obtain ⟨hC, hP, hD, hsz⟩ := wC_init hv
  subst hsz
  generalize hAe : va_A [(h0, .inr (12, [.int 0, .int 1, .int 1, .ref q562, .ref q571, .ref q574, .ref q577, .ref q580, .ref q583, .ref q586, .int 0, .int (-1), .int 0, .int 0, .long 0, .ref q599, .ref q600, .ref q601, .ref q602]))] s.heap.size = A at hC hD ⊢
  have hS : va_S A s.heap s.heap [] := va_S.rf
  have hl := lv_entry ([.ref h0, .int x]) (n := 2) (Nat.le_of_ble_eq_true rfl)
  rw [lg_entry_eq]
  generalize (lg_sl ([.ref h0, .int x]) ++ List.replicate (2 - (lg_sl ([.ref h0, .int x])).length) Slot.unset).toArray = ls at hl ⊢
  have hl : lv_has ls 2 [(0, .ref h0), (1, .int x)] := hl
  refine lv_aload_n hx hb d_Mod_count_0 rfl (lv_at hl 0 rfl) ?_
  refine lv_iload_n hx hb d_Mod_count_1 rfl (lv_at hl 1 rfl) ?_
  refine lv_i2l (v := x.toInt64) hx hb d_Mod_count_2 rfl ?_
  refine lv_lconst (v := 0) hx hb d_Mod_count_3 (by decide) ?_
  refine lv_ldc2 (v := 8) hx hb hown (htw _ k683) d_Mod_count_4 ?_
  refine wc_i (wr := [(h0, .inr (12, [.int 0, .int 1, .int 1, .ref q562, .ref q571, .ref q574, .ref q577, .ref q580, .ref q583, .ref q586, .int 0, .int (-1), .int 0, .int 0, .long 0, .ref q599, .ref q600, .ref q601, .ref q602]))]) hC hP hD hS [] [0] rfl rfl (by decide) (by decide) (va_runS (As := [.long x.toInt64, .long 0, .long 8]) (rest := [.ref h0]) ⟨hx, hb, hml, hown, htw⟩ (c_Mod_in_f l D cI cL B _ x.toInt64 0 8 (bad_in 0 8 (by decide) (by decide) hbd)) (va_cwS 3 htw gS_Mod_90 rfl rfl rfl (by decide +kernel) ⟨Nat.le_of_ble_eq_true rfl, Nat.le_of_ble_eq_true rfl⟩) (wC_pre hC hP hD hS [] (by decide) rfl) rfl rfl hl.1 rfl (lv_room (Nat.le_of_ble_eq_true rfl)) d_Mod_count_7 ⟨Nat.le_of_ble_eq_true rfl, Nat.le_of_ble_eq_true rfl⟩) (fun r1234 u1232 H locs hw1233 hP hD hS => ?_)
  obtain rfl : r1234 = 0 := hw1233
  have hP : va_P D classes [(h0, .inr (12, [.int 0, .int 1, .int 1, .ref q562, .ref q571, .ref q574, .ref q577, .ref q580, .ref q583, .ref q586, .int 0, .int (-1), .int 0, .int 0, .long 0, .ref q599, .ref q600, .ref q601, .ref q602]))] H := hP
  have hD : va_D A [(h0, .inr (12, [.int 0, .int 1, .int 1, .ref q562, .ref q571, .ref q574, .ref q577, .ref q580, .ref q583, .ref q586, .int 0, .int (-1), .int 0, .int 0, .long 0, .ref q599, .ref q600, .ref q601, .ref q602]))] := hD
  refine W.widen (k := 0) (n := 0) (by omega) (by omega) ?_
  refine lv_if_ne (tgt := 17) hx hb d_Mod_count_10 (by decide) (fun c_1235 => absurd c_1235 (by decide)) (fun c_1235 => ?_)
  refine lv_iconst (v := 1) hx hb d_Mod_count_13 (by decide) ?_
  refine lv_goto (tgt := 18) hx hb d_Mod_count_14 (by decide) ?_
  refine lv_iconst (v := 0) hx hb d_Mod_count_18 (by decide) ?_
  refine wc_i (wr := []) hC hP hD hS [0] [] rfl rfl (by decide) (by decide) (va_runV (As := [.int 1, .int 0]) (rest := []) ⟨hx, hb, hml, hown, htw⟩ (c_Mref_10 l D cI cL B _ h0 q562 q571 q574 q577 q580 q583 q586 q599 q600 q601 q602) (cwV 2 htw gV_Mod_94 rfl rfl rfl (by decide +kernel) ⟨Nat.le_of_ble_eq_true rfl, Nat.le_of_ble_eq_true rfl⟩) (wC_preV (As := [.int 1, .int 0]) hC hP hD hS [0] (by decide) rfl (q0 := 0) rfl rfl) rfl rfl hl.1 rfl (lv_room (Nat.le_of_ble_eq_true rfl)) d_Mod_count_19 ⟨Nat.le_of_ble_eq_true rfl, Nat.le_of_ble_eq_true rfl⟩) (fun r1238 u1236 H locs hw1237 hP hD hS => ?_)
  obtain rfl : r1238 = 1 := hw1237
  have hP : va_P D classes [(h0, .inr (12, [.int 1, .int 1, .int 1, .ref q562, .ref q571, .ref q574, .ref q577, .ref q580, .ref q583, .ref q586, .int 0, .int (-1), .int 0, .int 0, .long 0, .ref q599, .ref q600, .ref q601, .ref q602]))] H := hP
  have hD : va_D A [(h0, .inr (12, [.int 1, .int 1, .int 1, .ref q562, .ref q571, .ref q574, .ref q577, .ref q580, .ref q583, .ref q586, .int 0, .int (-1), .int 0, .int 0, .long 0, .ref q599, .ref q600, .ref q601, .ref q602]))] := hD
  refine W.widen (k := 0) (n := 0) (by omega) (by omega) ?_
  refine lv_if_eq (tgt := 27) hx hb d_Mod_count_22 (by decide) (fun c_1239 => absurd c_1239 (by decide)) (fun c_1239 => ?_)
  refine lv_iconst (v := 0) hx hb d_Mod_count_25 (by decide) ?_
  refine W.widen (k := 0) (n := 0) (Nat.le_of_ble_eq_true rfl) (Nat.le_of_ble_eq_true rfl) ?_
  have hP9 := hP.sub (ws' := [(h0, .inr (12, [.int 1, .int 1, .int 1, .ref q562, .ref q571, .ref q574, .ref q577, .ref q580, .ref q583, .ref q586, .int 0, .int (-1), .int 0, .int 0, .long 0, .ref q599, .ref q600, .ref q601, .ref q602]))]) [0] rfl
  have hD9 := hD.sub (ws' := [(h0, .inr (12, [.int 1, .int 1, .int 1, .ref q562, .ref q571, .ref q574, .ref q577, .ref q580, .ref q583, .ref q586, .int 0, .int (-1), .int 0, .int 0, .long 0, .ref q599, .ref q600, .ref q601, .ref q602]))]) [0] (by decide) rfl
  exact W.iret (v := 0) hx hb hr (fun t ht hW => ⟨⟨0, (), rfl, rfl, by rw [ht]; exact hP9, va_K.moved hW.alike hC.1, hD9⟩, hS.F ht⟩) hS.2.2 d_Mod_count_26
