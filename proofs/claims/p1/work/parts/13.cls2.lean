theorem d_DM_about_0 : decode prog_1_method_9_code 0 = .ok (.iload_n 1, 1) := by decide +kernel
theorem d_DM_about_1 : decode prog_1_method_9_code 1 = .ok (.tableswitch 131 0 8 #[51, 67, 75, 83, 91, 99, 107, 115, 123], 51) := by decide +kernel
theorem d_DM_about_52 : decode prog_1_method_9_code 52 = .ok (.aload_n 0, 1) := by decide +kernel
theorem d_DM_about_53 : decode prog_1_method_9_code 53 = .ok (.getfield 34, 3) := by decide +kernel
theorem d_DM_about_56 : decode prog_1_method_9_code 56 = .ok (.getfield 119, 3) := by decide +kernel
theorem d_DM_about_59 : decode prog_1_method_9_code 59 = .ok (.ifCond .eq 7, 3) := by decide +kernel
theorem d_DM_about_66 : decode prog_1_method_9_code 66 = .ok (.iconst 0, 1) := by decide +kernel
theorem d_DM_about_67 : decode prog_1_method_9_code 67 = .ok (.ireturn, 1) := by decide +kernel
set_option maxHeartbeats 4000000 in
set_option maxRecDepth 100000 in
theorem c_about_0 (l : Launch) (D : va_G) (cI cL : ClassId) (B sz : Nat) (h0 : Nat) (q83 : Nat) (q84 : Nat) (z87 : Nat) (q89 : Nat) (q95 : Nat) (z98 : Nat) (z99 : Nat) (z100 : Nat) (q101 : Nat) (z104 : Nat) (z105 : Nat) (z106 : Nat) (q107 : Nat) (z110 : Nat) (z111 : Nat) (z112 : Nat) (z113 : Nat) (z114 : Nat) (z115 : Nat) (q116 : Nat) (q120 : Nat) (q124 : Nat) : Met l y_DM_about ((Cond.code y_DM_about prog_1_method_9_code 2 (some .int)) :: tw) ({ frames := 50, cells := 0, slots := 0, locals := 5000 }) (va_Pc [.ref h0, .int 0] (wP D cI cL B sz [(h0, .inr (0, [.ref q83, .ref q84, .ref q89, .ref q95, .ref q101, .ref q107, .ref q116, .ref q120, .ref q124])), (q95, .inr (3, [.ref z98, .int 0, .int 0, .int 0, .int 0, .int 0, .int (-1), .int (-1), .int 0, .long 0, .ref q83, .ref z99, .ref z100, .int 0, .int 0])), (q107, .inr (5, [.ref z110, .ref z111, .int (-1), .ref z87, .ref q89, .ref z112, .ref z113, .ref z114, .ref z115])), (q101, .inr (4, [.int 0, .int (-1), .ref z104, .ref z105, .ref z106, .int 0, .long 0]))])) (va_Qi (S := Unit) (fun r u => r = 0) (fun u => wB D cI cL (va_A [(h0, .inr (0, [.ref q83, .ref q84, .ref q89, .ref q95, .ref q101, .ref q107, .ref q116, .ref q120, .ref q124])), (q95, .inr (3, [.ref z98, .int 0, .int 0, .int 0, .int 0, .int 0, .int (-1), .int (-1), .int 0, .long 0, .ref q83, .ref z99, .ref z100, .int 0, .int 0])), (q107, .inr (5, [.ref z110, .ref z111, .int (-1), .ref z87, .ref q89, .ref z112, .ref z113, .ref z114, .ref z115])), (q101, .inr (4, [.int 0, .int (-1), .ref z104, .ref z105, .ref z106, .int 0, .long 0]))] sz) ((fun _ : Unit => []) u)) (va_A [(h0, .inr (0, [.ref q83, .ref q84, .ref q89, .ref q95, .ref q101, .ref q107, .ref q116, .ref q120, .ref q124])), (q95, .inr (3, [.ref z98, .int 0, .int 0, .int 0, .int 0, .int 0, .int (-1), .int (-1), .int 0, .long 0, .ref q83, .ref z99, .ref z100, .int 0, .int 0])), (q107, .inr (5, [.ref z110, .ref z111, .int (-1), .ref z87, .ref q89, .ref z112, .ref z113, .ref z114, .ref z115])), (q101, .inr (4, [.int 0, .int (-1), .ref z104, .ref z105, .ref z106, .int 0, .long 0]))] sz)) 0 0 (va_A [(h0, .inr (0, [.ref q83, .ref q84, .ref q89, .ref q95, .ref q101, .ref q107, .ref q116, .ref q120, .ref q124])), (q95, .inr (3, [.ref z98, .int 0, .int 0, .int 0, .int 0, .int 0, .int (-1), .int (-1), .int 0, .long 0, .ref q83, .ref z99, .ref z100, .int 0, .int 0])), (q107, .inr (5, [.ref z110, .ref z111, .int (-1), .ref z87, .ref q89, .ref z112, .ref z113, .ref z114, .ref z115])), (q101, .inr (4, [.int 0, .int (-1), .ref z104, .ref z105, .ref z106, .int 0, .long 0]))] sz) := by
  refine Met.ofW (cc := prog_1_method_9_code) (maxL := 2) (ret := (some .int)) (by decide) rfl ?_
  intro p e s m args below meth c s₁ B0 hml hv
  obtain ⟨rfl, hv⟩ := hv
  have hx := B0.exec
  have hb := B0.bytes
  have hr := B0.returns
  have hts := atoms_spec (ws := (Cond.code y_DM_about prog_1_method_9_code 2 (some .int)) :: tw) B0.pre
  have htw : ∀ w ∈ tw, w.before _ s = true := fun w hw => hts w (List.mem_cons_of_mem _ hw)
  have hown : s.vm.findClass "DrawingMachine" = some m.cls := findClass_of_methodNamed B0.named
  have hlocks := B0.notSynchronized
  obtain ⟨hC, hP, hD, hsz⟩ := wC_init hv
  subst hsz
  generalize hAe : va_A [(h0, .inr (0, [.ref q83, .ref q84, .ref q89, .ref q95, .ref q101, .ref q107, .ref q116, .ref q120, .ref q124])), (q95, .inr (3, [.ref z98, .int 0, .int 0, .int 0, .int 0, .int 0, .int (-1), .int (-1), .int 0, .long 0, .ref q83, .ref z99, .ref z100, .int 0, .int 0])), (q107, .inr (5, [.ref z110, .ref z111, .int (-1), .ref z87, .ref q89, .ref z112, .ref z113, .ref z114, .ref z115])), (q101, .inr (4, [.int 0, .int (-1), .ref z104, .ref z105, .ref z106, .int 0, .long 0]))] s.heap.size = A at hC hD ⊢
  have hS : va_S A s.heap s.heap [] := va_S.rf
  have hl := lv_entry ([.ref h0, .int 0]) (n := 2) (Nat.le_of_ble_eq_true rfl)
  rw [lg_entry_eq]
  generalize (lg_sl ([.ref h0, .int 0]) ++ List.replicate (2 - (lg_sl ([.ref h0, .int 0])).length) Slot.unset).toArray = ls at hl ⊢
  have hl : lv_has ls 2 [(0, .ref h0), (1, .int 0)] := hl
  refine lv_iload_n hx hb d_DM_about_0 rfl (lv_at hl 1 rfl) ?_
  refine lv_tableIn (off := 51) (tgt := 52) hx hb d_DM_about_1 (by decide) (by decide) (by decide) (by decide) ?_
  refine lv_aload_n hx hb d_DM_about_52 rfl (lv_at hl 0 rfl) ?_
  refine va_get (D := D) (ci := 0) (v := .ref q95) (C := R_DM) (T := F_DM) (N := 9) hx hb htw i_DM hown hC.1 hP 0 rfl rfl 3 (by decide) (htw _ k259) (fun _ h9 => h9) rfl d_DM_about_53 ?_
  refine va_get (D := D) (ci := 3) (v := .int 0) (C := R_Cou) (T := F_Cou) (N := 15) hx hb htw i_Cou hown hC.1 hP 1 rfl rfl 8 (by decide) (htw _ k315) (fun _ h9 => h9) rfl d_DM_about_56 ?_
  refine lv_if_eq (tgt := 66) hx hb d_DM_about_59 (by decide) (fun c_195 => ?_) (fun c_195 => absurd c_195 (by decide))
  refine lv_iconst (v := 0) hx hb d_DM_about_66 (by decide) ?_
  refine W.widen (k := 0) (n := 0) (Nat.le_of_ble_eq_true rfl) (Nat.le_of_ble_eq_true rfl) ?_
  have hP9 := hP.sub (ws' := []) [] rfl
  have hD9 := hD.sub (ws' := []) [] (by decide) rfl
  exact W.iret (v := 0) hx hb hr (fun t ht hW => ⟨⟨0, (), rfl, rfl, by rw [ht]; exact hP9, va_K.moved hW.alike hC.1, hD9⟩, hS.F ht⟩) hS.2.2 d_DM_about_67

theorem d_DM_about_68 : decode prog_1_method_9_code 68 = .ok (.aload_n 0, 1) := by decide +kernel
theorem d_DM_about_69 : decode prog_1_method_9_code 69 = .ok (.getfield 34, 3) := by decide +kernel
theorem d_DM_about_72 : decode prog_1_method_9_code 72 = .ok (.getfield 149, 3) := by decide +kernel
theorem d_DM_about_75 : decode prog_1_method_9_code 75 = .ok (.ireturn, 1) := by decide +kernel
set_option maxHeartbeats 4000000 in
set_option maxRecDepth 100000 in
theorem c_about_1 (l : Launch) (D : va_G) (cI cL : ClassId) (B sz : Nat) (h0 : Nat) (q83 : Nat) (q84 : Nat) (z87 : Nat) (q89 : Nat) (q95 : Nat) (z98 : Nat) (z99 : Nat) (z100 : Nat) (q101 : Nat) (z104 : Nat) (z105 : Nat) (z106 : Nat) (q107 : Nat) (z110 : Nat) (z111 : Nat) (z112 : Nat) (z113 : Nat) (z114 : Nat) (z115 : Nat) (q116 : Nat) (q120 : Nat) (q124 : Nat) : Met l y_DM_about ((Cond.code y_DM_about prog_1_method_9_code 2 (some .int)) :: tw) ({ frames := 50, cells := 0, slots := 0, locals := 5000 }) (va_Pc [.ref h0, .int 1] (wP D cI cL B sz [(h0, .inr (0, [.ref q83, .ref q84, .ref q89, .ref q95, .ref q101, .ref q107, .ref q116, .ref q120, .ref q124])), (q95, .inr (3, [.ref z98, .int 0, .int 0, .int 0, .int 0, .int 0, .int (-1), .int (-1), .int 0, .long 0, .ref q83, .ref z99, .ref z100, .int 0, .int 0])), (q107, .inr (5, [.ref z110, .ref z111, .int (-1), .ref z87, .ref q89, .ref z112, .ref z113, .ref z114, .ref z115])), (q101, .inr (4, [.int 0, .int (-1), .ref z104, .ref z105, .ref z106, .int 0, .long 0]))])) (va_Qi (S := Unit) (fun r u => r = 0) (fun u => wB D cI cL (va_A [(h0, .inr (0, [.ref q83, .ref q84, .ref q89, .ref q95, .ref q101, .ref q107, .ref q116, .ref q120, .ref q124])), (q95, .inr (3, [.ref z98, .int 0, .int 0, .int 0, .int 0, .int 0, .int (-1), .int (-1), .int 0, .long 0, .ref q83, .ref z99, .ref z100, .int 0, .int 0])), (q107, .inr (5, [.ref z110, .ref z111, .int (-1), .ref z87, .ref q89, .ref z112, .ref z113, .ref z114, .ref z115])), (q101, .inr (4, [.int 0, .int (-1), .ref z104, .ref z105, .ref z106, .int 0, .long 0]))] sz) ((fun _ : Unit => []) u)) (va_A [(h0, .inr (0, [.ref q83, .ref q84, .ref q89, .ref q95, .ref q101, .ref q107, .ref q116, .ref q120, .ref q124])), (q95, .inr (3, [.ref z98, .int 0, .int 0, .int 0, .int 0, .int 0, .int (-1), .int (-1), .int 0, .long 0, .ref q83, .ref z99, .ref z100, .int 0, .int 0])), (q107, .inr (5, [.ref z110, .ref z111, .int (-1), .ref z87, .ref q89, .ref z112, .ref z113, .ref z114, .ref z115])), (q101, .inr (4, [.int 0, .int (-1), .ref z104, .ref z105, .ref z106, .int 0, .long 0]))] sz)) 0 0 (va_A [(h0, .inr (0, [.ref q83, .ref q84, .ref q89, .ref q95, .ref q101, .ref q107, .ref q116, .ref q120, .ref q124])), (q95, .inr (3, [.ref z98, .int 0, .int 0, .int 0, .int 0, .int 0, .int (-1), .int (-1), .int 0, .long 0, .ref q83, .ref z99, .ref z100, .int 0, .int 0])), (q107, .inr (5, [.ref z110, .ref z111, .int (-1), .ref z87, .ref q89, .ref z112, .ref z113, .ref z114, .ref z115])), (q101, .inr (4, [.int 0, .int (-1), .ref z104, .ref z105, .ref z106, .int 0, .long 0]))] sz) := by
  refine Met.ofW (cc := prog_1_method_9_code) (maxL := 2) (ret := (some .int)) (by decide) rfl ?_
  intro p e s m args below meth c s₁ B0 hml hv
  obtain ⟨rfl, hv⟩ := hv
  have hx := B0.exec
  have hb := B0.bytes
  have hr := B0.returns
  have hts := atoms_spec (ws := (Cond.code y_DM_about prog_1_method_9_code 2 (some .int)) :: tw) B0.pre
  have htw : ∀ w ∈ tw, w.before _ s = true := fun w hw => hts w (List.mem_cons_of_mem _ hw)
  have hown : s.vm.findClass "DrawingMachine" = some m.cls := findClass_of_methodNamed B0.named
  have hlocks := B0.notSynchronized
  obtain ⟨hC, hP, hD, hsz⟩ := wC_init hv
  subst hsz
  generalize hAe : va_A [(h0, .inr (0, [.ref q83, .ref q84, .ref q89, .ref q95, .ref q101, .ref q107, .ref q116, .ref q120, .ref q124])), (q95, .inr (3, [.ref z98, .int 0, .int 0, .int 0, .int 0, .int 0, .int (-1), .int (-1), .int 0, .long 0, .ref q83, .ref z99, .ref z100, .int 0, .int 0])), (q107, .inr (5, [.ref z110, .ref z111, .int (-1), .ref z87, .ref q89, .ref z112, .ref z113, .ref z114, .ref z115])), (q101, .inr (4, [.int 0, .int (-1), .ref z104, .ref z105, .ref z106, .int 0, .long 0]))] s.heap.size = A at hC hD ⊢
  have hS : va_S A s.heap s.heap [] := va_S.rf
  have hl := lv_entry ([.ref h0, .int 1]) (n := 2) (Nat.le_of_ble_eq_true rfl)
  rw [lg_entry_eq]
  generalize (lg_sl ([.ref h0, .int 1]) ++ List.replicate (2 - (lg_sl ([.ref h0, .int 1])).length) Slot.unset).toArray = ls at hl ⊢
  have hl : lv_has ls 2 [(0, .ref h0), (1, .int 1)] := hl
  refine lv_iload_n hx hb d_DM_about_0 rfl (lv_at hl 1 rfl) ?_
  refine lv_tableIn (off := 67) (tgt := 68) hx hb d_DM_about_1 (by decide) (by decide) (by decide) (by decide) ?_
  refine lv_aload_n hx hb d_DM_about_68 rfl (lv_at hl 0 rfl) ?_
  refine va_get (D := D) (ci := 0) (v := .ref q95) (C := R_DM) (T := F_DM) (N := 9) hx hb htw i_DM hown hC.1 hP 0 rfl rfl 3 (by decide) (htw _ k259) (fun _ h9 => h9) rfl d_DM_about_69 ?_
  refine va_get (D := D) (ci := 3) (v := .int 0) (C := R_Cou) (T := F_Cou) (N := 15) hx hb htw i_Cou hown hC.1 hP 1 rfl rfl 5 (by decide) (htw _ k334) (fun _ h9 => h9) rfl d_DM_about_72 ?_
  refine W.widen (k := 0) (n := 0) (Nat.le_of_ble_eq_true rfl) (Nat.le_of_ble_eq_true rfl) ?_
  have hP9 := hP.sub (ws' := []) [] rfl
  have hD9 := hD.sub (ws' := []) [] (by decide) rfl
  exact W.iret (v := 0) hx hb hr (fun t ht hW => ⟨⟨0, (), rfl, rfl, by rw [ht]; exact hP9, va_K.moved hW.alike hC.1, hD9⟩, hS.F ht⟩) hS.2.2 d_DM_about_75

theorem d_DM_about_76 : decode prog_1_method_9_code 76 = .ok (.aload_n 0, 1) := by decide +kernel
theorem d_DM_about_77 : decode prog_1_method_9_code 77 = .ok (.getfield 34, 3) := by decide +kernel
theorem d_DM_about_80 : decode prog_1_method_9_code 80 = .ok (.getfield 152, 3) := by decide +kernel
theorem d_DM_about_83 : decode prog_1_method_9_code 83 = .ok (.ireturn, 1) := by decide +kernel
set_option maxHeartbeats 4000000 in
set_option maxRecDepth 100000 in
theorem c_about_2 (l : Launch) (D : va_G) (cI cL : ClassId) (B sz : Nat) (h0 : Nat) (q83 : Nat) (q84 : Nat) (z87 : Nat) (q89 : Nat) (q95 : Nat) (z98 : Nat) (z99 : Nat) (z100 : Nat) (q101 : Nat) (z104 : Nat) (z105 : Nat) (z106 : Nat) (q107 : Nat) (z110 : Nat) (z111 : Nat) (z112 : Nat) (z113 : Nat) (z114 : Nat) (z115 : Nat) (q116 : Nat) (q120 : Nat) (q124 : Nat) : Met l y_DM_about ((Cond.code y_DM_about prog_1_method_9_code 2 (some .int)) :: tw) ({ frames := 50, cells := 0, slots := 0, locals := 5000 }) (va_Pc [.ref h0, .int 2] (wP D cI cL B sz [(h0, .inr (0, [.ref q83, .ref q84, .ref q89, .ref q95, .ref q101, .ref q107, .ref q116, .ref q120, .ref q124])), (q95, .inr (3, [.ref z98, .int 0, .int 0, .int 0, .int 0, .int 0, .int (-1), .int (-1), .int 0, .long 0, .ref q83, .ref z99, .ref z100, .int 0, .int 0])), (q107, .inr (5, [.ref z110, .ref z111, .int (-1), .ref z87, .ref q89, .ref z112, .ref z113, .ref z114, .ref z115])), (q101, .inr (4, [.int 0, .int (-1), .ref z104, .ref z105, .ref z106, .int 0, .long 0]))])) (va_Qi (S := Unit) (fun r u => r = (-1)) (fun u => wB D cI cL (va_A [(h0, .inr (0, [.ref q83, .ref q84, .ref q89, .ref q95, .ref q101, .ref q107, .ref q116, .ref q120, .ref q124])), (q95, .inr (3, [.ref z98, .int 0, .int 0, .int 0, .int 0, .int 0, .int (-1), .int (-1), .int 0, .long 0, .ref q83, .ref z99, .ref z100, .int 0, .int 0])), (q107, .inr (5, [.ref z110, .ref z111, .int (-1), .ref z87, .ref q89, .ref z112, .ref z113, .ref z114, .ref z115])), (q101, .inr (4, [.int 0, .int (-1), .ref z104, .ref z105, .ref z106, .int 0, .long 0]))] sz) ((fun _ : Unit => []) u)) (va_A [(h0, .inr (0, [.ref q83, .ref q84, .ref q89, .ref q95, .ref q101, .ref q107, .ref q116, .ref q120, .ref q124])), (q95, .inr (3, [.ref z98, .int 0, .int 0, .int 0, .int 0, .int 0, .int (-1), .int (-1), .int 0, .long 0, .ref q83, .ref z99, .ref z100, .int 0, .int 0])), (q107, .inr (5, [.ref z110, .ref z111, .int (-1), .ref z87, .ref q89, .ref z112, .ref z113, .ref z114, .ref z115])), (q101, .inr (4, [.int 0, .int (-1), .ref z104, .ref z105, .ref z106, .int 0, .long 0]))] sz)) 0 0 (va_A [(h0, .inr (0, [.ref q83, .ref q84, .ref q89, .ref q95, .ref q101, .ref q107, .ref q116, .ref q120, .ref q124])), (q95, .inr (3, [.ref z98, .int 0, .int 0, .int 0, .int 0, .int 0, .int (-1), .int (-1), .int 0, .long 0, .ref q83, .ref z99, .ref z100, .int 0, .int 0])), (q107, .inr (5, [.ref z110, .ref z111, .int (-1), .ref z87, .ref q89, .ref z112, .ref z113, .ref z114, .ref z115])), (q101, .inr (4, [.int 0, .int (-1), .ref z104, .ref z105, .ref z106, .int 0, .long 0]))] sz) := by
  refine Met.ofW (cc := prog_1_method_9_code) (maxL := 2) (ret := (some .int)) (by decide) rfl ?_
  intro p e s m args below meth c s₁ B0 hml hv
  obtain ⟨rfl, hv⟩ := hv
  have hx := B0.exec
  have hb := B0.bytes
  have hr := B0.returns
  have hts := atoms_spec (ws := (Cond.code y_DM_about prog_1_method_9_code 2 (some .int)) :: tw) B0.pre
  have htw : ∀ w ∈ tw, w.before _ s = true := fun w hw => hts w (List.mem_cons_of_mem _ hw)
  have hown : s.vm.findClass "DrawingMachine" = some m.cls := findClass_of_methodNamed B0.named
  have hlocks := B0.notSynchronized
  obtain ⟨hC, hP, hD, hsz⟩ := wC_init hv
  subst hsz
  generalize hAe : va_A [(h0, .inr (0, [.ref q83, .ref q84, .ref q89, .ref q95, .ref q101, .ref q107, .ref q116, .ref q120, .ref q124])), (q95, .inr (3, [.ref z98, .int 0, .int 0, .int 0, .int 0, .int 0, .int (-1), .int (-1), .int 0, .long 0, .ref q83, .ref z99, .ref z100, .int 0, .int 0])), (q107, .inr (5, [.ref z110, .ref z111, .int (-1), .ref z87, .ref q89, .ref z112, .ref z113, .ref z114, .ref z115])), (q101, .inr (4, [.int 0, .int (-1), .ref z104, .ref z105, .ref z106, .int 0, .long 0]))] s.heap.size = A at hC hD ⊢
  have hS : va_S A s.heap s.heap [] := va_S.rf
  have hl := lv_entry ([.ref h0, .int 2]) (n := 2) (Nat.le_of_ble_eq_true rfl)
  rw [lg_entry_eq]
  generalize (lg_sl ([.ref h0, .int 2]) ++ List.replicate (2 - (lg_sl ([.ref h0, .int 2])).length) Slot.unset).toArray = ls at hl ⊢
  have hl : lv_has ls 2 [(0, .ref h0), (1, .int 2)] := hl
  refine lv_iload_n hx hb d_DM_about_0 rfl (lv_at hl 1 rfl) ?_
  refine lv_tableIn (off := 75) (tgt := 76) hx hb d_DM_about_1 (by decide) (by decide) (by decide) (by decide) ?_
  refine lv_aload_n hx hb d_DM_about_76 rfl (lv_at hl 0 rfl) ?_
  refine va_get (D := D) (ci := 0) (v := .ref q95) (C := R_DM) (T := F_DM) (N := 9) hx hb htw i_DM hown hC.1 hP 0 rfl rfl 3 (by decide) (htw _ k259) (fun _ h9 => h9) rfl d_DM_about_77 ?_
  refine va_get (D := D) (ci := 3) (v := .int (-1)) (C := R_Cou) (T := F_Cou) (N := 15) hx hb htw i_Cou hown hC.1 hP 1 rfl rfl 6 (by decide) (htw _ k335) (fun _ h9 => h9) rfl d_DM_about_80 ?_
  refine W.widen (k := 0) (n := 0) (Nat.le_of_ble_eq_true rfl) (Nat.le_of_ble_eq_true rfl) ?_
  have hP9 := hP.sub (ws' := []) [] rfl
  have hD9 := hD.sub (ws' := []) [] (by decide) rfl
  exact W.iret (v := (-1)) hx hb hr (fun t ht hW => ⟨⟨(-1), (), rfl, rfl, by rw [ht]; exact hP9, va_K.moved hW.alike hC.1, hD9⟩, hS.F ht⟩) hS.2.2 d_DM_about_83

theorem d_DM_about_84 : decode prog_1_method_9_code 84 = .ok (.aload_n 0, 1) := by decide +kernel
theorem d_DM_about_85 : decode prog_1_method_9_code 85 = .ok (.getfield 34, 3) := by decide +kernel
theorem d_DM_about_88 : decode prog_1_method_9_code 88 = .ok (.getfield 155, 3) := by decide +kernel
theorem d_DM_about_91 : decode prog_1_method_9_code 91 = .ok (.ireturn, 1) := by decide +kernel
set_option maxHeartbeats 4000000 in
set_option maxRecDepth 100000 in
theorem c_about_3 (l : Launch) (D : va_G) (cI cL : ClassId) (B sz : Nat) (h0 : Nat) (q83 : Nat) (q84 : Nat) (z87 : Nat) (q89 : Nat) (q95 : Nat) (z98 : Nat) (z99 : Nat) (z100 : Nat) (q101 : Nat) (z104 : Nat) (z105 : Nat) (z106 : Nat) (q107 : Nat) (z110 : Nat) (z111 : Nat) (z112 : Nat) (z113 : Nat) (z114 : Nat) (z115 : Nat) (q116 : Nat) (q120 : Nat) (q124 : Nat) : Met l y_DM_about ((Cond.code y_DM_about prog_1_method_9_code 2 (some .int)) :: tw) ({ frames := 50, cells := 0, slots := 0, locals := 5000 }) (va_Pc [.ref h0, .int 3] (wP D cI cL B sz [(h0, .inr (0, [.ref q83, .ref q84, .ref q89, .ref q95, .ref q101, .ref q107, .ref q116, .ref q120, .ref q124])), (q95, .inr (3, [.ref z98, .int 0, .int 0, .int 0, .int 0, .int 0, .int (-1), .int (-1), .int 0, .long 0, .ref q83, .ref z99, .ref z100, .int 0, .int 0])), (q107, .inr (5, [.ref z110, .ref z111, .int (-1), .ref z87, .ref q89, .ref z112, .ref z113, .ref z114, .ref z115])), (q101, .inr (4, [.int 0, .int (-1), .ref z104, .ref z105, .ref z106, .int 0, .long 0]))])) (va_Qi (S := Unit) (fun r u => r = (-1)) (fun u => wB D cI cL (va_A [(h0, .inr (0, [.ref q83, .ref q84, .ref q89, .ref q95, .ref q101, .ref q107, .ref q116, .ref q120, .ref q124])), (q95, .inr (3, [.ref z98, .int 0, .int 0, .int 0, .int 0, .int 0, .int (-1), .int (-1), .int 0, .long 0, .ref q83, .ref z99, .ref z100, .int 0, .int 0])), (q107, .inr (5, [.ref z110, .ref z111, .int (-1), .ref z87, .ref q89, .ref z112, .ref z113, .ref z114, .ref z115])), (q101, .inr (4, [.int 0, .int (-1), .ref z104, .ref z105, .ref z106, .int 0, .long 0]))] sz) ((fun _ : Unit => []) u)) (va_A [(h0, .inr (0, [.ref q83, .ref q84, .ref q89, .ref q95, .ref q101, .ref q107, .ref q116, .ref q120, .ref q124])), (q95, .inr (3, [.ref z98, .int 0, .int 0, .int 0, .int 0, .int 0, .int (-1), .int (-1), .int 0, .long 0, .ref q83, .ref z99, .ref z100, .int 0, .int 0])), (q107, .inr (5, [.ref z110, .ref z111, .int (-1), .ref z87, .ref q89, .ref z112, .ref z113, .ref z114, .ref z115])), (q101, .inr (4, [.int 0, .int (-1), .ref z104, .ref z105, .ref z106, .int 0, .long 0]))] sz)) 0 0 (va_A [(h0, .inr (0, [.ref q83, .ref q84, .ref q89, .ref q95, .ref q101, .ref q107, .ref q116, .ref q120, .ref q124])), (q95, .inr (3, [.ref z98, .int 0, .int 0, .int 0, .int 0, .int 0, .int (-1), .int (-1), .int 0, .long 0, .ref q83, .ref z99, .ref z100, .int 0, .int 0])), (q107, .inr (5, [.ref z110, .ref z111, .int (-1), .ref z87, .ref q89, .ref z112, .ref z113, .ref z114, .ref z115])), (q101, .inr (4, [.int 0, .int (-1), .ref z104, .ref z105, .ref z106, .int 0, .long 0]))] sz) := by
  refine Met.ofW (cc := prog_1_method_9_code) (maxL := 2) (ret := (some .int)) (by decide) rfl ?_
  intro p e s m args below meth c s₁ B0 hml hv
  obtain ⟨rfl, hv⟩ := hv
  have hx := B0.exec
  have hb := B0.bytes
  have hr := B0.returns
  have hts := atoms_spec (ws := (Cond.code y_DM_about prog_1_method_9_code 2 (some .int)) :: tw) B0.pre
  have htw : ∀ w ∈ tw, w.before _ s = true := fun w hw => hts w (List.mem_cons_of_mem _ hw)
  have hown : s.vm.findClass "DrawingMachine" = some m.cls := findClass_of_methodNamed B0.named
  have hlocks := B0.notSynchronized
  obtain ⟨hC, hP, hD, hsz⟩ := wC_init hv
  subst hsz
  generalize hAe : va_A [(h0, .inr (0, [.ref q83, .ref q84, .ref q89, .ref q95, .ref q101, .ref q107, .ref q116, .ref q120, .ref q124])), (q95, .inr (3, [.ref z98, .int 0, .int 0, .int 0, .int 0, .int 0, .int (-1), .int (-1), .int 0, .long 0, .ref q83, .ref z99, .ref z100, .int 0, .int 0])), (q107, .inr (5, [.ref z110, .ref z111, .int (-1), .ref z87, .ref q89, .ref z112, .ref z113, .ref z114, .ref z115])), (q101, .inr (4, [.int 0, .int (-1), .ref z104, .ref z105, .ref z106, .int 0, .long 0]))] s.heap.size = A at hC hD ⊢
  have hS : va_S A s.heap s.heap [] := va_S.rf
  have hl := lv_entry ([.ref h0, .int 3]) (n := 2) (Nat.le_of_ble_eq_true rfl)
  rw [lg_entry_eq]
  generalize (lg_sl ([.ref h0, .int 3]) ++ List.replicate (2 - (lg_sl ([.ref h0, .int 3])).length) Slot.unset).toArray = ls at hl ⊢
  have hl : lv_has ls 2 [(0, .ref h0), (1, .int 3)] := hl
  refine lv_iload_n hx hb d_DM_about_0 rfl (lv_at hl 1 rfl) ?_
  refine lv_tableIn (off := 83) (tgt := 84) hx hb d_DM_about_1 (by decide) (by decide) (by decide) (by decide) ?_
  refine lv_aload_n hx hb d_DM_about_84 rfl (lv_at hl 0 rfl) ?_
  refine va_get (D := D) (ci := 0) (v := .ref q95) (C := R_DM) (T := F_DM) (N := 9) hx hb htw i_DM hown hC.1 hP 0 rfl rfl 3 (by decide) (htw _ k259) (fun _ h9 => h9) rfl d_DM_about_85 ?_
  refine va_get (D := D) (ci := 3) (v := .int (-1)) (C := R_Cou) (T := F_Cou) (N := 15) hx hb htw i_Cou hown hC.1 hP 1 rfl rfl 7 (by decide) (htw _ k336) (fun _ h9 => h9) rfl d_DM_about_88 ?_
  refine W.widen (k := 0) (n := 0) (Nat.le_of_ble_eq_true rfl) (Nat.le_of_ble_eq_true rfl) ?_
  have hP9 := hP.sub (ws' := []) [] rfl
  have hD9 := hD.sub (ws' := []) [] (by decide) rfl
  exact W.iret (v := (-1)) hx hb hr (fun t ht hW => ⟨⟨(-1), (), rfl, rfl, by rw [ht]; exact hP9, va_K.moved hW.alike hC.1, hD9⟩, hS.F ht⟩) hS.2.2 d_DM_about_91

theorem d_DM_about_92 : decode prog_1_method_9_code 92 = .ok (.aload_n 0, 1) := by decide +kernel
theorem d_DM_about_93 : decode prog_1_method_9_code 93 = .ok (.getfield 34, 3) := by decide +kernel
theorem d_DM_about_96 : decode prog_1_method_9_code 96 = .ok (.getfield 128, 3) := by decide +kernel
theorem d_DM_about_99 : decode prog_1_method_9_code 99 = .ok (.ireturn, 1) := by decide +kernel
set_option maxHeartbeats 4000000 in
set_option maxRecDepth 100000 in
theorem c_about_4 (l : Launch) (D : va_G) (cI cL : ClassId) (B sz : Nat) (h0 : Nat) (q83 : Nat) (q84 : Nat) (z87 : Nat) (q89 : Nat) (q95 : Nat) (z98 : Nat) (z99 : Nat) (z100 : Nat) (q101 : Nat) (z104 : Nat) (z105 : Nat) (z106 : Nat) (q107 : Nat) (z110 : Nat) (z111 : Nat) (z112 : Nat) (z113 : Nat) (z114 : Nat) (z115 : Nat) (q116 : Nat) (q120 : Nat) (q124 : Nat) : Met l y_DM_about ((Cond.code y_DM_about prog_1_method_9_code 2 (some .int)) :: tw) ({ frames := 50, cells := 0, slots := 0, locals := 5000 }) (va_Pc [.ref h0, .int 4] (wP D cI cL B sz [(h0, .inr (0, [.ref q83, .ref q84, .ref q89, .ref q95, .ref q101, .ref q107, .ref q116, .ref q120, .ref q124])), (q95, .inr (3, [.ref z98, .int 0, .int 0, .int 0, .int 0, .int 0, .int (-1), .int (-1), .int 0, .long 0, .ref q83, .ref z99, .ref z100, .int 0, .int 0])), (q107, .inr (5, [.ref z110, .ref z111, .int (-1), .ref z87, .ref q89, .ref z112, .ref z113, .ref z114, .ref z115])), (q101, .inr (4, [.int 0, .int (-1), .ref z104, .ref z105, .ref z106, .int 0, .long 0]))])) (va_Qi (S := Unit) (fun r u => r = 0) (fun u => wB D cI cL (va_A [(h0, .inr (0, [.ref q83, .ref q84, .ref q89, .ref q95, .ref q101, .ref q107, .ref q116, .ref q120, .ref q124])), (q95, .inr (3, [.ref z98, .int 0, .int 0, .int 0, .int 0, .int 0, .int (-1), .int (-1), .int 0, .long 0, .ref q83, .ref z99, .ref z100, .int 0, .int 0])), (q107, .inr (5, [.ref z110, .ref z111, .int (-1), .ref z87, .ref q89, .ref z112, .ref z113, .ref z114, .ref z115])), (q101, .inr (4, [.int 0, .int (-1), .ref z104, .ref z105, .ref z106, .int 0, .long 0]))] sz) ((fun _ : Unit => []) u)) (va_A [(h0, .inr (0, [.ref q83, .ref q84, .ref q89, .ref q95, .ref q101, .ref q107, .ref q116, .ref q120, .ref q124])), (q95, .inr (3, [.ref z98, .int 0, .int 0, .int 0, .int 0, .int 0, .int (-1), .int (-1), .int 0, .long 0, .ref q83, .ref z99, .ref z100, .int 0, .int 0])), (q107, .inr (5, [.ref z110, .ref z111, .int (-1), .ref z87, .ref q89, .ref z112, .ref z113, .ref z114, .ref z115])), (q101, .inr (4, [.int 0, .int (-1), .ref z104, .ref z105, .ref z106, .int 0, .long 0]))] sz)) 0 0 (va_A [(h0, .inr (0, [.ref q83, .ref q84, .ref q89, .ref q95, .ref q101, .ref q107, .ref q116, .ref q120, .ref q124])), (q95, .inr (3, [.ref z98, .int 0, .int 0, .int 0, .int 0, .int 0, .int (-1), .int (-1), .int 0, .long 0, .ref q83, .ref z99, .ref z100, .int 0, .int 0])), (q107, .inr (5, [.ref z110, .ref z111, .int (-1), .ref z87, .ref q89, .ref z112, .ref z113, .ref z114, .ref z115])), (q101, .inr (4, [.int 0, .int (-1), .ref z104, .ref z105, .ref z106, .int 0, .long 0]))] sz) := by
  refine Met.ofW (cc := prog_1_method_9_code) (maxL := 2) (ret := (some .int)) (by decide) rfl ?_
  intro p e s m args below meth c s₁ B0 hml hv
  obtain ⟨rfl, hv⟩ := hv
  have hx := B0.exec
  have hb := B0.bytes
  have hr := B0.returns
  have hts := atoms_spec (ws := (Cond.code y_DM_about prog_1_method_9_code 2 (some .int)) :: tw) B0.pre
  have htw : ∀ w ∈ tw, w.before _ s = true := fun w hw => hts w (List.mem_cons_of_mem _ hw)
  have hown : s.vm.findClass "DrawingMachine" = some m.cls := findClass_of_methodNamed B0.named
  have hlocks := B0.notSynchronized
  obtain ⟨hC, hP, hD, hsz⟩ := wC_init hv
  subst hsz
  generalize hAe : va_A [(h0, .inr (0, [.ref q83, .ref q84, .ref q89, .ref q95, .ref q101, .ref q107, .ref q116, .ref q120, .ref q124])), (q95, .inr (3, [.ref z98, .int 0, .int 0, .int 0, .int 0, .int 0, .int (-1), .int (-1), .int 0, .long 0, .ref q83, .ref z99, .ref z100, .int 0, .int 0])), (q107, .inr (5, [.ref z110, .ref z111, .int (-1), .ref z87, .ref q89, .ref z112, .ref z113, .ref z114, .ref z115])), (q101, .inr (4, [.int 0, .int (-1), .ref z104, .ref z105, .ref z106, .int 0, .long 0]))] s.heap.size = A at hC hD ⊢
  have hS : va_S A s.heap s.heap [] := va_S.rf
  have hl := lv_entry ([.ref h0, .int 4]) (n := 2) (Nat.le_of_ble_eq_true rfl)
  rw [lg_entry_eq]
  generalize (lg_sl ([.ref h0, .int 4]) ++ List.replicate (2 - (lg_sl ([.ref h0, .int 4])).length) Slot.unset).toArray = ls at hl ⊢
  have hl : lv_has ls 2 [(0, .ref h0), (1, .int 4)] := hl
  refine lv_iload_n hx hb d_DM_about_0 rfl (lv_at hl 1 rfl) ?_
  refine lv_tableIn (off := 91) (tgt := 92) hx hb d_DM_about_1 (by decide) (by decide) (by decide) (by decide) ?_
  refine lv_aload_n hx hb d_DM_about_92 rfl (lv_at hl 0 rfl) ?_
  refine va_get (D := D) (ci := 0) (v := .ref q95) (C := R_DM) (T := F_DM) (N := 9) hx hb htw i_DM hown hC.1 hP 0 rfl rfl 3 (by decide) (htw _ k259) (fun _ h9 => h9) rfl d_DM_about_93 ?_
  refine va_get (D := D) (ci := 3) (v := .int 0) (C := R_Cou) (T := F_Cou) (N := 15) hx hb htw i_Cou hown hC.1 hP 1 rfl rfl 4 (by decide) (htw _ k318) (fun _ h9 => h9) rfl d_DM_about_96 ?_
  refine W.widen (k := 0) (n := 0) (Nat.le_of_ble_eq_true rfl) (Nat.le_of_ble_eq_true rfl) ?_
  have hP9 := hP.sub (ws' := []) [] rfl
  have hD9 := hD.sub (ws' := []) [] (by decide) rfl
  exact W.iret (v := 0) hx hb hr (fun t ht hW => ⟨⟨0, (), rfl, rfl, by rw [ht]; exact hP9, va_K.moved hW.alike hC.1, hD9⟩, hS.F ht⟩) hS.2.2 d_DM_about_99

theorem d_DM_about_100 : decode prog_1_method_9_code 100 = .ok (.aload_n 0, 1) := by decide +kernel
theorem d_DM_about_101 : decode prog_1_method_9_code 101 = .ok (.getfield 50, 3) := by decide +kernel
theorem d_DM_about_104 : decode prog_1_method_9_code 104 = .ok (.getfield 158, 3) := by decide +kernel
theorem d_DM_about_107 : decode prog_1_method_9_code 107 = .ok (.ireturn, 1) := by decide +kernel
set_option maxHeartbeats 4000000 in
set_option maxRecDepth 100000 in
theorem c_about_5 (l : Launch) (D : va_G) (cI cL : ClassId) (B sz : Nat) (h0 : Nat) (q83 : Nat) (q84 : Nat) (z87 : Nat) (q89 : Nat) (q95 : Nat) (z98 : Nat) (z99 : Nat) (z100 : Nat) (q101 : Nat) (z104 : Nat) (z105 : Nat) (z106 : Nat) (q107 : Nat) (z110 : Nat) (z111 : Nat) (z112 : Nat) (z113 : Nat) (z114 : Nat) (z115 : Nat) (q116 : Nat) (q120 : Nat) (q124 : Nat) : Met l y_DM_about ((Cond.code y_DM_about prog_1_method_9_code 2 (some .int)) :: tw) ({ frames := 50, cells := 0, slots := 0, locals := 5000 }) (va_Pc [.ref h0, .int 5] (wP D cI cL B sz [(h0, .inr (0, [.ref q83, .ref q84, .ref q89, .ref q95, .ref q101, .ref q107, .ref q116, .ref q120, .ref q124])), (q95, .inr (3, [.ref z98, .int 0, .int 0, .int 0, .int 0, .int 0, .int (-1), .int (-1), .int 0, .long 0, .ref q83, .ref z99, .ref z100, .int 0, .int 0])), (q107, .inr (5, [.ref z110, .ref z111, .int (-1), .ref z87, .ref q89, .ref z112, .ref z113, .ref z114, .ref z115])), (q101, .inr (4, [.int 0, .int (-1), .ref z104, .ref z105, .ref z106, .int 0, .long 0]))])) (va_Qi (S := Unit) (fun r u => r = (-1)) (fun u => wB D cI cL (va_A [(h0, .inr (0, [.ref q83, .ref q84, .ref q89, .ref q95, .ref q101, .ref q107, .ref q116, .ref q120, .ref q124])), (q95, .inr (3, [.ref z98, .int 0, .int 0, .int 0, .int 0, .int 0, .int (-1), .int (-1), .int 0, .long 0, .ref q83, .ref z99, .ref z100, .int 0, .int 0])), (q107, .inr (5, [.ref z110, .ref z111, .int (-1), .ref z87, .ref q89, .ref z112, .ref z113, .ref z114, .ref z115])), (q101, .inr (4, [.int 0, .int (-1), .ref z104, .ref z105, .ref z106, .int 0, .long 0]))] sz) ((fun _ : Unit => []) u)) (va_A [(h0, .inr (0, [.ref q83, .ref q84, .ref q89, .ref q95, .ref q101, .ref q107, .ref q116, .ref q120, .ref q124])), (q95, .inr (3, [.ref z98, .int 0, .int 0, .int 0, .int 0, .int 0, .int (-1), .int (-1), .int 0, .long 0, .ref q83, .ref z99, .ref z100, .int 0, .int 0])), (q107, .inr (5, [.ref z110, .ref z111, .int (-1), .ref z87, .ref q89, .ref z112, .ref z113, .ref z114, .ref z115])), (q101, .inr (4, [.int 0, .int (-1), .ref z104, .ref z105, .ref z106, .int 0, .long 0]))] sz)) 0 0 (va_A [(h0, .inr (0, [.ref q83, .ref q84, .ref q89, .ref q95, .ref q101, .ref q107, .ref q116, .ref q120, .ref q124])), (q95, .inr (3, [.ref z98, .int 0, .int 0, .int 0, .int 0, .int 0, .int (-1), .int (-1), .int 0, .long 0, .ref q83, .ref z99, .ref z100, .int 0, .int 0])), (q107, .inr (5, [.ref z110, .ref z111, .int (-1), .ref z87, .ref q89, .ref z112, .ref z113, .ref z114, .ref z115])), (q101, .inr (4, [.int 0, .int (-1), .ref z104, .ref z105, .ref z106, .int 0, .long 0]))] sz) := by
  refine Met.ofW (cc := prog_1_method_9_code) (maxL := 2) (ret := (some .int)) (by decide) rfl ?_
  intro p e s m args below meth c s₁ B0 hml hv
  obtain ⟨rfl, hv⟩ := hv
  have hx := B0.exec
  have hb := B0.bytes
  have hr := B0.returns
  have hts := atoms_spec (ws := (Cond.code y_DM_about prog_1_method_9_code 2 (some .int)) :: tw) B0.pre
  have htw : ∀ w ∈ tw, w.before _ s = true := fun w hw => hts w (List.mem_cons_of_mem _ hw)
  have hown : s.vm.findClass "DrawingMachine" = some m.cls := findClass_of_methodNamed B0.named
  have hlocks := B0.notSynchronized
  obtain ⟨hC, hP, hD, hsz⟩ := wC_init hv
  subst hsz
  generalize hAe : va_A [(h0, .inr (0, [.ref q83, .ref q84, .ref q89, .ref q95, .ref q101, .ref q107, .ref q116, .ref q120, .ref q124])), (q95, .inr (3, [.ref z98, .int 0, .int 0, .int 0, .int 0, .int 0, .int (-1), .int (-1), .int 0, .long 0, .ref q83, .ref z99, .ref z100, .int 0, .int 0])), (q107, .inr (5, [.ref z110, .ref z111, .int (-1), .ref z87, .ref q89, .ref z112, .ref z113, .ref z114, .ref z115])), (q101, .inr (4, [.int 0, .int (-1), .ref z104, .ref z105, .ref z106, .int 0, .long 0]))] s.heap.size = A at hC hD ⊢
  have hS : va_S A s.heap s.heap [] := va_S.rf
  have hl := lv_entry ([.ref h0, .int 5]) (n := 2) (Nat.le_of_ble_eq_true rfl)
  rw [lg_entry_eq]
  generalize (lg_sl ([.ref h0, .int 5]) ++ List.replicate (2 - (lg_sl ([.ref h0, .int 5])).length) Slot.unset).toArray = ls at hl ⊢
  have hl : lv_has ls 2 [(0, .ref h0), (1, .int 5)] := hl
  refine lv_iload_n hx hb d_DM_about_0 rfl (lv_at hl 1 rfl) ?_
  refine lv_tableIn (off := 99) (tgt := 100) hx hb d_DM_about_1 (by decide) (by decide) (by decide) (by decide) ?_
  refine lv_aload_n hx hb d_DM_about_100 rfl (lv_at hl 0 rfl) ?_
  refine va_get (D := D) (ci := 0) (v := .ref q107) (C := R_DM) (T := F_DM) (N := 9) hx hb htw i_DM hown hC.1 hP 0 rfl rfl 5 (by decide) (htw _ k268) (fun _ h9 => h9) rfl d_DM_about_101 ?_
  refine va_get (D := D) (ci := 5) (v := .int (-1)) (C := R_Drw) (T := F_Drw) (N := 9) hx hb htw i_Drw hown hC.1 hP 2 rfl rfl 2 (by decide) (htw _ k337) (fun _ h9 => h9) rfl d_DM_about_104 ?_
  refine W.widen (k := 0) (n := 0) (Nat.le_of_ble_eq_true rfl) (Nat.le_of_ble_eq_true rfl) ?_
  have hP9 := hP.sub (ws' := []) [] rfl
  have hD9 := hD.sub (ws' := []) [] (by decide) rfl
  exact W.iret (v := (-1)) hx hb hr (fun t ht hW => ⟨⟨(-1), (), rfl, rfl, by rw [ht]; exact hP9, va_K.moved hW.alike hC.1, hD9⟩, hS.F ht⟩) hS.2.2 d_DM_about_107

theorem d_DM_about_108 : decode prog_1_method_9_code 108 = .ok (.aload_n 0, 1) := by decide +kernel
theorem d_DM_about_109 : decode prog_1_method_9_code 109 = .ok (.getfield 34, 3) := by decide +kernel
theorem d_DM_about_112 : decode prog_1_method_9_code 112 = .ok (.getfield 90, 3) := by decide +kernel
theorem d_DM_about_115 : decode prog_1_method_9_code 115 = .ok (.ireturn, 1) := by decide +kernel
set_option maxHeartbeats 4000000 in
set_option maxRecDepth 100000 in
theorem c_about_6 (l : Launch) (D : va_G) (cI cL : ClassId) (B sz : Nat) (h0 : Nat) (q83 : Nat) (q84 : Nat) (z87 : Nat) (q89 : Nat) (q95 : Nat) (z98 : Nat) (z99 : Nat) (z100 : Nat) (q101 : Nat) (z104 : Nat) (z105 : Nat) (z106 : Nat) (q107 : Nat) (z110 : Nat) (z111 : Nat) (z112 : Nat) (z113 : Nat) (z114 : Nat) (z115 : Nat) (q116 : Nat) (q120 : Nat) (q124 : Nat) : Met l y_DM_about ((Cond.code y_DM_about prog_1_method_9_code 2 (some .int)) :: tw) ({ frames := 50, cells := 0, slots := 0, locals := 5000 }) (va_Pc [.ref h0, .int 6] (wP D cI cL B sz [(h0, .inr (0, [.ref q83, .ref q84, .ref q89, .ref q95, .ref q101, .ref q107, .ref q116, .ref q120, .ref q124])), (q95, .inr (3, [.ref z98, .int 0, .int 0, .int 0, .int 0, .int 0, .int (-1), .int (-1), .int 0, .long 0, .ref q83, .ref z99, .ref z100, .int 0, .int 0])), (q107, .inr (5, [.ref z110, .ref z111, .int (-1), .ref z87, .ref q89, .ref z112, .ref z113, .ref z114, .ref z115])), (q101, .inr (4, [.int 0, .int (-1), .ref z104, .ref z105, .ref z106, .int 0, .long 0]))])) (va_Qi (S := Unit) (fun r u => r = 0) (fun u => wB D cI cL (va_A [(h0, .inr (0, [.ref q83, .ref q84, .ref q89, .ref q95, .ref q101, .ref q107, .ref q116, .ref q120, .ref q124])), (q95, .inr (3, [.ref z98, .int 0, .int 0, .int 0, .int 0, .int 0, .int (-1), .int (-1), .int 0, .long 0, .ref q83, .ref z99, .ref z100, .int 0, .int 0])), (q107, .inr (5, [.ref z110, .ref z111, .int (-1), .ref z87, .ref q89, .ref z112, .ref z113, .ref z114, .ref z115])), (q101, .inr (4, [.int 0, .int (-1), .ref z104, .ref z105, .ref z106, .int 0, .long 0]))] sz) ((fun _ : Unit => []) u)) (va_A [(h0, .inr (0, [.ref q83, .ref q84, .ref q89, .ref q95, .ref q101, .ref q107, .ref q116, .ref q120, .ref q124])), (q95, .inr (3, [.ref z98, .int 0, .int 0, .int 0, .int 0, .int 0, .int (-1), .int (-1), .int 0, .long 0, .ref q83, .ref z99, .ref z100, .int 0, .int 0])), (q107, .inr (5, [.ref z110, .ref z111, .int (-1), .ref z87, .ref q89, .ref z112, .ref z113, .ref z114, .ref z115])), (q101, .inr (4, [.int 0, .int (-1), .ref z104, .ref z105, .ref z106, .int 0, .long 0]))] sz)) 0 0 (va_A [(h0, .inr (0, [.ref q83, .ref q84, .ref q89, .ref q95, .ref q101, .ref q107, .ref q116, .ref q120, .ref q124])), (q95, .inr (3, [.ref z98, .int 0, .int 0, .int 0, .int 0, .int 0, .int (-1), .int (-1), .int 0, .long 0, .ref q83, .ref z99, .ref z100, .int 0, .int 0])), (q107, .inr (5, [.ref z110, .ref z111, .int (-1), .ref z87, .ref q89, .ref z112, .ref z113, .ref z114, .ref z115])), (q101, .inr (4, [.int 0, .int (-1), .ref z104, .ref z105, .ref z106, .int 0, .long 0]))] sz) := by
  refine Met.ofW (cc := prog_1_method_9_code) (maxL := 2) (ret := (some .int)) (by decide) rfl ?_
  intro p e s m args below meth c s₁ B0 hml hv
  obtain ⟨rfl, hv⟩ := hv
  have hx := B0.exec
  have hb := B0.bytes
  have hr := B0.returns
  have hts := atoms_spec (ws := (Cond.code y_DM_about prog_1_method_9_code 2 (some .int)) :: tw) B0.pre
  have htw : ∀ w ∈ tw, w.before _ s = true := fun w hw => hts w (List.mem_cons_of_mem _ hw)
  have hown : s.vm.findClass "DrawingMachine" = some m.cls := findClass_of_methodNamed B0.named
  have hlocks := B0.notSynchronized
  obtain ⟨hC, hP, hD, hsz⟩ := wC_init hv
  subst hsz
  generalize hAe : va_A [(h0, .inr (0, [.ref q83, .ref q84, .ref q89, .ref q95, .ref q101, .ref q107, .ref q116, .ref q120, .ref q124])), (q95, .inr (3, [.ref z98, .int 0, .int 0, .int 0, .int 0, .int 0, .int (-1), .int (-1), .int 0, .long 0, .ref q83, .ref z99, .ref z100, .int 0, .int 0])), (q107, .inr (5, [.ref z110, .ref z111, .int (-1), .ref z87, .ref q89, .ref z112, .ref z113, .ref z114, .ref z115])), (q101, .inr (4, [.int 0, .int (-1), .ref z104, .ref z105, .ref z106, .int 0, .long 0]))] s.heap.size = A at hC hD ⊢
  have hS : va_S A s.heap s.heap [] := va_S.rf
  have hl := lv_entry ([.ref h0, .int 6]) (n := 2) (Nat.le_of_ble_eq_true rfl)
  rw [lg_entry_eq]
  generalize (lg_sl ([.ref h0, .int 6]) ++ List.replicate (2 - (lg_sl ([.ref h0, .int 6])).length) Slot.unset).toArray = ls at hl ⊢
  have hl : lv_has ls 2 [(0, .ref h0), (1, .int 6)] := hl
  refine lv_iload_n hx hb d_DM_about_0 rfl (lv_at hl 1 rfl) ?_
  refine lv_tableIn (off := 107) (tgt := 108) hx hb d_DM_about_1 (by decide) (by decide) (by decide) (by decide) ?_
  refine lv_aload_n hx hb d_DM_about_108 rfl (lv_at hl 0 rfl) ?_
  refine va_get (D := D) (ci := 0) (v := .ref q95) (C := R_DM) (T := F_DM) (N := 9) hx hb htw i_DM hown hC.1 hP 0 rfl rfl 3 (by decide) (htw _ k259) (fun _ h9 => h9) rfl d_DM_about_109 ?_
  refine va_get (D := D) (ci := 3) (v := .int 0) (C := R_Cou) (T := F_Cou) (N := 15) hx hb htw i_Cou hown hC.1 hP 1 rfl rfl 1 (by decide) (htw _ k293) (fun _ h9 => h9) rfl d_DM_about_112 ?_
  refine W.widen (k := 0) (n := 0) (Nat.le_of_ble_eq_true rfl) (Nat.le_of_ble_eq_true rfl) ?_
  have hP9 := hP.sub (ws' := []) [] rfl
  have hD9 := hD.sub (ws' := []) [] (by decide) rfl
  exact W.iret (v := 0) hx hb hr (fun t ht hW => ⟨⟨0, (), rfl, rfl, by rw [ht]; exact hP9, va_K.moved hW.alike hC.1, hD9⟩, hS.F ht⟩) hS.2.2 d_DM_about_115

theorem d_DM_about_116 : decode prog_1_method_9_code 116 = .ok (.aload_n 0, 1) := by decide +kernel
theorem d_DM_about_117 : decode prog_1_method_9_code 117 = .ok (.getfield 41, 3) := by decide +kernel
theorem d_DM_about_120 : decode prog_1_method_9_code 120 = .ok (.getfield 161, 3) := by decide +kernel
theorem d_DM_about_123 : decode prog_1_method_9_code 123 = .ok (.ireturn, 1) := by decide +kernel
set_option maxHeartbeats 4000000 in
set_option maxRecDepth 100000 in
theorem c_about_7 (l : Launch) (D : va_G) (cI cL : ClassId) (B sz : Nat) (h0 : Nat) (q83 : Nat) (q84 : Nat) (z87 : Nat) (q89 : Nat) (q95 : Nat) (z98 : Nat) (z99 : Nat) (z100 : Nat) (q101 : Nat) (z104 : Nat) (z105 : Nat) (z106 : Nat) (q107 : Nat) (z110 : Nat) (z111 : Nat) (z112 : Nat) (z113 : Nat) (z114 : Nat) (z115 : Nat) (q116 : Nat) (q120 : Nat) (q124 : Nat) : Met l y_DM_about ((Cond.code y_DM_about prog_1_method_9_code 2 (some .int)) :: tw) ({ frames := 50, cells := 0, slots := 0, locals := 5000 }) (va_Pc [.ref h0, .int 7] (wP D cI cL B sz [(h0, .inr (0, [.ref q83, .ref q84, .ref q89, .ref q95, .ref q101, .ref q107, .ref q116, .ref q120, .ref q124])), (q95, .inr (3, [.ref z98, .int 0, .int 0, .int 0, .int 0, .int 0, .int (-1), .int (-1), .int 0, .long 0, .ref q83, .ref z99, .ref z100, .int 0, .int 0])), (q107, .inr (5, [.ref z110, .ref z111, .int (-1), .ref z87, .ref q89, .ref z112, .ref z113, .ref z114, .ref z115])), (q101, .inr (4, [.int 0, .int (-1), .ref z104, .ref z105, .ref z106, .int 0, .long 0]))])) (va_Qi (S := Unit) (fun r u => r = 0) (fun u => wB D cI cL (va_A [(h0, .inr (0, [.ref q83, .ref q84, .ref q89, .ref q95, .ref q101, .ref q107, .ref q116, .ref q120, .ref q124])), (q95, .inr (3, [.ref z98, .int 0, .int 0, .int 0, .int 0, .int 0, .int (-1), .int (-1), .int 0, .long 0, .ref q83, .ref z99, .ref z100, .int 0, .int 0])), (q107, .inr (5, [.ref z110, .ref z111, .int (-1), .ref z87, .ref q89, .ref z112, .ref z113, .ref z114, .ref z115])), (q101, .inr (4, [.int 0, .int (-1), .ref z104, .ref z105, .ref z106, .int 0, .long 0]))] sz) ((fun _ : Unit => []) u)) (va_A [(h0, .inr (0, [.ref q83, .ref q84, .ref q89, .ref q95, .ref q101, .ref q107, .ref q116, .ref q120, .ref q124])), (q95, .inr (3, [.ref z98, .int 0, .int 0, .int 0, .int 0, .int 0, .int (-1), .int (-1), .int 0, .long 0, .ref q83, .ref z99, .ref z100, .int 0, .int 0])), (q107, .inr (5, [.ref z110, .ref z111, .int (-1), .ref z87, .ref q89, .ref z112, .ref z113, .ref z114, .ref z115])), (q101, .inr (4, [.int 0, .int (-1), .ref z104, .ref z105, .ref z106, .int 0, .long 0]))] sz)) 0 0 (va_A [(h0, .inr (0, [.ref q83, .ref q84, .ref q89, .ref q95, .ref q101, .ref q107, .ref q116, .ref q120, .ref q124])), (q95, .inr (3, [.ref z98, .int 0, .int 0, .int 0, .int 0, .int 0, .int (-1), .int (-1), .int 0, .long 0, .ref q83, .ref z99, .ref z100, .int 0, .int 0])), (q107, .inr (5, [.ref z110, .ref z111, .int (-1), .ref z87, .ref q89, .ref z112, .ref z113, .ref z114, .ref z115])), (q101, .inr (4, [.int 0, .int (-1), .ref z104, .ref z105, .ref z106, .int 0, .long 0]))] sz) := by
  refine Met.ofW (cc := prog_1_method_9_code) (maxL := 2) (ret := (some .int)) (by decide) rfl ?_
  intro p e s m args below meth c s₁ B0 hml hv
  obtain ⟨rfl, hv⟩ := hv
  have hx := B0.exec
  have hb := B0.bytes
  have hr := B0.returns
  have hts := atoms_spec (ws := (Cond.code y_DM_about prog_1_method_9_code 2 (some .int)) :: tw) B0.pre
  have htw : ∀ w ∈ tw, w.before _ s = true := fun w hw => hts w (List.mem_cons_of_mem _ hw)
  have hown : s.vm.findClass "DrawingMachine" = some m.cls := findClass_of_methodNamed B0.named
  have hlocks := B0.notSynchronized
  obtain ⟨hC, hP, hD, hsz⟩ := wC_init hv
  subst hsz
  generalize hAe : va_A [(h0, .inr (0, [.ref q83, .ref q84, .ref q89, .ref q95, .ref q101, .ref q107, .ref q116, .ref q120, .ref q124])), (q95, .inr (3, [.ref z98, .int 0, .int 0, .int 0, .int 0, .int 0, .int (-1), .int (-1), .int 0, .long 0, .ref q83, .ref z99, .ref z100, .int 0, .int 0])), (q107, .inr (5, [.ref z110, .ref z111, .int (-1), .ref z87, .ref q89, .ref z112, .ref z113, .ref z114, .ref z115])), (q101, .inr (4, [.int 0, .int (-1), .ref z104, .ref z105, .ref z106, .int 0, .long 0]))] s.heap.size = A at hC hD ⊢
  have hS : va_S A s.heap s.heap [] := va_S.rf
  have hl := lv_entry ([.ref h0, .int 7]) (n := 2) (Nat.le_of_ble_eq_true rfl)
  rw [lg_entry_eq]
  generalize (lg_sl ([.ref h0, .int 7]) ++ List.replicate (2 - (lg_sl ([.ref h0, .int 7])).length) Slot.unset).toArray = ls at hl ⊢
  have hl : lv_has ls 2 [(0, .ref h0), (1, .int 7)] := hl
  refine lv_iload_n hx hb d_DM_about_0 rfl (lv_at hl 1 rfl) ?_
  refine lv_tableIn (off := 115) (tgt := 116) hx hb d_DM_about_1 (by decide) (by decide) (by decide) (by decide) ?_
  refine lv_aload_n hx hb d_DM_about_116 rfl (lv_at hl 0 rfl) ?_
  refine va_get (D := D) (ci := 0) (v := .ref q101) (C := R_DM) (T := F_DM) (N := 9) hx hb htw i_DM hown hC.1 hP 0 rfl rfl 4 (by decide) (htw _ k263) (fun _ h9 => h9) rfl d_DM_about_117 ?_
  refine va_get (D := D) (ci := 4) (v := .int 0) (C := R_Chk) (T := F_Chk) (N := 7) hx hb htw i_Chk hown hC.1 hP 3 rfl rfl 0 (by decide) (htw _ k338) (fun _ h9 => h9) rfl d_DM_about_120 ?_
  refine W.widen (k := 0) (n := 0) (Nat.le_of_ble_eq_true rfl) (Nat.le_of_ble_eq_true rfl) ?_
  have hP9 := hP.sub (ws' := []) [] rfl
  have hD9 := hD.sub (ws' := []) [] (by decide) rfl
  exact W.iret (v := 0) hx hb hr (fun t ht hW => ⟨⟨0, (), rfl, rfl, by rw [ht]; exact hP9, va_K.moved hW.alike hC.1, hD9⟩, hS.F ht⟩) hS.2.2 d_DM_about_123

theorem d_DM_about_124 : decode prog_1_method_9_code 124 = .ok (.aload_n 0, 1) := by decide +kernel
theorem d_DM_about_125 : decode prog_1_method_9_code 125 = .ok (.getfield 41, 3) := by decide +kernel
theorem d_DM_about_128 : decode prog_1_method_9_code 128 = .ok (.getfield 164, 3) := by decide +kernel
theorem d_DM_about_131 : decode prog_1_method_9_code 131 = .ok (.ireturn, 1) := by decide +kernel
set_option maxHeartbeats 4000000 in
set_option maxRecDepth 100000 in
theorem c_about_8 (l : Launch) (D : va_G) (cI cL : ClassId) (B sz : Nat) (h0 : Nat) (q83 : Nat) (q84 : Nat) (z87 : Nat) (q89 : Nat) (q95 : Nat) (z98 : Nat) (z99 : Nat) (z100 : Nat) (q101 : Nat) (z104 : Nat) (z105 : Nat) (z106 : Nat) (q107 : Nat) (z110 : Nat) (z111 : Nat) (z112 : Nat) (z113 : Nat) (z114 : Nat) (z115 : Nat) (q116 : Nat) (q120 : Nat) (q124 : Nat) : Met l y_DM_about ((Cond.code y_DM_about prog_1_method_9_code 2 (some .int)) :: tw) ({ frames := 50, cells := 0, slots := 0, locals := 5000 }) (va_Pc [.ref h0, .int 8] (wP D cI cL B sz [(h0, .inr (0, [.ref q83, .ref q84, .ref q89, .ref q95, .ref q101, .ref q107, .ref q116, .ref q120, .ref q124])), (q95, .inr (3, [.ref z98, .int 0, .int 0, .int 0, .int 0, .int 0, .int (-1), .int (-1), .int 0, .long 0, .ref q83, .ref z99, .ref z100, .int 0, .int 0])), (q107, .inr (5, [.ref z110, .ref z111, .int (-1), .ref z87, .ref q89, .ref z112, .ref z113, .ref z114, .ref z115])), (q101, .inr (4, [.int 0, .int (-1), .ref z104, .ref z105, .ref z106, .int 0, .long 0]))])) (va_Qi (S := Unit) (fun r u => r = (-1)) (fun u => wB D cI cL (va_A [(h0, .inr (0, [.ref q83, .ref q84, .ref q89, .ref q95, .ref q101, .ref q107, .ref q116, .ref q120, .ref q124])), (q95, .inr (3, [.ref z98, .int 0, .int 0, .int 0, .int 0, .int 0, .int (-1), .int (-1), .int 0, .long 0, .ref q83, .ref z99, .ref z100, .int 0, .int 0])), (q107, .inr (5, [.ref z110, .ref z111, .int (-1), .ref z87, .ref q89, .ref z112, .ref z113, .ref z114, .ref z115])), (q101, .inr (4, [.int 0, .int (-1), .ref z104, .ref z105, .ref z106, .int 0, .long 0]))] sz) ((fun _ : Unit => []) u)) (va_A [(h0, .inr (0, [.ref q83, .ref q84, .ref q89, .ref q95, .ref q101, .ref q107, .ref q116, .ref q120, .ref q124])), (q95, .inr (3, [.ref z98, .int 0, .int 0, .int 0, .int 0, .int 0, .int (-1), .int (-1), .int 0, .long 0, .ref q83, .ref z99, .ref z100, .int 0, .int 0])), (q107, .inr (5, [.ref z110, .ref z111, .int (-1), .ref z87, .ref q89, .ref z112, .ref z113, .ref z114, .ref z115])), (q101, .inr (4, [.int 0, .int (-1), .ref z104, .ref z105, .ref z106, .int 0, .long 0]))] sz)) 0 0 (va_A [(h0, .inr (0, [.ref q83, .ref q84, .ref q89, .ref q95, .ref q101, .ref q107, .ref q116, .ref q120, .ref q124])), (q95, .inr (3, [.ref z98, .int 0, .int 0, .int 0, .int 0, .int 0, .int (-1), .int (-1), .int 0, .long 0, .ref q83, .ref z99, .ref z100, .int 0, .int 0])), (q107, .inr (5, [.ref z110, .ref z111, .int (-1), .ref z87, .ref q89, .ref z112, .ref z113, .ref z114, .ref z115])), (q101, .inr (4, [.int 0, .int (-1), .ref z104, .ref z105, .ref z106, .int 0, .long 0]))] sz) := by
  refine Met.ofW (cc := prog_1_method_9_code) (maxL := 2) (ret := (some .int)) (by decide) rfl ?_
  intro p e s m args below meth c s₁ B0 hml hv
  obtain ⟨rfl, hv⟩ := hv
  have hx := B0.exec
  have hb := B0.bytes
  have hr := B0.returns
  have hts := atoms_spec (ws := (Cond.code y_DM_about prog_1_method_9_code 2 (some .int)) :: tw) B0.pre
  have htw : ∀ w ∈ tw, w.before _ s = true := fun w hw => hts w (List.mem_cons_of_mem _ hw)
  have hown : s.vm.findClass "DrawingMachine" = some m.cls := findClass_of_methodNamed B0.named
  have hlocks := B0.notSynchronized
  obtain ⟨hC, hP, hD, hsz⟩ := wC_init hv
  subst hsz
  generalize hAe : va_A [(h0, .inr (0, [.ref q83, .ref q84, .ref q89, .ref q95, .ref q101, .ref q107, .ref q116, .ref q120, .ref q124])), (q95, .inr (3, [.ref z98, .int 0, .int 0, .int 0, .int 0, .int 0, .int (-1), .int (-1), .int 0, .long 0, .ref q83, .ref z99, .ref z100, .int 0, .int 0])), (q107, .inr (5, [.ref z110, .ref z111, .int (-1), .ref z87, .ref q89, .ref z112, .ref z113, .ref z114, .ref z115])), (q101, .inr (4, [.int 0, .int (-1), .ref z104, .ref z105, .ref z106, .int 0, .long 0]))] s.heap.size = A at hC hD ⊢
  have hS : va_S A s.heap s.heap [] := va_S.rf
  have hl := lv_entry ([.ref h0, .int 8]) (n := 2) (Nat.le_of_ble_eq_true rfl)
  rw [lg_entry_eq]
  generalize (lg_sl ([.ref h0, .int 8]) ++ List.replicate (2 - (lg_sl ([.ref h0, .int 8])).length) Slot.unset).toArray = ls at hl ⊢
  have hl : lv_has ls 2 [(0, .ref h0), (1, .int 8)] := hl
  refine lv_iload_n hx hb d_DM_about_0 rfl (lv_at hl 1 rfl) ?_
  refine lv_tableIn (off := 123) (tgt := 124) hx hb d_DM_about_1 (by decide) (by decide) (by decide) (by decide) ?_
  refine lv_aload_n hx hb d_DM_about_124 rfl (lv_at hl 0 rfl) ?_
  refine va_get (D := D) (ci := 0) (v := .ref q101) (C := R_DM) (T := F_DM) (N := 9) hx hb htw i_DM hown hC.1 hP 0 rfl rfl 4 (by decide) (htw _ k263) (fun _ h9 => h9) rfl d_DM_about_125 ?_
  refine va_get (D := D) (ci := 4) (v := .int (-1)) (C := R_Chk) (T := F_Chk) (N := 7) hx hb htw i_Chk hown hC.1 hP 3 rfl rfl 1 (by decide) (htw _ k339) (fun _ h9 => h9) rfl d_DM_about_128 ?_
  refine W.widen (k := 0) (n := 0) (Nat.le_of_ble_eq_true rfl) (Nat.le_of_ble_eq_true rfl) ?_
  have hP9 := hP.sub (ws' := []) [] rfl
  have hD9 := hD.sub (ws' := []) [] (by decide) rfl
  exact W.iret (v := (-1)) hx hb hr (fun t ht hW => ⟨⟨(-1), (), rfl, rfl, by rw [ht]; exact hP9, va_K.moved hW.alike hC.1, hD9⟩, hS.F ht⟩) hS.2.2 d_DM_about_131

theorem d_DM_about_132 : decode prog_1_method_9_code 132 = .ok (.new 74, 3) := by decide +kernel
theorem d_DM_about_135 : decode prog_1_method_9_code 135 = .ok (.dup, 1) := by decide +kernel
theorem d_DM_about_136 : decode prog_1_method_9_code 136 = .ok (.ldc 167, 2) := by decide +kernel
theorem d_DM_about_138 : decode prog_1_method_9_code 138 = .ok (.invokespecial 78, 3) := by decide +kernel
theorem d_DM_about_141 : decode prog_1_method_9_code 141 = .ok (.athrow, 1) := by decide +kernel
set_option maxHeartbeats 4000000 in
set_option maxRecDepth 100000 in
theorem c_about_b (l : Launch) (hfl : l.stackTraces = false) (D : va_G) (cI cL : ClassId) (B sz : Nat) (h0 : Nat) (x : Int32) (hbd : x < 0 ∨ 8 < x) : tq_Met l y_DM_about ((Cond.code y_DM_about prog_1_method_9_code 2 (some .int)) :: tw) ({ frames := 50, cells := 1, slots := 6, locals := 5000 }) (va_Pc [.ref h0, .int x] (wP D cI cL B sz [])) (tq_Q "java/lang/IllegalArgumentException") 1 6 := by
  refine tq_ofW (cc := prog_1_method_9_code) (maxL := 2) (ret := (some .int)) (by decide) rfl ?_
  intro p e s m args below meth c s₁ B0 hml hv
  obtain ⟨rfl, hv⟩ := hv
  have hx := B0.exec
  have hb := B0.bytes
  have hr := B0.returns
  have hts := atoms_spec (ws := (Cond.code y_DM_about prog_1_method_9_code 2 (some .int)) :: tw) B0.pre
  have htw : ∀ w ∈ tw, w.before _ s = true := fun w hw => hts w (List.mem_cons_of_mem _ hw)
  have hown : s.vm.findClass "DrawingMachine" = some m.cls := findClass_of_methodNamed B0.named
  have hlocks := B0.notSynchronized
  obtain ⟨hC, hP, hD, hsz⟩ := wC_init hv
  subst hsz
  generalize hAe : va_A [] s.heap.size = A at hC hD
  have hS : va_S A s.heap s.heap [] := va_S.rf
  have hl := lv_entry ([.ref h0, .int x]) (n := 2) (Nat.le_of_ble_eq_true rfl)
  rw [lg_entry_eq]
  generalize (lg_sl ([.ref h0, .int x]) ++ List.replicate (2 - (lg_sl ([.ref h0, .int x])).length) Slot.unset).toArray = ls at hl ⊢
  have hl : lv_has ls 2 [(0, .ref h0), (1, .int x)] := hl
  have htr : e.platform.stackTraces = false := by rw [(Stand.of_body B0).admits.platform]; exact hfl
  have hout : c.exceptionTable.isEmpty = true := BodyLoose.noHandlers B0 (hts _ List.mem_cons_self)
  have hA0 : ∀ q, A q → s.heap.size ≤ q := by
    intro q h
    rw [← hAe] at h
    rcases h with ⟨k, e, h⟩ | h
    · simp at h
    · exact h
  refine lv_iload_n hx hb d_DM_about_0 rfl (lv_at hl 1 rfl) ?_
  refine lv_tableOut (tgt := 132) hx hb d_DM_about_1 (out08 hbd) (by decide) ?_
  exact tq_throwH hx hb htr hown (by decide) (by decide) (own_use htw hC own_IA) (htw _ k282) (htw _ k885) (hC.2.2.1.2.2.2.1 (167, "nothing is told about that") (by decide)) (hml.trans hl.1.symm) hout hlocks d_DM_about_132 d_DM_about_135 d_DM_about_136 d_DM_about_138 d_DM_about_141 (Nat.le_of_ble_eq_true rfl) (Nat.le_of_ble_eq_true rfl) (Nat.le_of_ble_eq_true rfl) (Nat.le_of_ble_eq_true rfl) hS.1 (fun q hq => hA0 _ (hS.2.2 q hq))

theorem d_Pic_rowOf_0 : decode prog_6_method_3_code 0 = .ok (.iload_n 1, 1) := by decide +kernel
theorem d_Pic_rowOf_1 : decode prog_6_method_3_code 1 = .ok (.ifCond .ne 10, 3) := by decide +kernel
theorem d_Pic_rowOf_4 : decode prog_6_method_3_code 4 = .ok (.aload_n 0, 1) := by decide +kernel
theorem d_Pic_rowOf_5 : decode prog_6_method_3_code 5 = .ok (.getfield 18, 3) := by decide +kernel
theorem d_Pic_rowOf_8 : decode prog_6_method_3_code 8 = .ok (.goto 19, 3) := by decide +kernel
theorem d_Pic_rowOf_27 : decode prog_6_method_3_code 27 = .ok (.areturn, 1) := by decide +kernel
set_option maxHeartbeats 4000000 in
set_option maxRecDepth 100000 in
theorem c_rowOf_0 (l : Launch) (D : va_G) (cI cL : ClassId) (B sz : Nat) (q84 : Nat) (z87 : Nat) (q89 : Nat) (z92 : Nat) (z93 : Nat) (z94 : Nat) : Met l y_Pic_rowOf ((Cond.code y_Pic_rowOf prog_6_method_3_code 2 (some (.array .int))) :: tw) ({ frames := 20, cells := 0, slots := 0, locals := 2000 }) (va_Pc [.ref q89, .int 0] (wP D cI cL B sz [(q89, .inr (2, [.int 1, .int 1, .ref z92, .ref z93, .ref z94, .ref q84, .ref z87]))])) (va_Qr (S := Unit) (fun _ => True) (fun u q t => q = (fun _ : Unit => z92) u ∧ wB D cI cL (va_A [(q89, .inr (2, [.int 1, .int 1, .ref z92, .ref z93, .ref z94, .ref q84, .ref z87]))] sz) ((fun _ : Unit => [(q89, .inr (2, [.int 1, .int 1, .ref z92, .ref z93, .ref z94, .ref q84, .ref z87]))]) u) t) (va_A [(q89, .inr (2, [.int 1, .int 1, .ref z92, .ref z93, .ref z94, .ref q84, .ref z87]))] sz)) 0 0 (va_A [(q89, .inr (2, [.int 1, .int 1, .ref z92, .ref z93, .ref z94, .ref q84, .ref z87]))] sz) := by
  refine Met.ofW (cc := prog_6_method_3_code) (maxL := 2) (ret := (some (.array .int))) (by decide) rfl ?_
  intro p e s m args below meth c s₁ B0 hml hv
  obtain ⟨rfl, hv⟩ := hv
  have hx := B0.exec
  have hb := B0.bytes
  have hr := B0.returns
  have hts := atoms_spec (ws := (Cond.code y_Pic_rowOf prog_6_method_3_code 2 (some (.array .int))) :: tw) B0.pre
  have htw : ∀ w ∈ tw, w.before _ s = true := fun w hw => hts w (List.mem_cons_of_mem _ hw)
  have hown : s.vm.findClass "DrawingMachine$Picture" = some m.cls := findClass_of_methodNamed B0.named
  have hlocks := B0.notSynchronized
  obtain ⟨hC, hP, hD, hsz⟩ := wC_init hv
  subst hsz
  generalize hAe : va_A [(q89, .inr (2, [.int 1, .int 1, .ref z92, .ref z93, .ref z94, .ref q84, .ref z87]))] s.heap.size = A at hC hD ⊢
  have hS : va_S A s.heap s.heap [] := va_S.rf
  have hl := lv_entry ([.ref q89, .int 0]) (n := 2) (Nat.le_of_ble_eq_true rfl)
  rw [lg_entry_eq]
  generalize (lg_sl ([.ref q89, .int 0]) ++ List.replicate (2 - (lg_sl ([.ref q89, .int 0])).length) Slot.unset).toArray = ls at hl ⊢
  have hl : lv_has ls 2 [(0, .ref q89), (1, .int 0)] := hl
  refine lv_iload_n hx hb d_Pic_rowOf_0 rfl (lv_at hl 1 rfl) ?_
  refine lv_if_ne (tgt := 11) hx hb d_Pic_rowOf_1 (by decide) (fun c_196 => absurd c_196 (by decide)) (fun c_196 => ?_)
  refine lv_aload_n hx hb d_Pic_rowOf_4 rfl (lv_at hl 0 rfl) ?_
  refine va_get (D := D) (ci := 2) (v := .ref z92) (C := R_Pic) (T := F_Pic) (N := 7) hx hb htw i_Pic hown hC.1 hP 0 rfl rfl 2 (by decide) (htw _ k392) (fun _ h9 => h9) rfl d_Pic_rowOf_5 ?_
  refine lv_goto (tgt := 27) hx hb d_Pic_rowOf_8 (by decide) ?_
  refine W.widen (k := 0) (n := 0) (Nat.le_of_ble_eq_true rfl) (Nat.le_of_ble_eq_true rfl) ?_
  have hP9 := hP.sub (ws' := [(q89, .inr (2, [.int 1, .int 1, .ref z92, .ref z93, .ref z94, .ref q84, .ref z87]))]) [0] rfl
  have hD9 := hD.sub (ws' := [(q89, .inr (2, [.int 1, .int 1, .ref z92, .ref z93, .ref z94, .ref q84, .ref z87]))]) [0] (by decide) rfl
  exact W.aret (v := .ref z92) hx hb hr (Or.inr ⟨_, rfl⟩) (Or.inr ⟨_, rfl⟩) (fun t ht hW => ⟨⟨(), z92, rfl, trivial, rfl, by rw [ht]; exact hP9, va_K.moved hW.alike hC.1, hD9⟩, hS.F ht⟩) hS.2.2 d_Pic_rowOf_27

theorem d_Pic_rowOf_11 : decode prog_6_method_3_code 11 = .ok (.iload_n 1, 1) := by decide +kernel
theorem d_Pic_rowOf_12 : decode prog_6_method_3_code 12 = .ok (.iconst 1, 1) := by decide +kernel
theorem d_Pic_rowOf_13 : decode prog_6_method_3_code 13 = .ok (.if_icmp .ne 10, 3) := by decide +kernel
theorem d_Pic_rowOf_16 : decode prog_6_method_3_code 16 = .ok (.aload_n 0, 1) := by decide +kernel
theorem d_Pic_rowOf_17 : decode prog_6_method_3_code 17 = .ok (.getfield 22, 3) := by decide +kernel
theorem d_Pic_rowOf_20 : decode prog_6_method_3_code 20 = .ok (.goto 7, 3) := by decide +kernel
set_option maxHeartbeats 4000000 in
set_option maxRecDepth 100000 in
theorem c_rowOf_1 (l : Launch) (D : va_G) (cI cL : ClassId) (B sz : Nat) (q84 : Nat) (z87 : Nat) (q89 : Nat) (z92 : Nat) (z93 : Nat) (z94 : Nat) : Met l y_Pic_rowOf ((Cond.code y_Pic_rowOf prog_6_method_3_code 2 (some (.array .int))) :: tw) ({ frames := 20, cells := 0, slots := 0, locals := 2000 }) (va_Pc [.ref q89, .int 1] (wP D cI cL B sz [(q89, .inr (2, [.int 1, .int 1, .ref z92, .ref z93, .ref z94, .ref q84, .ref z87]))])) (va_Qr (S := Unit) (fun _ => True) (fun u q t => q = (fun _ : Unit => z93) u ∧ wB D cI cL (va_A [(q89, .inr (2, [.int 1, .int 1, .ref z92, .ref z93, .ref z94, .ref q84, .ref z87]))] sz) ((fun _ : Unit => [(q89, .inr (2, [.int 1, .int 1, .ref z92, .ref z93, .ref z94, .ref q84, .ref z87]))]) u) t) (va_A [(q89, .inr (2, [.int 1, .int 1, .ref z92, .ref z93, .ref z94, .ref q84, .ref z87]))] sz)) 0 0 (va_A [(q89, .inr (2, [.int 1, .int 1, .ref z92, .ref z93, .ref z94, .ref q84, .ref z87]))] sz) := by
  refine Met.ofW (cc := prog_6_method_3_code) (maxL := 2) (ret := (some (.array .int))) (by decide) rfl ?_
  intro p e s m args below meth c s₁ B0 hml hv
  obtain ⟨rfl, hv⟩ := hv
  have hx := B0.exec
  have hb := B0.bytes
  have hr := B0.returns
  have hts := atoms_spec (ws := (Cond.code y_Pic_rowOf prog_6_method_3_code 2 (some (.array .int))) :: tw) B0.pre
  have htw : ∀ w ∈ tw, w.before _ s = true := fun w hw => hts w (List.mem_cons_of_mem _ hw)
  have hown : s.vm.findClass "DrawingMachine$Picture" = some m.cls := findClass_of_methodNamed B0.named
  have hlocks := B0.notSynchronized
  obtain ⟨hC, hP, hD, hsz⟩ := wC_init hv
  subst hsz
  generalize hAe : va_A [(q89, .inr (2, [.int 1, .int 1, .ref z92, .ref z93, .ref z94, .ref q84, .ref z87]))] s.heap.size = A at hC hD ⊢
  have hS : va_S A s.heap s.heap [] := va_S.rf
  have hl := lv_entry ([.ref q89, .int 1]) (n := 2) (Nat.le_of_ble_eq_true rfl)
  rw [lg_entry_eq]
  generalize (lg_sl ([.ref q89, .int 1]) ++ List.replicate (2 - (lg_sl ([.ref q89, .int 1])).length) Slot.unset).toArray = ls at hl ⊢
  have hl : lv_has ls 2 [(0, .ref q89), (1, .int 1)] := hl
  refine lv_iload_n hx hb d_Pic_rowOf_0 rfl (lv_at hl 1 rfl) ?_
  refine lv_if_ne (tgt := 11) hx hb d_Pic_rowOf_1 (by decide) (fun c_197 => ?_) (fun c_197 => absurd c_197 (by decide))
  refine lv_iload_n hx hb d_Pic_rowOf_11 rfl (lv_at hl 1 rfl) ?_
  refine lv_iconst (v := 1) hx hb d_Pic_rowOf_12 (by decide) ?_
  refine lv_icmp_ne (tgt := 23) hx hb d_Pic_rowOf_13 (by decide) (fun c_198 => absurd c_198 (by decide)) (fun c_198 => ?_)
  refine lv_aload_n hx hb d_Pic_rowOf_16 rfl (lv_at hl 0 rfl) ?_
  refine va_get (D := D) (ci := 2) (v := .ref z93) (C := R_Pic) (T := F_Pic) (N := 7) hx hb htw i_Pic hown hC.1 hP 0 rfl rfl 3 (by decide) (htw _ k393) (fun _ h9 => h9) rfl d_Pic_rowOf_17 ?_
  refine lv_goto (tgt := 27) hx hb d_Pic_rowOf_20 (by decide) ?_
  refine W.widen (k := 0) (n := 0) (Nat.le_of_ble_eq_true rfl) (Nat.le_of_ble_eq_true rfl) ?_
  have hP9 := hP.sub (ws' := [(q89, .inr (2, [.int 1, .int 1, .ref z92, .ref z93, .ref z94, .ref q84, .ref z87]))]) [0] rfl
  have hD9 := hD.sub (ws' := [(q89, .inr (2, [.int 1, .int 1, .ref z92, .ref z93, .ref z94, .ref q84, .ref z87]))]) [0] (by decide) rfl
  exact W.aret (v := .ref z93) hx hb hr (Or.inr ⟨_, rfl⟩) (Or.inr ⟨_, rfl⟩) (fun t ht hW => ⟨⟨(), z93, rfl, trivial, rfl, by rw [ht]; exact hP9, va_K.moved hW.alike hC.1, hD9⟩, hS.F ht⟩) hS.2.2 d_Pic_rowOf_27

theorem d_Pic_rowOf_23 : decode prog_6_method_3_code 23 = .ok (.aload_n 0, 1) := by decide +kernel
theorem d_Pic_rowOf_24 : decode prog_6_method_3_code 24 = .ok (.getfield 25, 3) := by decide +kernel
set_option maxHeartbeats 4000000 in
set_option maxRecDepth 100000 in
theorem c_rowOf_2 (l : Launch) (D : va_G) (cI cL : ClassId) (B sz : Nat) (q84 : Nat) (z87 : Nat) (q89 : Nat) (z92 : Nat) (z93 : Nat) (z94 : Nat) : Met l y_Pic_rowOf ((Cond.code y_Pic_rowOf prog_6_method_3_code 2 (some (.array .int))) :: tw) ({ frames := 20, cells := 0, slots := 0, locals := 2000 }) (va_Pc [.ref q89, .int 2] (wP D cI cL B sz [(q89, .inr (2, [.int 1, .int 1, .ref z92, .ref z93, .ref z94, .ref q84, .ref z87]))])) (va_Qr (S := Unit) (fun _ => True) (fun u q t => q = (fun _ : Unit => z94) u ∧ wB D cI cL (va_A [(q89, .inr (2, [.int 1, .int 1, .ref z92, .ref z93, .ref z94, .ref q84, .ref z87]))] sz) ((fun _ : Unit => [(q89, .inr (2, [.int 1, .int 1, .ref z92, .ref z93, .ref z94, .ref q84, .ref z87]))]) u) t) (va_A [(q89, .inr (2, [.int 1, .int 1, .ref z92, .ref z93, .ref z94, .ref q84, .ref z87]))] sz)) 0 0 (va_A [(q89, .inr (2, [.int 1, .int 1, .ref z92, .ref z93, .ref z94, .ref q84, .ref z87]))] sz) := by
  refine Met.ofW (cc := prog_6_method_3_code) (maxL := 2) (ret := (some (.array .int))) (by decide) rfl ?_
  intro p e s m args below meth c s₁ B0 hml hv
  obtain ⟨rfl, hv⟩ := hv
  have hx := B0.exec
  have hb := B0.bytes
  have hr := B0.returns
  have hts := atoms_spec (ws := (Cond.code y_Pic_rowOf prog_6_method_3_code 2 (some (.array .int))) :: tw) B0.pre
  have htw : ∀ w ∈ tw, w.before _ s = true := fun w hw => hts w (List.mem_cons_of_mem _ hw)
  have hown : s.vm.findClass "DrawingMachine$Picture" = some m.cls := findClass_of_methodNamed B0.named
  have hlocks := B0.notSynchronized
  obtain ⟨hC, hP, hD, hsz⟩ := wC_init hv
  subst hsz
  generalize hAe : va_A [(q89, .inr (2, [.int 1, .int 1, .ref z92, .ref z93, .ref z94, .ref q84, .ref z87]))] s.heap.size = A at hC hD ⊢
  have hS : va_S A s.heap s.heap [] := va_S.rf
  have hl := lv_entry ([.ref q89, .int 2]) (n := 2) (Nat.le_of_ble_eq_true rfl)
  rw [lg_entry_eq]
  generalize (lg_sl ([.ref q89, .int 2]) ++ List.replicate (2 - (lg_sl ([.ref q89, .int 2])).length) Slot.unset).toArray = ls at hl ⊢
  have hl : lv_has ls 2 [(0, .ref q89), (1, .int 2)] := hl
  refine lv_iload_n hx hb d_Pic_rowOf_0 rfl (lv_at hl 1 rfl) ?_
  refine lv_if_ne (tgt := 11) hx hb d_Pic_rowOf_1 (by decide) (fun c_199 => ?_) (fun c_199 => absurd c_199 (by decide))
  refine lv_iload_n hx hb d_Pic_rowOf_11 rfl (lv_at hl 1 rfl) ?_
  refine lv_iconst (v := 1) hx hb d_Pic_rowOf_12 (by decide) ?_
  refine lv_icmp_ne (tgt := 23) hx hb d_Pic_rowOf_13 (by decide) (fun c_200 => ?_) (fun c_200 => absurd c_200 (by decide))
  refine lv_aload_n hx hb d_Pic_rowOf_23 rfl (lv_at hl 0 rfl) ?_
  refine va_get (D := D) (ci := 2) (v := .ref z94) (C := R_Pic) (T := F_Pic) (N := 7) hx hb htw i_Pic hown hC.1 hP 0 rfl rfl 4 (by decide) (htw _ k394) (fun _ h9 => h9) rfl d_Pic_rowOf_24 ?_
  refine W.widen (k := 0) (n := 0) (Nat.le_of_ble_eq_true rfl) (Nat.le_of_ble_eq_true rfl) ?_
  have hP9 := hP.sub (ws' := [(q89, .inr (2, [.int 1, .int 1, .ref z92, .ref z93, .ref z94, .ref q84, .ref z87]))]) [0] rfl
  have hD9 := hD.sub (ws' := [(q89, .inr (2, [.int 1, .int 1, .ref z92, .ref z93, .ref z94, .ref q84, .ref z87]))]) [0] (by decide) rfl
  exact W.aret (v := .ref z94) hx hb hr (Or.inr ⟨_, rfl⟩) (Or.inr ⟨_, rfl⟩) (fun t ht hW => ⟨⟨(), z94, rfl, trivial, rfl, by rw [ht]; exact hP9, va_K.moved hW.alike hC.1, hD9⟩, hS.F ht⟩) hS.2.2 d_Pic_rowOf_27

theorem d_DM_at_0 : decode prog_1_method_10_code 0 = .ok (.iload_n 3, 1) := by decide +kernel
theorem d_DM_at_1 : decode prog_1_method_10_code 1 = .ok (.ifCond .lt 8, 3) := by decide +kernel
theorem d_DM_at_4 : decode prog_1_method_10_code 4 = .ok (.iload_n 3, 1) := by decide +kernel
theorem d_DM_at_5 : decode prog_1_method_10_code 5 = .ok (.iconst 2, 1) := by decide +kernel
theorem d_DM_at_6 : decode prog_1_method_10_code 6 = .ok (.if_icmp .le 13, 3) := by decide +kernel
theorem d_DM_at_19 : decode prog_1_method_10_code 19 = .ok (.iload_n 1, 1) := by decide +kernel
theorem d_DM_at_20 : decode prog_1_method_10_code 20 = .ok (.ifCond .lt 29, 3) := by decide +kernel
theorem d_DM_at_23 : decode prog_1_method_10_code 23 = .ok (.iload_n 1, 1) := by decide +kernel
theorem d_DM_at_24 : decode prog_1_method_10_code 24 = .ok (.aload_n 0, 1) := by decide +kernel
theorem d_DM_at_25 : decode prog_1_method_10_code 25 = .ok (.getfield 25, 3) := by decide +kernel
theorem d_DM_at_28 : decode prog_1_method_10_code 28 = .ok (.getfield 171, 3) := by decide +kernel
theorem d_DM_at_31 : decode prog_1_method_10_code 31 = .ok (.if_icmp .ge 18, 3) := by decide +kernel
theorem d_DM_at_34 : decode prog_1_method_10_code 34 = .ok (.iload_n 2, 1) := by decide +kernel
theorem d_DM_at_35 : decode prog_1_method_10_code 35 = .ok (.ifCond .lt 14, 3) := by decide +kernel
theorem d_DM_at_38 : decode prog_1_method_10_code 38 = .ok (.iload_n 2, 1) := by decide +kernel
theorem d_DM_at_39 : decode prog_1_method_10_code 39 = .ok (.aload_n 0, 1) := by decide +kernel
theorem d_DM_at_40 : decode prog_1_method_10_code 40 = .ok (.getfield 25, 3) := by decide +kernel
theorem d_DM_at_43 : decode prog_1_method_10_code 43 = .ok (.getfield 174, 3) := by decide +kernel
theorem d_DM_at_46 : decode prog_1_method_10_code 46 = .ok (.if_icmp .lt 13, 3) := by decide +kernel
theorem d_DM_at_59 : decode prog_1_method_10_code 59 = .ok (.aload_n 0, 1) := by decide +kernel
theorem d_DM_at_60 : decode prog_1_method_10_code 60 = .ok (.getfield 25, 3) := by decide +kernel
theorem d_DM_at_63 : decode prog_1_method_10_code 63 = .ok (.iload_n 3, 1) := by decide +kernel
theorem d_DM_at_64 : decode prog_1_method_10_code 64 = .ok (.invokevirtual 179, 3) := by decide +kernel
theorem d_DM_at_67 : decode prog_1_method_10_code 67 = .ok (.iload_n 2, 1) := by decide +kernel
theorem d_DM_at_68 : decode prog_1_method_10_code 68 = .ok (.aload_n 0, 1) := by decide +kernel
theorem d_DM_at_69 : decode prog_1_method_10_code 69 = .ok (.getfield 25, 3) := by decide +kernel
theorem d_DM_at_72 : decode prog_1_method_10_code 72 = .ok (.getfield 171, 3) := by decide +kernel
theorem d_DM_at_75 : decode prog_1_method_10_code 75 = .ok (.imul, 1) := by decide +kernel
theorem d_DM_at_76 : decode prog_1_method_10_code 76 = .ok (.iload_n 1, 1) := by decide +kernel
theorem d_DM_at_77 : decode prog_1_method_10_code 77 = .ok (.iadd, 1) := by decide +kernel
theorem d_DM_at_78 : decode prog_1_method_10_code 78 = .ok (.iaload, 1) := by decide +kernel
theorem d_DM_at_79 : decode prog_1_method_10_code 79 = .ok (.ireturn, 1) := by decide +kernel
theorem gV_DM_179 : GoodIn tw (wsV "DrawingMachine" 179 "DrawingMachine$Picture" y_Pic_rowOf ((Cond.code y_Pic_rowOf prog_6_method_3_code 2 (some (.array .int))) :: tw)) := tw_pre (fun _ h => h) (tw_good (fun _ h => h) k346) (List.forall_mem_cons.mpr ⟨k343, List.forall_mem_cons.mpr ⟨k344, List.forall_mem_cons.mpr ⟨k345, List.forall_mem_cons.mpr ⟨k14, fun _ h => absurd h List.not_mem_nil⟩⟩⟩⟩)
set_option maxHeartbeats 4000000 in
set_option maxRecDepth 100000 in
theorem c_at_0 (l : Launch) (D : va_G) (cI cL : ClassId) (B sz : Nat) (h0 : Nat) (q83 : Nat) (q84 : Nat) (z87 : Nat) (q89 : Nat) (z92 : Nat) (z93 : Nat) (z94 : Nat) (q95 : Nat) (q101 : Nat) (q107 : Nat) (q116 : Nat) (q120 : Nat) (q124 : Nat) : Met l y_DM_at ((Cond.code y_DM_at prog_1_method_10_code 4 (some .int)) :: tw) ({ frames := 50, cells := 0, slots := 0, locals := 5000 }) (va_Pc [.ref h0, .int 0, .int 0, .int 0] (wP D cI cL B sz [(h0, .inr (0, [.ref q83, .ref q84, .ref q89, .ref q95, .ref q101, .ref q107, .ref q116, .ref q120, .ref q124])), (q89, .inr (2, [.int 1, .int 1, .ref z92, .ref z93, .ref z94, .ref q84, .ref z87])), (z92, .inl (cI, 1, .inl (fun _ => 0))), (z93, .inl (cI, 1, .inl (fun _ => 0))), (z94, .inl (cI, 1, .inl (fun _ => 0)))])) (va_Qi (S := Unit) (fun r u => r = 0) (fun u => wB D cI cL (va_A [(h0, .inr (0, [.ref q83, .ref q84, .ref q89, .ref q95, .ref q101, .ref q107, .ref q116, .ref q120, .ref q124])), (q89, .inr (2, [.int 1, .int 1, .ref z92, .ref z93, .ref z94, .ref q84, .ref z87])), (z92, .inl (cI, 1, .inl (fun _ => 0))), (z93, .inl (cI, 1, .inl (fun _ => 0))), (z94, .inl (cI, 1, .inl (fun _ => 0)))] sz) ((fun _ : Unit => []) u)) (va_A [(h0, .inr (0, [.ref q83, .ref q84, .ref q89, .ref q95, .ref q101, .ref q107, .ref q116, .ref q120, .ref q124])), (q89, .inr (2, [.int 1, .int 1, .ref z92, .ref z93, .ref z94, .ref q84, .ref z87])), (z92, .inl (cI, 1, .inl (fun _ => 0))), (z93, .inl (cI, 1, .inl (fun _ => 0))), (z94, .inl (cI, 1, .inl (fun _ => 0)))] sz)) 0 0 (va_A [(h0, .inr (0, [.ref q83, .ref q84, .ref q89, .ref q95, .ref q101, .ref q107, .ref q116, .ref q120, .ref q124])), (q89, .inr (2, [.int 1, .int 1, .ref z92, .ref z93, .ref z94, .ref q84, .ref z87])), (z92, .inl (cI, 1, .inl (fun _ => 0))), (z93, .inl (cI, 1, .inl (fun _ => 0))), (z94, .inl (cI, 1, .inl (fun _ => 0)))] sz) := by
  refine Met.ofW (cc := prog_1_method_10_code) (maxL := 4) (ret := (some .int)) (by decide) rfl ?_
  intro p e s m args below meth c s₁ B0 hml hv
  obtain ⟨rfl, hv⟩ := hv
  have hx := B0.exec
  have hb := B0.bytes
  have hr := B0.returns
  have hts := atoms_spec (ws := (Cond.code y_DM_at prog_1_method_10_code 4 (some .int)) :: tw) B0.pre
  have htw : ∀ w ∈ tw, w.before _ s = true := fun w hw => hts w (List.mem_cons_of_mem _ hw)
  have hown : s.vm.findClass "DrawingMachine" = some m.cls := findClass_of_methodNamed B0.named
  have hlocks := B0.notSynchronized
  obtain ⟨hC, hP, hD, hsz⟩ := wC_init hv
  subst hsz
  generalize hAe : va_A [(h0, .inr (0, [.ref q83, .ref q84, .ref q89, .ref q95, .ref q101, .ref q107, .ref q116, .ref q120, .ref q124])), (q89, .inr (2, [.int 1, .int 1, .ref z92, .ref z93, .ref z94, .ref q84, .ref z87])), (z92, .inl (cI, 1, .inl (fun _ => 0))), (z93, .inl (cI, 1, .inl (fun _ => 0))), (z94, .inl (cI, 1, .inl (fun _ => 0)))] s.heap.size = A at hC hD ⊢
  have hS : va_S A s.heap s.heap [] := va_S.rf
  have hl := lv_entry ([.ref h0, .int 0, .int 0, .int 0]) (n := 4) (Nat.le_of_ble_eq_true rfl)
  rw [lg_entry_eq]
  generalize (lg_sl ([.ref h0, .int 0, .int 0, .int 0]) ++ List.replicate (4 - (lg_sl ([.ref h0, .int 0, .int 0, .int 0])).length) Slot.unset).toArray = ls at hl ⊢
  have hl : lv_has ls 4 [(0, .ref h0), (1, .int 0), (2, .int 0), (3, .int 0)] := hl
  refine lv_iload_n hx hb d_DM_at_0 rfl (lv_at hl 3 rfl) ?_
  refine lv_if_lt (tgt := 9) hx hb d_DM_at_1 (by decide) (fun c_201 => absurd c_201 (by decide)) (fun c_201 => ?_)
  refine lv_iload_n hx hb d_DM_at_4 rfl (lv_at hl 3 rfl) ?_
  refine lv_iconst (v := 2) hx hb d_DM_at_5 (by decide) ?_
  refine lv_icmp_le (tgt := 19) hx hb d_DM_at_6 (by decide) (fun c_202 => ?_) (fun c_202 => absurd c_202 (by decide))
  refine lv_iload_n hx hb d_DM_at_19 rfl (lv_at hl 1 rfl) ?_
  refine lv_if_lt (tgt := 49) hx hb d_DM_at_20 (by decide) (fun c_203 => absurd c_203 (by decide)) (fun c_203 => ?_)
  refine lv_iload_n hx hb d_DM_at_23 rfl (lv_at hl 1 rfl) ?_
  refine lv_aload_n hx hb d_DM_at_24 rfl (lv_at hl 0 rfl) ?_
  refine va_get (D := D) (ci := 0) (v := .ref q89) (C := R_DM) (T := F_DM) (N := 9) hx hb htw i_DM hown hC.1 hP 0 rfl rfl 2 (by decide) (htw _ k254) (fun _ h9 => h9) rfl d_DM_at_25 ?_
  refine va_get (D := D) (ci := 2) (v := .int 1) (C := R_Pic) (T := F_Pic) (N := 7) hx hb htw i_Pic hown hC.1 hP 1 rfl rfl 0 (by decide) (htw _ k341) (fun _ h9 => h9) rfl d_DM_at_28 ?_
  refine lv_icmp_ge (tgt := 49) hx hb d_DM_at_31 (by decide) (fun c_204 => absurd c_204 (by decide)) (fun c_204 => ?_)
  refine lv_iload_n hx hb d_DM_at_34 rfl (lv_at hl 2 rfl) ?_
  refine lv_if_lt (tgt := 49) hx hb d_DM_at_35 (by decide) (fun c_205 => absurd c_205 (by decide)) (fun c_205 => ?_)
  refine lv_iload_n hx hb d_DM_at_38 rfl (lv_at hl 2 rfl) ?_
  refine lv_aload_n hx hb d_DM_at_39 rfl (lv_at hl 0 rfl) ?_
  refine va_get (D := D) (ci := 0) (v := .ref q89) (C := R_DM) (T := F_DM) (N := 9) hx hb htw i_DM hown hC.1 hP 0 rfl rfl 2 (by decide) (htw _ k254) (fun _ h9 => h9) rfl d_DM_at_40 ?_
  refine va_get (D := D) (ci := 2) (v := .int 1) (C := R_Pic) (T := F_Pic) (N := 7) hx hb htw i_Pic hown hC.1 hP 1 rfl rfl 1 (by decide) (htw _ k342) (fun _ h9 => h9) rfl d_DM_at_43 ?_
  refine lv_icmp_lt (tgt := 59) hx hb d_DM_at_46 (by decide) (fun c_206 => ?_) (fun c_206 => absurd c_206 (by decide))
  refine lv_aload_n hx hb d_DM_at_59 rfl (lv_at hl 0 rfl) ?_
  refine va_get (D := D) (ci := 0) (v := .ref q89) (C := R_DM) (T := F_DM) (N := 9) hx hb htw i_DM hown hC.1 hP 0 rfl rfl 2 (by decide) (htw _ k254) (fun _ h9 => h9) rfl d_DM_at_60 ?_
  refine lv_iload_n hx hb d_DM_at_63 rfl (lv_at hl 3 rfl) ?_
  refine wc_r (wr := [(h0, .inr (0, [.ref q83, .ref q84, .ref q89, .ref q95, .ref q101, .ref q107, .ref q116, .ref q120, .ref q124])), (z92, .inl (cI, 1, .inl (fun _ => 0))), (z93, .inl (cI, 1, .inl (fun _ => 0))), (z94, .inl (cI, 1, .inl (fun _ => 0)))]) hC hP hD hS [1] [0, 2, 3, 4] rfl rfl (by decide) (by decide) (va_runV (As := [.int 0]) (rest := []) ⟨hx, hb, hml, hown, htw⟩ (c_rowOf_0 l D cI cL B _ q84 z87 q89 z92 z93 z94) (cwV 1 htw gV_DM_179 rfl rfl rfl (by decide +kernel) ⟨Nat.le_of_ble_eq_true rfl, Nat.le_of_ble_eq_true rfl⟩) (wC_preV (As := [.int 0]) hC hP hD hS [1] (by decide) rfl (q0 := 1) rfl rfl) rfl rfl hl.1 rfl (lv_room (Nat.le_of_ble_eq_true rfl)) d_DM_at_64 ⟨Nat.le_of_ble_eq_true rfl, Nat.le_of_ble_eq_true rfl⟩) (fun u207 H locs hw208 hP hD hS => ?_)
  have hP : va_P D classes [(h0, .inr (0, [.ref q83, .ref q84, .ref q89, .ref q95, .ref q101, .ref q107, .ref q116, .ref q120, .ref q124])), (z92, .inl (cI, 1, .inl (fun _ => 0))), (z93, .inl (cI, 1, .inl (fun _ => 0))), (z94, .inl (cI, 1, .inl (fun _ => 0))), (q89, .inr (2, [.int 1, .int 1, .ref z92, .ref z93, .ref z94, .ref q84, .ref z87]))] H := hP
  have hD : va_D A [(h0, .inr (0, [.ref q83, .ref q84, .ref q89, .ref q95, .ref q101, .ref q107, .ref q116, .ref q120, .ref q124])), (z92, .inl (cI, 1, .inl (fun _ => 0))), (z93, .inl (cI, 1, .inl (fun _ => 0))), (z94, .inl (cI, 1, .inl (fun _ => 0))), (q89, .inr (2, [.int 1, .int 1, .ref z92, .ref z93, .ref z94, .ref q84, .ref z87]))] := hD
  refine W.widen (k := 0) (n := 0) (by omega) (by omega) ?_
  refine lv_iload_n hx hb d_DM_at_67 rfl (lv_at hl 2 rfl) ?_
  refine lv_aload_n hx hb d_DM_at_68 rfl (lv_at hl 0 rfl) ?_
  refine va_get (D := D) (ci := 0) (v := .ref q89) (C := R_DM) (T := F_DM) (N := 9) hx hb htw i_DM hown hC.1 hP 0 rfl rfl 2 (by decide) (htw _ k254) (fun _ h9 => h9) rfl d_DM_at_69 ?_
  refine va_get (D := D) (ci := 2) (v := .int 1) (C := R_Pic) (T := F_Pic) (N := 7) hx hb htw i_Pic hown hC.1 hP 4 rfl rfl 0 (by decide) (htw _ k341) (fun _ h9 => h9) rfl d_DM_at_72 ?_
  refine lv_imul hx hb d_DM_at_75 ?_
  refine wi_c (v := 0) (by decide) ?_
  refine lv_iload_n hx hb d_DM_at_76 rfl (lv_at hl 1 rfl) ?_
  refine lv_iadd hx hb d_DM_at_77 ?_
  refine wi_c (v := 0) (by decide) ?_
  refine va_iald hx hb hC.1 hP 1 0 rfl rfl (by unfold vp_in; decide) d_DM_at_78 ?_
  refine wi_c (v := 0) rfl ?_
  refine W.widen (k := 0) (n := 0) (Nat.le_of_ble_eq_true rfl) (Nat.le_of_ble_eq_true rfl) ?_
  have hP9 := hP.sub (ws' := []) [] rfl
  have hD9 := hD.sub (ws' := []) [] (by decide) rfl
  exact W.iret (v := 0) hx hb hr (fun t ht hW => ⟨⟨0, (), rfl, rfl, by rw [ht]; exact hP9, va_K.moved hW.alike hC.1, hD9⟩, hS.F ht⟩) hS.2.2 d_DM_at_79

set_option maxHeartbeats 4000000 in
set_option maxRecDepth 100000 in
theorem c_at_1 (l : Launch) (D : va_G) (cI cL : ClassId) (B sz : Nat) (h0 : Nat) (q83 : Nat) (q84 : Nat) (z87 : Nat) (q89 : Nat) (z92 : Nat) (z93 : Nat) (z94 : Nat) (q95 : Nat) (q101 : Nat) (q107 : Nat) (q116 : Nat) (q120 : Nat) (q124 : Nat) : Met l y_DM_at ((Cond.code y_DM_at prog_1_method_10_code 4 (some .int)) :: tw) ({ frames := 50, cells := 0, slots := 0, locals := 5000 }) (va_Pc [.ref h0, .int 0, .int 0, .int 1] (wP D cI cL B sz [(h0, .inr (0, [.ref q83, .ref q84, .ref q89, .ref q95, .ref q101, .ref q107, .ref q116, .ref q120, .ref q124])), (q89, .inr (2, [.int 1, .int 1, .ref z92, .ref z93, .ref z94, .ref q84, .ref z87])), (z92, .inl (cI, 1, .inl (fun _ => 0))), (z93, .inl (cI, 1, .inl (fun _ => 0))), (z94, .inl (cI, 1, .inl (fun _ => 0)))])) (va_Qi (S := Unit) (fun r u => r = 0) (fun u => wB D cI cL (va_A [(h0, .inr (0, [.ref q83, .ref q84, .ref q89, .ref q95, .ref q101, .ref q107, .ref q116, .ref q120, .ref q124])), (q89, .inr (2, [.int 1, .int 1, .ref z92, .ref z93, .ref z94, .ref q84, .ref z87])), (z92, .inl (cI, 1, .inl (fun _ => 0))), (z93, .inl (cI, 1, .inl (fun _ => 0))), (z94, .inl (cI, 1, .inl (fun _ => 0)))] sz) ((fun _ : Unit => []) u)) (va_A [(h0, .inr (0, [.ref q83, .ref q84, .ref q89, .ref q95, .ref q101, .ref q107, .ref q116, .ref q120, .ref q124])), (q89, .inr (2, [.int 1, .int 1, .ref z92, .ref z93, .ref z94, .ref q84, .ref z87])), (z92, .inl (cI, 1, .inl (fun _ => 0))), (z93, .inl (cI, 1, .inl (fun _ => 0))), (z94, .inl (cI, 1, .inl (fun _ => 0)))] sz)) 0 0 (va_A [(h0, .inr (0, [.ref q83, .ref q84, .ref q89, .ref q95, .ref q101, .ref q107, .ref q116, .ref q120, .ref q124])), (q89, .inr (2, [.int 1, .int 1, .ref z92, .ref z93, .ref z94, .ref q84, .ref z87])), (z92, .inl (cI, 1, .inl (fun _ => 0))), (z93, .inl (cI, 1, .inl (fun _ => 0))), (z94, .inl (cI, 1, .inl (fun _ => 0)))] sz) := by
  refine Met.ofW (cc := prog_1_method_10_code) (maxL := 4) (ret := (some .int)) (by decide) rfl ?_
  intro p e s m args below meth c s₁ B0 hml hv
  obtain ⟨rfl, hv⟩ := hv
  have hx := B0.exec
  have hb := B0.bytes
  have hr := B0.returns
  have hts := atoms_spec (ws := (Cond.code y_DM_at prog_1_method_10_code 4 (some .int)) :: tw) B0.pre
  have htw : ∀ w ∈ tw, w.before _ s = true := fun w hw => hts w (List.mem_cons_of_mem _ hw)
  have hown : s.vm.findClass "DrawingMachine" = some m.cls := findClass_of_methodNamed B0.named
  have hlocks := B0.notSynchronized
  obtain ⟨hC, hP, hD, hsz⟩ := wC_init hv
  subst hsz
  generalize hAe : va_A [(h0, .inr (0, [.ref q83, .ref q84, .ref q89, .ref q95, .ref q101, .ref q107, .ref q116, .ref q120, .ref q124])), (q89, .inr (2, [.int 1, .int 1, .ref z92, .ref z93, .ref z94, .ref q84, .ref z87])), (z92, .inl (cI, 1, .inl (fun _ => 0))), (z93, .inl (cI, 1, .inl (fun _ => 0))), (z94, .inl (cI, 1, .inl (fun _ => 0)))] s.heap.size = A at hC hD ⊢
  have hS : va_S A s.heap s.heap [] := va_S.rf
  have hl := lv_entry ([.ref h0, .int 0, .int 0, .int 1]) (n := 4) (Nat.le_of_ble_eq_true rfl)
  rw [lg_entry_eq]
  generalize (lg_sl ([.ref h0, .int 0, .int 0, .int 1]) ++ List.replicate (4 - (lg_sl ([.ref h0, .int 0, .int 0, .int 1])).length) Slot.unset).toArray = ls at hl ⊢
  have hl : lv_has ls 4 [(0, .ref h0), (1, .int 0), (2, .int 0), (3, .int 1)] := hl
  refine lv_iload_n hx hb d_DM_at_0 rfl (lv_at hl 3 rfl) ?_
  refine lv_if_lt (tgt := 9) hx hb d_DM_at_1 (by decide) (fun c_209 => absurd c_209 (by decide)) (fun c_209 => ?_)
  refine lv_iload_n hx hb d_DM_at_4 rfl (lv_at hl 3 rfl) ?_
  refine lv_iconst (v := 2) hx hb d_DM_at_5 (by decide) ?_
  refine lv_icmp_le (tgt := 19) hx hb d_DM_at_6 (by decide) (fun c_210 => ?_) (fun c_210 => absurd c_210 (by decide))
  refine lv_iload_n hx hb d_DM_at_19 rfl (lv_at hl 1 rfl) ?_
  refine lv_if_lt (tgt := 49) hx hb d_DM_at_20 (by decide) (fun c_211 => absurd c_211 (by decide)) (fun c_211 => ?_)
  refine lv_iload_n hx hb d_DM_at_23 rfl (lv_at hl 1 rfl) ?_
  refine lv_aload_n hx hb d_DM_at_24 rfl (lv_at hl 0 rfl) ?_
  refine va_get (D := D) (ci := 0) (v := .ref q89) (C := R_DM) (T := F_DM) (N := 9) hx hb htw i_DM hown hC.1 hP 0 rfl rfl 2 (by decide) (htw _ k254) (fun _ h9 => h9) rfl d_DM_at_25 ?_
  refine va_get (D := D) (ci := 2) (v := .int 1) (C := R_Pic) (T := F_Pic) (N := 7) hx hb htw i_Pic hown hC.1 hP 1 rfl rfl 0 (by decide) (htw _ k341) (fun _ h9 => h9) rfl d_DM_at_28 ?_
  refine lv_icmp_ge (tgt := 49) hx hb d_DM_at_31 (by decide) (fun c_212 => absurd c_212 (by decide)) (fun c_212 => ?_)
  refine lv_iload_n hx hb d_DM_at_34 rfl (lv_at hl 2 rfl) ?_
  refine lv_if_lt (tgt := 49) hx hb d_DM_at_35 (by decide) (fun c_213 => absurd c_213 (by decide)) (fun c_213 => ?_)
  refine lv_iload_n hx hb d_DM_at_38 rfl (lv_at hl 2 rfl) ?_
  refine lv_aload_n hx hb d_DM_at_39 rfl (lv_at hl 0 rfl) ?_
  refine va_get (D := D) (ci := 0) (v := .ref q89) (C := R_DM) (T := F_DM) (N := 9) hx hb htw i_DM hown hC.1 hP 0 rfl rfl 2 (by decide) (htw _ k254) (fun _ h9 => h9) rfl d_DM_at_40 ?_
  refine va_get (D := D) (ci := 2) (v := .int 1) (C := R_Pic) (T := F_Pic) (N := 7) hx hb htw i_Pic hown hC.1 hP 1 rfl rfl 1 (by decide) (htw _ k342) (fun _ h9 => h9) rfl d_DM_at_43 ?_
  refine lv_icmp_lt (tgt := 59) hx hb d_DM_at_46 (by decide) (fun c_214 => ?_) (fun c_214 => absurd c_214 (by decide))
  refine lv_aload_n hx hb d_DM_at_59 rfl (lv_at hl 0 rfl) ?_
  refine va_get (D := D) (ci := 0) (v := .ref q89) (C := R_DM) (T := F_DM) (N := 9) hx hb htw i_DM hown hC.1 hP 0 rfl rfl 2 (by decide) (htw _ k254) (fun _ h9 => h9) rfl d_DM_at_60 ?_
  refine lv_iload_n hx hb d_DM_at_63 rfl (lv_at hl 3 rfl) ?_
  refine wc_r (wr := [(h0, .inr (0, [.ref q83, .ref q84, .ref q89, .ref q95, .ref q101, .ref q107, .ref q116, .ref q120, .ref q124])), (z92, .inl (cI, 1, .inl (fun _ => 0))), (z93, .inl (cI, 1, .inl (fun _ => 0))), (z94, .inl (cI, 1, .inl (fun _ => 0)))]) hC hP hD hS [1] [0, 2, 3, 4] rfl rfl (by decide) (by decide) (va_runV (As := [.int 1]) (rest := []) ⟨hx, hb, hml, hown, htw⟩ (c_rowOf_1 l D cI cL B _ q84 z87 q89 z92 z93 z94) (cwV 1 htw gV_DM_179 rfl rfl rfl (by decide +kernel) ⟨Nat.le_of_ble_eq_true rfl, Nat.le_of_ble_eq_true rfl⟩) (wC_preV (As := [.int 1]) hC hP hD hS [1] (by decide) rfl (q0 := 1) rfl rfl) rfl rfl hl.1 rfl (lv_room (Nat.le_of_ble_eq_true rfl)) d_DM_at_64 ⟨Nat.le_of_ble_eq_true rfl, Nat.le_of_ble_eq_true rfl⟩) (fun u215 H locs hw216 hP hD hS => ?_)
  have hP : va_P D classes [(h0, .inr (0, [.ref q83, .ref q84, .ref q89, .ref q95, .ref q101, .ref q107, .ref q116, .ref q120, .ref q124])), (z92, .inl (cI, 1, .inl (fun _ => 0))), (z93, .inl (cI, 1, .inl (fun _ => 0))), (z94, .inl (cI, 1, .inl (fun _ => 0))), (q89, .inr (2, [.int 1, .int 1, .ref z92, .ref z93, .ref z94, .ref q84, .ref z87]))] H := hP
  have hD : va_D A [(h0, .inr (0, [.ref q83, .ref q84, .ref q89, .ref q95, .ref q101, .ref q107, .ref q116, .ref q120, .ref q124])), (z92, .inl (cI, 1, .inl (fun _ => 0))), (z93, .inl (cI, 1, .inl (fun _ => 0))), (z94, .inl (cI, 1, .inl (fun _ => 0))), (q89, .inr (2, [.int 1, .int 1, .ref z92, .ref z93, .ref z94, .ref q84, .ref z87]))] := hD
  refine W.widen (k := 0) (n := 0) (by omega) (by omega) ?_
  refine lv_iload_n hx hb d_DM_at_67 rfl (lv_at hl 2 rfl) ?_
  refine lv_aload_n hx hb d_DM_at_68 rfl (lv_at hl 0 rfl) ?_
  refine va_get (D := D) (ci := 0) (v := .ref q89) (C := R_DM) (T := F_DM) (N := 9) hx hb htw i_DM hown hC.1 hP 0 rfl rfl 2 (by decide) (htw _ k254) (fun _ h9 => h9) rfl d_DM_at_69 ?_
  refine va_get (D := D) (ci := 2) (v := .int 1) (C := R_Pic) (T := F_Pic) (N := 7) hx hb htw i_Pic hown hC.1 hP 4 rfl rfl 0 (by decide) (htw _ k341) (fun _ h9 => h9) rfl d_DM_at_72 ?_
  refine lv_imul hx hb d_DM_at_75 ?_
  refine wi_c (v := 0) (by decide) ?_
  refine lv_iload_n hx hb d_DM_at_76 rfl (lv_at hl 1 rfl) ?_
  refine lv_iadd hx hb d_DM_at_77 ?_
  refine wi_c (v := 0) (by decide) ?_
  refine va_iald hx hb hC.1 hP 2 0 rfl rfl (by unfold vp_in; decide) d_DM_at_78 ?_
  refine wi_c (v := 0) rfl ?_
  refine W.widen (k := 0) (n := 0) (Nat.le_of_ble_eq_true rfl) (Nat.le_of_ble_eq_true rfl) ?_
  have hP9 := hP.sub (ws' := []) [] rfl
  have hD9 := hD.sub (ws' := []) [] (by decide) rfl
  exact W.iret (v := 0) hx hb hr (fun t ht hW => ⟨⟨0, (), rfl, rfl, by rw [ht]; exact hP9, va_K.moved hW.alike hC.1, hD9⟩, hS.F ht⟩) hS.2.2 d_DM_at_79

set_option maxHeartbeats 4000000 in
set_option maxRecDepth 100000 in
theorem c_at_2 (l : Launch) (D : va_G) (cI cL : ClassId) (B sz : Nat) (h0 : Nat) (q83 : Nat) (q84 : Nat) (z87 : Nat) (q89 : Nat) (z92 : Nat) (z93 : Nat) (z94 : Nat) (q95 : Nat) (q101 : Nat) (q107 : Nat) (q116 : Nat) (q120 : Nat) (q124 : Nat) : Met l y_DM_at ((Cond.code y_DM_at prog_1_method_10_code 4 (some .int)) :: tw) ({ frames := 50, cells := 0, slots := 0, locals := 5000 }) (va_Pc [.ref h0, .int 0, .int 0, .int 2] (wP D cI cL B sz [(h0, .inr (0, [.ref q83, .ref q84, .ref q89, .ref q95, .ref q101, .ref q107, .ref q116, .ref q120, .ref q124])), (q89, .inr (2, [.int 1, .int 1, .ref z92, .ref z93, .ref z94, .ref q84, .ref z87])), (z92, .inl (cI, 1, .inl (fun _ => 0))), (z93, .inl (cI, 1, .inl (fun _ => 0))), (z94, .inl (cI, 1, .inl (fun _ => 0)))])) (va_Qi (S := Unit) (fun r u => r = 0) (fun u => wB D cI cL (va_A [(h0, .inr (0, [.ref q83, .ref q84, .ref q89, .ref q95, .ref q101, .ref q107, .ref q116, .ref q120, .ref q124])), (q89, .inr (2, [.int 1, .int 1, .ref z92, .ref z93, .ref z94, .ref q84, .ref z87])), (z92, .inl (cI, 1, .inl (fun _ => 0))), (z93, .inl (cI, 1, .inl (fun _ => 0))), (z94, .inl (cI, 1, .inl (fun _ => 0)))] sz) ((fun _ : Unit => []) u)) (va_A [(h0, .inr (0, [.ref q83, .ref q84, .ref q89, .ref q95, .ref q101, .ref q107, .ref q116, .ref q120, .ref q124])), (q89, .inr (2, [.int 1, .int 1, .ref z92, .ref z93, .ref z94, .ref q84, .ref z87])), (z92, .inl (cI, 1, .inl (fun _ => 0))), (z93, .inl (cI, 1, .inl (fun _ => 0))), (z94, .inl (cI, 1, .inl (fun _ => 0)))] sz)) 0 0 (va_A [(h0, .inr (0, [.ref q83, .ref q84, .ref q89, .ref q95, .ref q101, .ref q107, .ref q116, .ref q120, .ref q124])), (q89, .inr (2, [.int 1, .int 1, .ref z92, .ref z93, .ref z94, .ref q84, .ref z87])), (z92, .inl (cI, 1, .inl (fun _ => 0))), (z93, .inl (cI, 1, .inl (fun _ => 0))), (z94, .inl (cI, 1, .inl (fun _ => 0)))] sz) := by
  refine Met.ofW (cc := prog_1_method_10_code) (maxL := 4) (ret := (some .int)) (by decide) rfl ?_
  intro p e s m args below meth c s₁ B0 hml hv
  obtain ⟨rfl, hv⟩ := hv
  have hx := B0.exec
  have hb := B0.bytes
  have hr := B0.returns
  have hts := atoms_spec (ws := (Cond.code y_DM_at prog_1_method_10_code 4 (some .int)) :: tw) B0.pre
  have htw : ∀ w ∈ tw, w.before _ s = true := fun w hw => hts w (List.mem_cons_of_mem _ hw)
  have hown : s.vm.findClass "DrawingMachine" = some m.cls := findClass_of_methodNamed B0.named
  have hlocks := B0.notSynchronized
  obtain ⟨hC, hP, hD, hsz⟩ := wC_init hv
  subst hsz
  generalize hAe : va_A [(h0, .inr (0, [.ref q83, .ref q84, .ref q89, .ref q95, .ref q101, .ref q107, .ref q116, .ref q120, .ref q124])), (q89, .inr (2, [.int 1, .int 1, .ref z92, .ref z93, .ref z94, .ref q84, .ref z87])), (z92, .inl (cI, 1, .inl (fun _ => 0))), (z93, .inl (cI, 1, .inl (fun _ => 0))), (z94, .inl (cI, 1, .inl (fun _ => 0)))] s.heap.size = A at hC hD ⊢
  have hS : va_S A s.heap s.heap [] := va_S.rf
  have hl := lv_entry ([.ref h0, .int 0, .int 0, .int 2]) (n := 4) (Nat.le_of_ble_eq_true rfl)
  rw [lg_entry_eq]
  generalize (lg_sl ([.ref h0, .int 0, .int 0, .int 2]) ++ List.replicate (4 - (lg_sl ([.ref h0, .int 0, .int 0, .int 2])).length) Slot.unset).toArray = ls at hl ⊢
  have hl : lv_has ls 4 [(0, .ref h0), (1, .int 0), (2, .int 0), (3, .int 2)] := hl
  refine lv_iload_n hx hb d_DM_at_0 rfl (lv_at hl 3 rfl) ?_
  refine lv_if_lt (tgt := 9) hx hb d_DM_at_1 (by decide) (fun c_217 => absurd c_217 (by decide)) (fun c_217 => ?_)
  refine lv_iload_n hx hb d_DM_at_4 rfl (lv_at hl 3 rfl) ?_
  refine lv_iconst (v := 2) hx hb d_DM_at_5 (by decide) ?_
  refine lv_icmp_le (tgt := 19) hx hb d_DM_at_6 (by decide) (fun c_218 => ?_) (fun c_218 => absurd c_218 (by decide))
  refine lv_iload_n hx hb d_DM_at_19 rfl (lv_at hl 1 rfl) ?_
  refine lv_if_lt (tgt := 49) hx hb d_DM_at_20 (by decide) (fun c_219 => absurd c_219 (by decide)) (fun c_219 => ?_)
  refine lv_iload_n hx hb d_DM_at_23 rfl (lv_at hl 1 rfl) ?_
  refine lv_aload_n hx hb d_DM_at_24 rfl (lv_at hl 0 rfl) ?_
  refine va_get (D := D) (ci := 0) (v := .ref q89) (C := R_DM) (T := F_DM) (N := 9) hx hb htw i_DM hown hC.1 hP 0 rfl rfl 2 (by decide) (htw _ k254) (fun _ h9 => h9) rfl d_DM_at_25 ?_
  refine va_get (D := D) (ci := 2) (v := .int 1) (C := R_Pic) (T := F_Pic) (N := 7) hx hb htw i_Pic hown hC.1 hP 1 rfl rfl 0 (by decide) (htw _ k341) (fun _ h9 => h9) rfl d_DM_at_28 ?_
  refine lv_icmp_ge (tgt := 49) hx hb d_DM_at_31 (by decide) (fun c_220 => absurd c_220 (by decide)) (fun c_220 => ?_)
  refine lv_iload_n hx hb d_DM_at_34 rfl (lv_at hl 2 rfl) ?_
  refine lv_if_lt (tgt := 49) hx hb d_DM_at_35 (by decide) (fun c_221 => absurd c_221 (by decide)) (fun c_221 => ?_)
  refine lv_iload_n hx hb d_DM_at_38 rfl (lv_at hl 2 rfl) ?_
  refine lv_aload_n hx hb d_DM_at_39 rfl (lv_at hl 0 rfl) ?_
  refine va_get (D := D) (ci := 0) (v := .ref q89) (C := R_DM) (T := F_DM) (N := 9) hx hb htw i_DM hown hC.1 hP 0 rfl rfl 2 (by decide) (htw _ k254) (fun _ h9 => h9) rfl d_DM_at_40 ?_
  refine va_get (D := D) (ci := 2) (v := .int 1) (C := R_Pic) (T := F_Pic) (N := 7) hx hb htw i_Pic hown hC.1 hP 1 rfl rfl 1 (by decide) (htw _ k342) (fun _ h9 => h9) rfl d_DM_at_43 ?_
  refine lv_icmp_lt (tgt := 59) hx hb d_DM_at_46 (by decide) (fun c_222 => ?_) (fun c_222 => absurd c_222 (by decide))
  refine lv_aload_n hx hb d_DM_at_59 rfl (lv_at hl 0 rfl) ?_
  refine va_get (D := D) (ci := 0) (v := .ref q89) (C := R_DM) (T := F_DM) (N := 9) hx hb htw i_DM hown hC.1 hP 0 rfl rfl 2 (by decide) (htw _ k254) (fun _ h9 => h9) rfl d_DM_at_60 ?_
  refine lv_iload_n hx hb d_DM_at_63 rfl (lv_at hl 3 rfl) ?_
  refine wc_r (wr := [(h0, .inr (0, [.ref q83, .ref q84, .ref q89, .ref q95, .ref q101, .ref q107, .ref q116, .ref q120, .ref q124])), (z92, .inl (cI, 1, .inl (fun _ => 0))), (z93, .inl (cI, 1, .inl (fun _ => 0))), (z94, .inl (cI, 1, .inl (fun _ => 0)))]) hC hP hD hS [1] [0, 2, 3, 4] rfl rfl (by decide) (by decide) (va_runV (As := [.int 2]) (rest := []) ⟨hx, hb, hml, hown, htw⟩ (c_rowOf_2 l D cI cL B _ q84 z87 q89 z92 z93 z94) (cwV 1 htw gV_DM_179 rfl rfl rfl (by decide +kernel) ⟨Nat.le_of_ble_eq_true rfl, Nat.le_of_ble_eq_true rfl⟩) (wC_preV (As := [.int 2]) hC hP hD hS [1] (by decide) rfl (q0 := 1) rfl rfl) rfl rfl hl.1 rfl (lv_room (Nat.le_of_ble_eq_true rfl)) d_DM_at_64 ⟨Nat.le_of_ble_eq_true rfl, Nat.le_of_ble_eq_true rfl⟩) (fun u223 H locs hw224 hP hD hS => ?_)
  have hP : va_P D classes [(h0, .inr (0, [.ref q83, .ref q84, .ref q89, .ref q95, .ref q101, .ref q107, .ref q116, .ref q120, .ref q124])), (z92, .inl (cI, 1, .inl (fun _ => 0))), (z93, .inl (cI, 1, .inl (fun _ => 0))), (z94, .inl (cI, 1, .inl (fun _ => 0))), (q89, .inr (2, [.int 1, .int 1, .ref z92, .ref z93, .ref z94, .ref q84, .ref z87]))] H := hP
  have hD : va_D A [(h0, .inr (0, [.ref q83, .ref q84, .ref q89, .ref q95, .ref q101, .ref q107, .ref q116, .ref q120, .ref q124])), (z92, .inl (cI, 1, .inl (fun _ => 0))), (z93, .inl (cI, 1, .inl (fun _ => 0))), (z94, .inl (cI, 1, .inl (fun _ => 0))), (q89, .inr (2, [.int 1, .int 1, .ref z92, .ref z93, .ref z94, .ref q84, .ref z87]))] := hD
  refine W.widen (k := 0) (n := 0) (by omega) (by omega) ?_
  refine lv_iload_n hx hb d_DM_at_67 rfl (lv_at hl 2 rfl) ?_
  refine lv_aload_n hx hb d_DM_at_68 rfl (lv_at hl 0 rfl) ?_
  refine va_get (D := D) (ci := 0) (v := .ref q89) (C := R_DM) (T := F_DM) (N := 9) hx hb htw i_DM hown hC.1 hP 0 rfl rfl 2 (by decide) (htw _ k254) (fun _ h9 => h9) rfl d_DM_at_69 ?_
  refine va_get (D := D) (ci := 2) (v := .int 1) (C := R_Pic) (T := F_Pic) (N := 7) hx hb htw i_Pic hown hC.1 hP 4 rfl rfl 0 (by decide) (htw _ k341) (fun _ h9 => h9) rfl d_DM_at_72 ?_
  refine lv_imul hx hb d_DM_at_75 ?_
  refine wi_c (v := 0) (by decide) ?_
  refine lv_iload_n hx hb d_DM_at_76 rfl (lv_at hl 1 rfl) ?_
  refine lv_iadd hx hb d_DM_at_77 ?_
  refine wi_c (v := 0) (by decide) ?_
  refine va_iald hx hb hC.1 hP 3 0 rfl rfl (by unfold vp_in; decide) d_DM_at_78 ?_
  refine wi_c (v := 0) rfl ?_
  refine W.widen (k := 0) (n := 0) (Nat.le_of_ble_eq_true rfl) (Nat.le_of_ble_eq_true rfl) ?_
  have hP9 := hP.sub (ws' := []) [] rfl
  have hD9 := hD.sub (ws' := []) [] (by decide) rfl
  exact W.iret (v := 0) hx hb hr (fun t ht hW => ⟨⟨0, (), rfl, rfl, by rw [ht]; exact hP9, va_K.moved hW.alike hC.1, hD9⟩, hS.F ht⟩) hS.2.2 d_DM_at_79

theorem d_DM_at_9 : decode prog_1_method_10_code 9 = .ok (.new 74, 3) := by decide +kernel
theorem d_DM_at_12 : decode prog_1_method_10_code 12 = .ok (.dup, 1) := by decide +kernel
theorem d_DM_at_13 : decode prog_1_method_10_code 13 = .ok (.ldc 169, 2) := by decide +kernel
theorem d_DM_at_15 : decode prog_1_method_10_code 15 = .ok (.invokespecial 78, 3) := by decide +kernel
theorem d_DM_at_18 : decode prog_1_method_10_code 18 = .ok (.athrow, 1) := by decide +kernel
set_option maxHeartbeats 4000000 in
set_option maxRecDepth 100000 in
theorem c_at_bw (l : Launch) (hfl : l.stackTraces = false) (D : va_G) (cI cL : ClassId) (B sz : Nat) (h0 : Nat) (px : Int32) (py : Int32) (x : Int32) (hbd : x < 0 ∨ 2 < x) : tq_Met l y_DM_at ((Cond.code y_DM_at prog_1_method_10_code 4 (some .int)) :: tw) ({ frames := 50, cells := 1, slots := 6, locals := 5000 }) (va_Pc [.ref h0, .int px, .int py, .int x] (wP D cI cL B sz [])) (tq_Q "java/lang/IllegalArgumentException") 1 6 := by
  refine tq_ofW (cc := prog_1_method_10_code) (maxL := 4) (ret := (some .int)) (by decide) rfl ?_
  intro p e s m args below meth c s₁ B0 hml hv
  obtain ⟨rfl, hv⟩ := hv
  have hx := B0.exec
  have hb := B0.bytes
  have hr := B0.returns
  have hts := atoms_spec (ws := (Cond.code y_DM_at prog_1_method_10_code 4 (some .int)) :: tw) B0.pre
  have htw : ∀ w ∈ tw, w.before _ s = true := fun w hw => hts w (List.mem_cons_of_mem _ hw)
  have hown : s.vm.findClass "DrawingMachine" = some m.cls := findClass_of_methodNamed B0.named
  have hlocks := B0.notSynchronized
  obtain ⟨hC, hP, hD, hsz⟩ := wC_init hv
  subst hsz
  generalize hAe : va_A [] s.heap.size = A at hC hD
  have hS : va_S A s.heap s.heap [] := va_S.rf
  have hl := lv_entry ([.ref h0, .int px, .int py, .int x]) (n := 4) (Nat.le_of_ble_eq_true rfl)
  rw [lg_entry_eq]
  generalize (lg_sl ([.ref h0, .int px, .int py, .int x]) ++ List.replicate (4 - (lg_sl ([.ref h0, .int px, .int py, .int x])).length) Slot.unset).toArray = ls at hl ⊢
  have hl : lv_has ls 4 [(0, .ref h0), (1, .int px), (2, .int py), (3, .int x)] := hl
  have htr : e.platform.stackTraces = false := by rw [(Stand.of_body B0).admits.platform]; exact hfl
  have hout : c.exceptionTable.isEmpty = true := BodyLoose.noHandlers B0 (hts _ List.mem_cons_self)
  have hA0 : ∀ q, A q → s.heap.size ≤ q := by
    intro q h
    rw [← hAe] at h
    rcases h with ⟨k, e, h⟩ | h
    · simp at h
    · exact h
  refine lv_iload_n hx hb d_DM_at_0 rfl (lv_at hl 3 rfl) ?_
  refine lv_if_lt (tgt := 9) hx hb d_DM_at_1 (by decide) (fun c_225 => ?_) (fun c_225 => ?_)
  ·
    exact tq_throwH hx hb htr hown (by decide) (by decide) (own_use htw hC own_IA) (htw _ k282) (htw _ k885) (hC.2.2.1.2.2.2.1 (169, "a place has no such thing") (by decide)) (hml.trans hl.1.symm) hout hlocks d_DM_at_9 d_DM_at_12 d_DM_at_13 d_DM_at_15 d_DM_at_18 (Nat.le_of_ble_eq_true rfl) (Nat.le_of_ble_eq_true rfl) (Nat.le_of_ble_eq_true rfl) (Nat.le_of_ble_eq_true rfl) hS.1 (fun q hq => hA0 _ (hS.2.2 q hq))
  ·
    refine lv_iload_n hx hb d_DM_at_4 rfl (lv_at hl 3 rfl) ?_
    refine lv_iconst (v := 2) hx hb d_DM_at_5 (by decide) ?_
    refine lv_icmp_le (tgt := 19) hx hb d_DM_at_6 (by decide) (fun c_226 => absurd hbd (not_or.mpr ⟨c_225, Int32.not_lt.mpr c_226⟩)) (fun c_226 => ?_)
    exact tq_throwH hx hb htr hown (by decide) (by decide) (own_use htw hC own_IA) (htw _ k282) (htw _ k885) (hC.2.2.1.2.2.2.1 (169, "a place has no such thing") (by decide)) (hml.trans hl.1.symm) hout hlocks d_DM_at_9 d_DM_at_12 d_DM_at_13 d_DM_at_15 d_DM_at_18 (Nat.le_of_ble_eq_true rfl) (Nat.le_of_ble_eq_true rfl) (Nat.le_of_ble_eq_true rfl) (Nat.le_of_ble_eq_true rfl) hS.1 (fun q hq => hA0 _ (hS.2.2 q hq))

theorem d_DM_at_49 : decode prog_1_method_10_code 49 = .ok (.new 85, 3) := by decide +kernel
theorem d_DM_at_52 : decode prog_1_method_10_code 52 = .ok (.dup, 1) := by decide +kernel
theorem d_DM_at_53 : decode prog_1_method_10_code 53 = .ok (.ldc 177, 2) := by decide +kernel
theorem d_DM_at_55 : decode prog_1_method_10_code 55 = .ok (.invokespecial 89, 3) := by decide +kernel
theorem d_DM_at_58 : decode prog_1_method_10_code 58 = .ok (.athrow, 1) := by decide +kernel
set_option maxHeartbeats 4000000 in
set_option maxRecDepth 100000 in
theorem c_at_bp (l : Launch) (hfl : l.stackTraces = false) (D : va_G) (cI cL : ClassId) (B sz : Nat) (h0 : Nat) (q83 : Nat) (q84 : Nat) (z87 : Nat) (q89 : Nat) (z92 : Nat) (z93 : Nat) (z94 : Nat) (q95 : Nat) (q101 : Nat) (q107 : Nat) (q116 : Nat) (q120 : Nat) (q124 : Nat) (px : Int32) (py : Int32) (x : Int32) (h1 : ¬ x < 0) (h2 : x ≤ 2) (hbd : ¬ (px = 0 ∧ py = 0)) : tq_Met l y_DM_at ((Cond.code y_DM_at prog_1_method_10_code 4 (some .int)) :: tw) ({ frames := 50, cells := 1, slots := 6, locals := 5000 }) (va_Pc [.ref h0, .int px, .int py, .int x] (wP D cI cL B sz [(h0, .inr (0, [.ref q83, .ref q84, .ref q89, .ref q95, .ref q101, .ref q107, .ref q116, .ref q120, .ref q124])), (q89, .inr (2, [.int 1, .int 1, .ref z92, .ref z93, .ref z94, .ref q84, .ref z87]))])) (tq_Q "java/lang/IndexOutOfBoundsException") 1 6 := by
  refine tq_ofW (cc := prog_1_method_10_code) (maxL := 4) (ret := (some .int)) (by decide) rfl ?_
  intro p e s m args below meth c s₁ B0 hml hv
  obtain ⟨rfl, hv⟩ := hv
  have hx := B0.exec
  have hb := B0.bytes
  have hr := B0.returns
  have hts := atoms_spec (ws := (Cond.code y_DM_at prog_1_method_10_code 4 (some .int)) :: tw) B0.pre
  have htw : ∀ w ∈ tw, w.before _ s = true := fun w hw => hts w (List.mem_cons_of_mem _ hw)
  have hown : s.vm.findClass "DrawingMachine" = some m.cls := findClass_of_methodNamed B0.named
  have hlocks := B0.notSynchronized
  obtain ⟨hC, hP, hD, hsz⟩ := wC_init hv
  subst hsz
  generalize hAe : va_A [(h0, .inr (0, [.ref q83, .ref q84, .ref q89, .ref q95, .ref q101, .ref q107, .ref q116, .ref q120, .ref q124])), (q89, .inr (2, [.int 1, .int 1, .ref z92, .ref z93, .ref z94, .ref q84, .ref z87]))] s.heap.size = A at hC hD
  have hS : va_S A s.heap s.heap [] := va_S.rf
  have hl := lv_entry ([.ref h0, .int px, .int py, .int x]) (n := 4) (Nat.le_of_ble_eq_true rfl)
  rw [lg_entry_eq]
  generalize (lg_sl ([.ref h0, .int px, .int py, .int x]) ++ List.replicate (4 - (lg_sl ([.ref h0, .int px, .int py, .int x])).length) Slot.unset).toArray = ls at hl ⊢
  have hl : lv_has ls 4 [(0, .ref h0), (1, .int px), (2, .int py), (3, .int x)] := hl
  have htr : e.platform.stackTraces = false := by rw [(Stand.of_body B0).admits.platform]; exact hfl
  have hout : c.exceptionTable.isEmpty = true := BodyLoose.noHandlers B0 (hts _ List.mem_cons_self)
  refine lv_iload_n hx hb d_DM_at_0 rfl (lv_at hl 3 rfl) ?_
  refine lv_if_lt (tgt := 9) hx hb d_DM_at_1 (by decide) (fun c_227 => absurd c_227 h1) (fun c_227 => ?_)
  refine lv_iload_n hx hb d_DM_at_4 rfl (lv_at hl 3 rfl) ?_
  refine lv_iconst (v := 2) hx hb d_DM_at_5 (by decide) ?_
  refine lv_icmp_le (tgt := 19) hx hb d_DM_at_6 (by decide) (fun c_228 => ?_) (fun c_228 => absurd h2 c_228)
  refine lv_iload_n hx hb d_DM_at_19 rfl (lv_at hl 1 rfl) ?_
  refine lv_if_lt (tgt := 49) hx hb d_DM_at_20 (by decide) (fun c_229 => ?_) (fun c_229 => ?_)
  ·
    exact tq_throwH hx hb htr hown (by decide) (by decide) (own_use htw hC own_IO) (htw _ k289) (htw _ k886) (hC.2.2.1.2.2.2.1 (177, "no such place") (by decide)) (hml.trans hl.1.symm) hout hlocks d_DM_at_49 d_DM_at_52 d_DM_at_53 d_DM_at_55 d_DM_at_58 (Nat.le_of_ble_eq_true rfl) (Nat.le_of_ble_eq_true rfl) (Nat.le_of_ble_eq_true rfl) (Nat.le_of_ble_eq_true rfl) hS.1 (fun q hq => by cases hq)
  ·
    refine lv_iload_n hx hb d_DM_at_23 rfl (lv_at hl 1 rfl) ?_
    refine lv_aload_n hx hb d_DM_at_24 rfl (lv_at hl 0 rfl) ?_
    refine va_get (D := D) (ci := 0) (v := .ref q89) (C := R_DM) (T := F_DM) (N := 9) hx hb htw i_DM hown hC.1 hP 0 rfl rfl 2 (by decide) (htw _ k254) (fun _ h9 => h9) rfl d_DM_at_25 ?_
    refine va_get (D := D) (ci := 2) (v := .int 1) (C := R_Pic) (T := F_Pic) (N := 7) hx hb htw i_Pic hown hC.1 hP 1 rfl rfl 0 (by decide) (htw _ k341) (fun _ h9 => h9) rfl d_DM_at_28 ?_
    refine lv_icmp_ge (tgt := 49) hx hb d_DM_at_31 (by decide) (fun c_230 => ?_) (fun c_230 => ?_)
    ·
      exact tq_throwH hx hb htr hown (by decide) (by decide) (own_use htw hC own_IO) (htw _ k289) (htw _ k886) (hC.2.2.1.2.2.2.1 (177, "no such place") (by decide)) (hml.trans hl.1.symm) hout hlocks d_DM_at_49 d_DM_at_52 d_DM_at_53 d_DM_at_55 d_DM_at_58 (Nat.le_of_ble_eq_true rfl) (Nat.le_of_ble_eq_true rfl) (Nat.le_of_ble_eq_true rfl) (Nat.le_of_ble_eq_true rfl) hS.1 (fun q hq => by cases hq)
    ·
      refine lv_iload_n hx hb d_DM_at_34 rfl (lv_at hl 2 rfl) ?_
      refine lv_if_lt (tgt := 49) hx hb d_DM_at_35 (by decide) (fun c_231 => ?_) (fun c_231 => ?_)
      ·
        exact tq_throwH hx hb htr hown (by decide) (by decide) (own_use htw hC own_IO) (htw _ k289) (htw _ k886) (hC.2.2.1.2.2.2.1 (177, "no such place") (by decide)) (hml.trans hl.1.symm) hout hlocks d_DM_at_49 d_DM_at_52 d_DM_at_53 d_DM_at_55 d_DM_at_58 (Nat.le_of_ble_eq_true rfl) (Nat.le_of_ble_eq_true rfl) (Nat.le_of_ble_eq_true rfl) (Nat.le_of_ble_eq_true rfl) hS.1 (fun q hq => by cases hq)
      ·
        refine lv_iload_n hx hb d_DM_at_38 rfl (lv_at hl 2 rfl) ?_
        refine lv_aload_n hx hb d_DM_at_39 rfl (lv_at hl 0 rfl) ?_
        refine va_get (D := D) (ci := 0) (v := .ref q89) (C := R_DM) (T := F_DM) (N := 9) hx hb htw i_DM hown hC.1 hP 0 rfl rfl 2 (by decide) (htw _ k254) (fun _ h9 => h9) rfl d_DM_at_40 ?_
        refine va_get (D := D) (ci := 2) (v := .int 1) (C := R_Pic) (T := F_Pic) (N := 7) hx hb htw i_Pic hown hC.1 hP 1 rfl rfl 1 (by decide) (htw _ k342) (fun _ h9 => h9) rfl d_DM_at_43 ?_
        refine lv_icmp_lt (tgt := 59) hx hb d_DM_at_46 (by decide) (fun c_232 => absurd ⟨z01 c_229 c_230, z01 c_231 (Int32.not_le.mpr c_232)⟩ hbd) (fun c_232 => ?_)
        exact tq_throwH hx hb htr hown (by decide) (by decide) (own_use htw hC own_IO) (htw _ k289) (htw _ k886) (hC.2.2.1.2.2.2.1 (177, "no such place") (by decide)) (hml.trans hl.1.symm) hout hlocks d_DM_at_49 d_DM_at_52 d_DM_at_53 d_DM_at_55 d_DM_at_58 (Nat.le_of_ble_eq_true rfl) (Nat.le_of_ble_eq_true rfl) (Nat.le_of_ble_eq_true rfl) (Nat.le_of_ble_eq_true rfl) hS.1 (fun q hq => by cases hq)

theorem d_DM_sum_0 : decode prog_1_method_11_code 0 = .ok (.iload_n 1, 1) := by decide +kernel
theorem d_DM_sum_1 : decode prog_1_method_11_code 1 = .ok (.ifCond .lt 8, 3) := by decide +kernel
theorem d_DM_sum_4 : decode prog_1_method_11_code 4 = .ok (.iload_n 1, 1) := by decide +kernel
theorem d_DM_sum_5 : decode prog_1_method_11_code 5 = .ok (.iconst 2, 1) := by decide +kernel
theorem d_DM_sum_6 : decode prog_1_method_11_code 6 = .ok (.if_icmp .le 13, 3) := by decide +kernel
theorem d_DM_sum_19 : decode prog_1_method_11_code 19 = .ok (.aload_n 0, 1) := by decide +kernel
theorem d_DM_sum_20 : decode prog_1_method_11_code 20 = .ok (.getfield 25, 3) := by decide +kernel
theorem d_DM_sum_23 : decode prog_1_method_11_code 23 = .ok (.iload_n 1, 1) := by decide +kernel
theorem d_DM_sum_24 : decode prog_1_method_11_code 24 = .ok (.invokevirtual 179, 3) := by decide +kernel
theorem d_DM_sum_27 : decode prog_1_method_11_code 27 = .ok (.astore_n 2, 1) := by decide +kernel
theorem d_DM_sum_28 : decode prog_1_method_11_code 28 = .ok (.aload_n 0, 1) := by decide +kernel
theorem d_DM_sum_29 : decode prog_1_method_11_code 29 = .ok (.getfield 25, 3) := by decide +kernel
theorem d_DM_sum_32 : decode prog_1_method_11_code 32 = .ok (.getfield 171, 3) := by decide +kernel
theorem d_DM_sum_35 : decode prog_1_method_11_code 35 = .ok (.aload_n 0, 1) := by decide +kernel
theorem d_DM_sum_36 : decode prog_1_method_11_code 36 = .ok (.getfield 25, 3) := by decide +kernel
theorem d_DM_sum_39 : decode prog_1_method_11_code 39 = .ok (.getfield 174, 3) := by decide +kernel
theorem d_DM_sum_42 : decode prog_1_method_11_code 42 = .ok (.imul, 1) := by decide +kernel
theorem d_DM_sum_43 : decode prog_1_method_11_code 43 = .ok (.istore_n 3, 1) := by decide +kernel
theorem d_DM_sum_44 : decode prog_1_method_11_code 44 = .ok (.iconst 0, 1) := by decide +kernel
theorem d_DM_sum_45 : decode prog_1_method_11_code 45 = .ok (.istore 4, 2) := by decide +kernel
theorem d_DM_sum_47 : decode prog_1_method_11_code 47 = .ok (.iconst 0, 1) := by decide +kernel
theorem d_DM_sum_48 : decode prog_1_method_11_code 48 = .ok (.istore 5, 2) := by decide +kernel
theorem d_DM_sum_50 : decode prog_1_method_11_code 50 = .ok (.iload 5, 2) := by decide +kernel
theorem d_DM_sum_52 : decode prog_1_method_11_code 52 = .ok (.iload_n 3, 1) := by decide +kernel
theorem d_DM_sum_53 : decode prog_1_method_11_code 53 = .ok (.if_icmp .ge 21, 3) := by decide +kernel
theorem d_DM_sum_56 : decode prog_1_method_11_code 56 = .ok (.bipush 31, 2) := by decide +kernel
theorem d_DM_sum_58 : decode prog_1_method_11_code 58 = .ok (.iload 4, 2) := by decide +kernel
theorem d_DM_sum_60 : decode prog_1_method_11_code 60 = .ok (.imul, 1) := by decide +kernel
theorem d_DM_sum_61 : decode prog_1_method_11_code 61 = .ok (.aload_n 2, 1) := by decide +kernel
theorem d_DM_sum_62 : decode prog_1_method_11_code 62 = .ok (.iload 5, 2) := by decide +kernel
theorem d_DM_sum_64 : decode prog_1_method_11_code 64 = .ok (.iaload, 1) := by decide +kernel
theorem d_DM_sum_65 : decode prog_1_method_11_code 65 = .ok (.iadd, 1) := by decide +kernel
theorem d_DM_sum_66 : decode prog_1_method_11_code 66 = .ok (.istore 4, 2) := by decide +kernel
theorem d_DM_sum_68 : decode prog_1_method_11_code 68 = .ok (.iinc 5 1, 3) := by decide +kernel
theorem d_DM_sum_71 : decode prog_1_method_11_code 71 = .ok (.goto (-21), 3) := by decide +kernel
theorem d_DM_sum_74 : decode prog_1_method_11_code 74 = .ok (.iload 4, 2) := by decide +kernel
theorem d_DM_sum_76 : decode prog_1_method_11_code 76 = .ok (.ireturn, 1) := by decide +kernel
set_option maxHeartbeats 4000000 in
set_option maxRecDepth 100000 in
theorem c_sum_0 (l : Launch) (D : va_G) (cI cL : ClassId) (B sz : Nat) (h0 : Nat) (q83 : Nat) (q84 : Nat) (z87 : Nat) (q89 : Nat) (z92 : Nat) (z93 : Nat) (z94 : Nat) (q95 : Nat) (q101 : Nat) (q107 : Nat) (q116 : Nat) (q120 : Nat) (q124 : Nat) : Met l y_DM_sum ((Cond.code y_DM_sum prog_1_method_11_code 6 (some .int)) :: tw) ({ frames := 50, cells := 0, slots := 0, locals := 5000 }) (va_Pc [.ref h0, .int 0] (wP D cI cL B sz [(h0, .inr (0, [.ref q83, .ref q84, .ref q89, .ref q95, .ref q101, .ref q107, .ref q116, .ref q120, .ref q124])), (q89, .inr (2, [.int 1, .int 1, .ref z92, .ref z93, .ref z94, .ref q84, .ref z87])), (z92, .inl (cI, 1, .inl (fun _ => 0))), (z93, .inl (cI, 1, .inl (fun _ => 0))), (z94, .inl (cI, 1, .inl (fun _ => 0)))])) (va_Qi (S := Unit) (fun r u => r = 0) (fun u => wB D cI cL (va_A [(h0, .inr (0, [.ref q83, .ref q84, .ref q89, .ref q95, .ref q101, .ref q107, .ref q116, .ref q120, .ref q124])), (q89, .inr (2, [.int 1, .int 1, .ref z92, .ref z93, .ref z94, .ref q84, .ref z87])), (z92, .inl (cI, 1, .inl (fun _ => 0))), (z93, .inl (cI, 1, .inl (fun _ => 0))), (z94, .inl (cI, 1, .inl (fun _ => 0)))] sz) ((fun _ : Unit => []) u)) (va_A [(h0, .inr (0, [.ref q83, .ref q84, .ref q89, .ref q95, .ref q101, .ref q107, .ref q116, .ref q120, .ref q124])), (q89, .inr (2, [.int 1, .int 1, .ref z92, .ref z93, .ref z94, .ref q84, .ref z87])), (z92, .inl (cI, 1, .inl (fun _ => 0))), (z93, .inl (cI, 1, .inl (fun _ => 0))), (z94, .inl (cI, 1, .inl (fun _ => 0)))] sz)) 0 0 (va_A [(h0, .inr (0, [.ref q83, .ref q84, .ref q89, .ref q95, .ref q101, .ref q107, .ref q116, .ref q120, .ref q124])), (q89, .inr (2, [.int 1, .int 1, .ref z92, .ref z93, .ref z94, .ref q84, .ref z87])), (z92, .inl (cI, 1, .inl (fun _ => 0))), (z93, .inl (cI, 1, .inl (fun _ => 0))), (z94, .inl (cI, 1, .inl (fun _ => 0)))] sz) := by
  refine Met.ofW (cc := prog_1_method_11_code) (maxL := 6) (ret := (some .int)) (by decide) rfl ?_
  intro p e s m args below meth c s₁ B0 hml hv
  obtain ⟨rfl, hv⟩ := hv
  have hx := B0.exec
  have hb := B0.bytes
  have hr := B0.returns
  have hts := atoms_spec (ws := (Cond.code y_DM_sum prog_1_method_11_code 6 (some .int)) :: tw) B0.pre
  have htw : ∀ w ∈ tw, w.before _ s = true := fun w hw => hts w (List.mem_cons_of_mem _ hw)
  have hown : s.vm.findClass "DrawingMachine" = some m.cls := findClass_of_methodNamed B0.named
  have hlocks := B0.notSynchronized
  obtain ⟨hC, hP, hD, hsz⟩ := wC_init hv
  subst hsz
  generalize hAe : va_A [(h0, .inr (0, [.ref q83, .ref q84, .ref q89, .ref q95, .ref q101, .ref q107, .ref q116, .ref q120, .ref q124])), (q89, .inr (2, [.int 1, .int 1, .ref z92, .ref z93, .ref z94, .ref q84, .ref z87])), (z92, .inl (cI, 1, .inl (fun _ => 0))), (z93, .inl (cI, 1, .inl (fun _ => 0))), (z94, .inl (cI, 1, .inl (fun _ => 0)))] s.heap.size = A at hC hD ⊢
  have hS : va_S A s.heap s.heap [] := va_S.rf
  have hl := lv_entry ([.ref h0, .int 0]) (n := 6) (Nat.le_of_ble_eq_true rfl)
  rw [lg_entry_eq]
  generalize (lg_sl ([.ref h0, .int 0]) ++ List.replicate (6 - (lg_sl ([.ref h0, .int 0])).length) Slot.unset).toArray = ls at hl ⊢
  have hl : lv_has ls 6 [(0, .ref h0), (1, .int 0)] := hl
  refine lv_iload_n hx hb d_DM_sum_0 rfl (lv_at hl 1 rfl) ?_
  refine lv_if_lt (tgt := 9) hx hb d_DM_sum_1 (by decide) (fun c_233 => absurd c_233 (by decide)) (fun c_233 => ?_)
  refine lv_iload_n hx hb d_DM_sum_4 rfl (lv_at hl 1 rfl) ?_
  refine lv_iconst (v := 2) hx hb d_DM_sum_5 (by decide) ?_
  refine lv_icmp_le (tgt := 19) hx hb d_DM_sum_6 (by decide) (fun c_234 => ?_) (fun c_234 => absurd c_234 (by decide))
  refine lv_aload_n hx hb d_DM_sum_19 rfl (lv_at hl 0 rfl) ?_
  refine va_get (D := D) (ci := 0) (v := .ref q89) (C := R_DM) (T := F_DM) (N := 9) hx hb htw i_DM hown hC.1 hP 0 rfl rfl 2 (by decide) (htw _ k254) (fun _ h9 => h9) rfl d_DM_sum_20 ?_
  refine lv_iload_n hx hb d_DM_sum_23 rfl (lv_at hl 1 rfl) ?_
  refine wc_r (wr := [(h0, .inr (0, [.ref q83, .ref q84, .ref q89, .ref q95, .ref q101, .ref q107, .ref q116, .ref q120, .ref q124])), (z92, .inl (cI, 1, .inl (fun _ => 0))), (z93, .inl (cI, 1, .inl (fun _ => 0))), (z94, .inl (cI, 1, .inl (fun _ => 0)))]) hC hP hD hS [1] [0, 2, 3, 4] rfl rfl (by decide) (by decide) (va_runV (As := [.int 0]) (rest := []) ⟨hx, hb, hml, hown, htw⟩ (c_rowOf_0 l D cI cL B _ q84 z87 q89 z92 z93 z94) (cwV 1 htw gV_DM_179 rfl rfl rfl (by decide +kernel) ⟨Nat.le_of_ble_eq_true rfl, Nat.le_of_ble_eq_true rfl⟩) (wC_preV (As := [.int 0]) hC hP hD hS [1] (by decide) rfl (q0 := 1) rfl rfl) rfl rfl hl.1 rfl (lv_room (Nat.le_of_ble_eq_true rfl)) d_DM_sum_24 ⟨Nat.le_of_ble_eq_true rfl, Nat.le_of_ble_eq_true rfl⟩) (fun u235 H locs hw236 hP hD hS => ?_)
  have hP : va_P D classes [(h0, .inr (0, [.ref q83, .ref q84, .ref q89, .ref q95, .ref q101, .ref q107, .ref q116, .ref q120, .ref q124])), (z92, .inl (cI, 1, .inl (fun _ => 0))), (z93, .inl (cI, 1, .inl (fun _ => 0))), (z94, .inl (cI, 1, .inl (fun _ => 0))), (q89, .inr (2, [.int 1, .int 1, .ref z92, .ref z93, .ref z94, .ref q84, .ref z87]))] H := hP
  have hD : va_D A [(h0, .inr (0, [.ref q83, .ref q84, .ref q89, .ref q95, .ref q101, .ref q107, .ref q116, .ref q120, .ref q124])), (z92, .inl (cI, 1, .inl (fun _ => 0))), (z93, .inl (cI, 1, .inl (fun _ => 0))), (z94, .inl (cI, 1, .inl (fun _ => 0))), (q89, .inr (2, [.int 1, .int 1, .ref z92, .ref z93, .ref z94, .ref q84, .ref z87]))] := hD
  refine W.widen (k := 0) (n := 0) (by omega) (by omega) ?_
  refine lv_astore_n (lv' := [(2, .ref z92), (0, .ref h0), (1, .int 0)]) hx hb d_DM_sum_27 rfl hl (by decide) rfl (fun ls hl => ?_)
  refine lv_aload_n hx hb d_DM_sum_28 rfl (lv_at hl 1 rfl) ?_
  refine va_get (D := D) (ci := 0) (v := .ref q89) (C := R_DM) (T := F_DM) (N := 9) hx hb htw i_DM hown hC.1 hP 0 rfl rfl 2 (by decide) (htw _ k254) (fun _ h9 => h9) rfl d_DM_sum_29 ?_
  refine va_get (D := D) (ci := 2) (v := .int 1) (C := R_Pic) (T := F_Pic) (N := 7) hx hb htw i_Pic hown hC.1 hP 4 rfl rfl 0 (by decide) (htw _ k341) (fun _ h9 => h9) rfl d_DM_sum_32 ?_
  refine lv_aload_n hx hb d_DM_sum_35 rfl (lv_at hl 1 rfl) ?_
  refine va_get (D := D) (ci := 0) (v := .ref q89) (C := R_DM) (T := F_DM) (N := 9) hx hb htw i_DM hown hC.1 hP 0 rfl rfl 2 (by decide) (htw _ k254) (fun _ h9 => h9) rfl d_DM_sum_36 ?_
  refine va_get (D := D) (ci := 2) (v := .int 1) (C := R_Pic) (T := F_Pic) (N := 7) hx hb htw i_Pic hown hC.1 hP 4 rfl rfl 1 (by decide) (htw _ k342) (fun _ h9 => h9) rfl d_DM_sum_39 ?_
  refine lv_imul hx hb d_DM_sum_42 ?_
  refine wi_c (v := 1) (by decide) ?_
  refine lv_istore_n (lv' := [(3, .int 1), (2, .ref z92), (0, .ref h0), (1, .int 0)]) hx hb d_DM_sum_43 rfl hl (by decide) rfl (fun ls hl => ?_)
  refine lv_iconst (v := 0) hx hb d_DM_sum_44 (by decide) ?_
  refine lv_istore (lv' := [(4, .int 0), (3, .int 1), (2, .ref z92), (0, .ref h0), (1, .int 0)]) hx hb d_DM_sum_45 hl (by decide) rfl (fun ls hl => ?_)
  refine lv_iconst (v := 0) hx hb d_DM_sum_47 (by decide) ?_
  refine lv_istore (lv' := [(5, .int 0), (4, .int 0), (3, .int 1), (2, .ref z92), (0, .ref h0), (1, .int 0)]) hx hb d_DM_sum_48 hl (by decide) rfl (fun ls hl => ?_)
  refine lv_iload hx hb d_DM_sum_50 (lv_at hl 0 rfl) ?_
  refine lv_iload_n hx hb d_DM_sum_52 rfl (lv_at hl 2 rfl) ?_
  refine lv_icmp_ge (tgt := 74) hx hb d_DM_sum_53 (by decide) (fun c_237 => absurd c_237 (by decide)) (fun c_237 => ?_)
  refine lv_bipush (v := 31) hx hb d_DM_sum_56 (by decide) ?_
  refine lv_iload hx hb d_DM_sum_58 (lv_at hl 1 rfl) ?_
  refine lv_imul hx hb d_DM_sum_60 ?_
  refine wi_c (v := 0) (by decide) ?_
  refine lv_aload_n hx hb d_DM_sum_61 rfl (lv_at hl 3 rfl) ?_
  refine lv_iload hx hb d_DM_sum_62 (lv_at hl 0 rfl) ?_
  refine va_iald hx hb hC.1 hP 1 0 rfl rfl (by unfold vp_in; decide) d_DM_sum_64 ?_
  refine wi_c (v := 0) rfl ?_
  refine lv_iadd hx hb d_DM_sum_65 ?_
  refine wi_c (v := 0) (by decide) ?_
  refine lv_istore (lv' := [(4, .int 0), (5, .int 0), (3, .int 1), (2, .ref z92), (0, .ref h0), (1, .int 0)]) hx hb d_DM_sum_66 hl (by decide) rfl (fun ls hl => ?_)
  refine lv_iinc (v := 1) (lv' := [(5, .int 1), (4, .int 0), (3, .int 1), (2, .ref z92), (0, .ref h0), (1, .int 0)]) hx hb d_DM_sum_68 hl (k := 1) rfl (by decide) (by decide) rfl (fun ls hl => ?_)
  refine lv_goto (tgt := 50) hx hb d_DM_sum_71 (by decide) ?_
  refine lv_iload hx hb d_DM_sum_50 (lv_at hl 0 rfl) ?_
  refine lv_iload_n hx hb d_DM_sum_52 rfl (lv_at hl 2 rfl) ?_
  refine lv_icmp_ge (tgt := 74) hx hb d_DM_sum_53 (by decide) (fun c_238 => ?_) (fun c_238 => absurd c_238 (by decide))
  refine lv_iload hx hb d_DM_sum_74 (lv_at hl 1 rfl) ?_
  refine W.widen (k := 0) (n := 0) (Nat.le_of_ble_eq_true rfl) (Nat.le_of_ble_eq_true rfl) ?_
  have hP9 := hP.sub (ws' := []) [] rfl
  have hD9 := hD.sub (ws' := []) [] (by decide) rfl
  exact W.iret (v := 0) hx hb hr (fun t ht hW => ⟨⟨0, (), rfl, rfl, by rw [ht]; exact hP9, va_K.moved hW.alike hC.1, hD9⟩, hS.F ht⟩) hS.2.2 d_DM_sum_76

set_option maxHeartbeats 4000000 in
set_option maxRecDepth 100000 in
theorem c_sum_1 (l : Launch) (D : va_G) (cI cL : ClassId) (B sz : Nat) (h0 : Nat) (q83 : Nat) (q84 : Nat) (z87 : Nat) (q89 : Nat) (z92 : Nat) (z93 : Nat) (z94 : Nat) (q95 : Nat) (q101 : Nat) (q107 : Nat) (q116 : Nat) (q120 : Nat) (q124 : Nat) : Met l y_DM_sum ((Cond.code y_DM_sum prog_1_method_11_code 6 (some .int)) :: tw) ({ frames := 50, cells := 0, slots := 0, locals := 5000 }) (va_Pc [.ref h0, .int 1] (wP D cI cL B sz [(h0, .inr (0, [.ref q83, .ref q84, .ref q89, .ref q95, .ref q101, .ref q107, .ref q116, .ref q120, .ref q124])), (q89, .inr (2, [.int 1, .int 1, .ref z92, .ref z93, .ref z94, .ref q84, .ref z87])), (z92, .inl (cI, 1, .inl (fun _ => 0))), (z93, .inl (cI, 1, .inl (fun _ => 0))), (z94, .inl (cI, 1, .inl (fun _ => 0)))])) (va_Qi (S := Unit) (fun r u => r = 0) (fun u => wB D cI cL (va_A [(h0, .inr (0, [.ref q83, .ref q84, .ref q89, .ref q95, .ref q101, .ref q107, .ref q116, .ref q120, .ref q124])), (q89, .inr (2, [.int 1, .int 1, .ref z92, .ref z93, .ref z94, .ref q84, .ref z87])), (z92, .inl (cI, 1, .inl (fun _ => 0))), (z93, .inl (cI, 1, .inl (fun _ => 0))), (z94, .inl (cI, 1, .inl (fun _ => 0)))] sz) ((fun _ : Unit => []) u)) (va_A [(h0, .inr (0, [.ref q83, .ref q84, .ref q89, .ref q95, .ref q101, .ref q107, .ref q116, .ref q120, .ref q124])), (q89, .inr (2, [.int 1, .int 1, .ref z92, .ref z93, .ref z94, .ref q84, .ref z87])), (z92, .inl (cI, 1, .inl (fun _ => 0))), (z93, .inl (cI, 1, .inl (fun _ => 0))), (z94, .inl (cI, 1, .inl (fun _ => 0)))] sz)) 0 0 (va_A [(h0, .inr (0, [.ref q83, .ref q84, .ref q89, .ref q95, .ref q101, .ref q107, .ref q116, .ref q120, .ref q124])), (q89, .inr (2, [.int 1, .int 1, .ref z92, .ref z93, .ref z94, .ref q84, .ref z87])), (z92, .inl (cI, 1, .inl (fun _ => 0))), (z93, .inl (cI, 1, .inl (fun _ => 0))), (z94, .inl (cI, 1, .inl (fun _ => 0)))] sz) := by
  refine Met.ofW (cc := prog_1_method_11_code) (maxL := 6) (ret := (some .int)) (by decide) rfl ?_
  intro p e s m args below meth c s₁ B0 hml hv
  obtain ⟨rfl, hv⟩ := hv
  have hx := B0.exec
  have hb := B0.bytes
  have hr := B0.returns
  have hts := atoms_spec (ws := (Cond.code y_DM_sum prog_1_method_11_code 6 (some .int)) :: tw) B0.pre
  have htw : ∀ w ∈ tw, w.before _ s = true := fun w hw => hts w (List.mem_cons_of_mem _ hw)
  have hown : s.vm.findClass "DrawingMachine" = some m.cls := findClass_of_methodNamed B0.named
  have hlocks := B0.notSynchronized
  obtain ⟨hC, hP, hD, hsz⟩ := wC_init hv
  subst hsz
  generalize hAe : va_A [(h0, .inr (0, [.ref q83, .ref q84, .ref q89, .ref q95, .ref q101, .ref q107, .ref q116, .ref q120, .ref q124])), (q89, .inr (2, [.int 1, .int 1, .ref z92, .ref z93, .ref z94, .ref q84, .ref z87])), (z92, .inl (cI, 1, .inl (fun _ => 0))), (z93, .inl (cI, 1, .inl (fun _ => 0))), (z94, .inl (cI, 1, .inl (fun _ => 0)))] s.heap.size = A at hC hD ⊢
  have hS : va_S A s.heap s.heap [] := va_S.rf
  have hl := lv_entry ([.ref h0, .int 1]) (n := 6) (Nat.le_of_ble_eq_true rfl)
  rw [lg_entry_eq]
  generalize (lg_sl ([.ref h0, .int 1]) ++ List.replicate (6 - (lg_sl ([.ref h0, .int 1])).length) Slot.unset).toArray = ls at hl ⊢
  have hl : lv_has ls 6 [(0, .ref h0), (1, .int 1)] := hl
  refine lv_iload_n hx hb d_DM_sum_0 rfl (lv_at hl 1 rfl) ?_
  refine lv_if_lt (tgt := 9) hx hb d_DM_sum_1 (by decide) (fun c_239 => absurd c_239 (by decide)) (fun c_239 => ?_)
  refine lv_iload_n hx hb d_DM_sum_4 rfl (lv_at hl 1 rfl) ?_
  refine lv_iconst (v := 2) hx hb d_DM_sum_5 (by decide) ?_
  refine lv_icmp_le (tgt := 19) hx hb d_DM_sum_6 (by decide) (fun c_240 => ?_) (fun c_240 => absurd c_240 (by decide))
  refine lv_aload_n hx hb d_DM_sum_19 rfl (lv_at hl 0 rfl) ?_
  refine va_get (D := D) (ci := 0) (v := .ref q89) (C := R_DM) (T := F_DM) (N := 9) hx hb htw i_DM hown hC.1 hP 0 rfl rfl 2 (by decide) (htw _ k254) (fun _ h9 => h9) rfl d_DM_sum_20 ?_
  refine lv_iload_n hx hb d_DM_sum_23 rfl (lv_at hl 1 rfl) ?_
  refine wc_r (wr := [(h0, .inr (0, [.ref q83, .ref q84, .ref q89, .ref q95, .ref q101, .ref q107, .ref q116, .ref q120, .ref q124])), (z92, .inl (cI, 1, .inl (fun _ => 0))), (z93, .inl (cI, 1, .inl (fun _ => 0))), (z94, .inl (cI, 1, .inl (fun _ => 0)))]) hC hP hD hS [1] [0, 2, 3, 4] rfl rfl (by decide) (by decide) (va_runV (As := [.int 1]) (rest := []) ⟨hx, hb, hml, hown, htw⟩ (c_rowOf_1 l D cI cL B _ q84 z87 q89 z92 z93 z94) (cwV 1 htw gV_DM_179 rfl rfl rfl (by decide +kernel) ⟨Nat.le_of_ble_eq_true rfl, Nat.le_of_ble_eq_true rfl⟩) (wC_preV (As := [.int 1]) hC hP hD hS [1] (by decide) rfl (q0 := 1) rfl rfl) rfl rfl hl.1 rfl (lv_room (Nat.le_of_ble_eq_true rfl)) d_DM_sum_24 ⟨Nat.le_of_ble_eq_true rfl, Nat.le_of_ble_eq_true rfl⟩) (fun u241 H locs hw242 hP hD hS => ?_)
  have hP : va_P D classes [(h0, .inr (0, [.ref q83, .ref q84, .ref q89, .ref q95, .ref q101, .ref q107, .ref q116, .ref q120, .ref q124])), (z92, .inl (cI, 1, .inl (fun _ => 0))), (z93, .inl (cI, 1, .inl (fun _ => 0))), (z94, .inl (cI, 1, .inl (fun _ => 0))), (q89, .inr (2, [.int 1, .int 1, .ref z92, .ref z93, .ref z94, .ref q84, .ref z87]))] H := hP
  have hD : va_D A [(h0, .inr (0, [.ref q83, .ref q84, .ref q89, .ref q95, .ref q101, .ref q107, .ref q116, .ref q120, .ref q124])), (z92, .inl (cI, 1, .inl (fun _ => 0))), (z93, .inl (cI, 1, .inl (fun _ => 0))), (z94, .inl (cI, 1, .inl (fun _ => 0))), (q89, .inr (2, [.int 1, .int 1, .ref z92, .ref z93, .ref z94, .ref q84, .ref z87]))] := hD
  refine W.widen (k := 0) (n := 0) (by omega) (by omega) ?_
  refine lv_astore_n (lv' := [(2, .ref z93), (0, .ref h0), (1, .int 1)]) hx hb d_DM_sum_27 rfl hl (by decide) rfl (fun ls hl => ?_)
  refine lv_aload_n hx hb d_DM_sum_28 rfl (lv_at hl 1 rfl) ?_
  refine va_get (D := D) (ci := 0) (v := .ref q89) (C := R_DM) (T := F_DM) (N := 9) hx hb htw i_DM hown hC.1 hP 0 rfl rfl 2 (by decide) (htw _ k254) (fun _ h9 => h9) rfl d_DM_sum_29 ?_
  refine va_get (D := D) (ci := 2) (v := .int 1) (C := R_Pic) (T := F_Pic) (N := 7) hx hb htw i_Pic hown hC.1 hP 4 rfl rfl 0 (by decide) (htw _ k341) (fun _ h9 => h9) rfl d_DM_sum_32 ?_
  refine lv_aload_n hx hb d_DM_sum_35 rfl (lv_at hl 1 rfl) ?_
  refine va_get (D := D) (ci := 0) (v := .ref q89) (C := R_DM) (T := F_DM) (N := 9) hx hb htw i_DM hown hC.1 hP 0 rfl rfl 2 (by decide) (htw _ k254) (fun _ h9 => h9) rfl d_DM_sum_36 ?_
  refine va_get (D := D) (ci := 2) (v := .int 1) (C := R_Pic) (T := F_Pic) (N := 7) hx hb htw i_Pic hown hC.1 hP 4 rfl rfl 1 (by decide) (htw _ k342) (fun _ h9 => h9) rfl d_DM_sum_39 ?_
  refine lv_imul hx hb d_DM_sum_42 ?_
  refine wi_c (v := 1) (by decide) ?_
  refine lv_istore_n (lv' := [(3, .int 1), (2, .ref z93), (0, .ref h0), (1, .int 1)]) hx hb d_DM_sum_43 rfl hl (by decide) rfl (fun ls hl => ?_)
  refine lv_iconst (v := 0) hx hb d_DM_sum_44 (by decide) ?_
  refine lv_istore (lv' := [(4, .int 0), (3, .int 1), (2, .ref z93), (0, .ref h0), (1, .int 1)]) hx hb d_DM_sum_45 hl (by decide) rfl (fun ls hl => ?_)
  refine lv_iconst (v := 0) hx hb d_DM_sum_47 (by decide) ?_
  refine lv_istore (lv' := [(5, .int 0), (4, .int 0), (3, .int 1), (2, .ref z93), (0, .ref h0), (1, .int 1)]) hx hb d_DM_sum_48 hl (by decide) rfl (fun ls hl => ?_)
  refine lv_iload hx hb d_DM_sum_50 (lv_at hl 0 rfl) ?_
  refine lv_iload_n hx hb d_DM_sum_52 rfl (lv_at hl 2 rfl) ?_
  refine lv_icmp_ge (tgt := 74) hx hb d_DM_sum_53 (by decide) (fun c_243 => absurd c_243 (by decide)) (fun c_243 => ?_)
  refine lv_bipush (v := 31) hx hb d_DM_sum_56 (by decide) ?_
  refine lv_iload hx hb d_DM_sum_58 (lv_at hl 1 rfl) ?_
  refine lv_imul hx hb d_DM_sum_60 ?_
  refine wi_c (v := 0) (by decide) ?_
  refine lv_aload_n hx hb d_DM_sum_61 rfl (lv_at hl 3 rfl) ?_
  refine lv_iload hx hb d_DM_sum_62 (lv_at hl 0 rfl) ?_
  refine va_iald hx hb hC.1 hP 2 0 rfl rfl (by unfold vp_in; decide) d_DM_sum_64 ?_
  refine wi_c (v := 0) rfl ?_
  refine lv_iadd hx hb d_DM_sum_65 ?_
  refine wi_c (v := 0) (by decide) ?_
  refine lv_istore (lv' := [(4, .int 0), (5, .int 0), (3, .int 1), (2, .ref z93), (0, .ref h0), (1, .int 1)]) hx hb d_DM_sum_66 hl (by decide) rfl (fun ls hl => ?_)
  refine lv_iinc (v := 1) (lv' := [(5, .int 1), (4, .int 0), (3, .int 1), (2, .ref z93), (0, .ref h0), (1, .int 1)]) hx hb d_DM_sum_68 hl (k := 1) rfl (by decide) (by decide) rfl (fun ls hl => ?_)
  refine lv_goto (tgt := 50) hx hb d_DM_sum_71 (by decide) ?_
  refine lv_iload hx hb d_DM_sum_50 (lv_at hl 0 rfl) ?_
  refine lv_iload_n hx hb d_DM_sum_52 rfl (lv_at hl 2 rfl) ?_
  refine lv_icmp_ge (tgt := 74) hx hb d_DM_sum_53 (by decide) (fun c_244 => ?_) (fun c_244 => absurd c_244 (by decide))
  refine lv_iload hx hb d_DM_sum_74 (lv_at hl 1 rfl) ?_
  refine W.widen (k := 0) (n := 0) (Nat.le_of_ble_eq_true rfl) (Nat.le_of_ble_eq_true rfl) ?_
  have hP9 := hP.sub (ws' := []) [] rfl
  have hD9 := hD.sub (ws' := []) [] (by decide) rfl
  exact W.iret (v := 0) hx hb hr (fun t ht hW => ⟨⟨0, (), rfl, rfl, by rw [ht]; exact hP9, va_K.moved hW.alike hC.1, hD9⟩, hS.F ht⟩) hS.2.2 d_DM_sum_76

set_option maxHeartbeats 4000000 in
set_option maxRecDepth 100000 in
theorem c_sum_2 (l : Launch) (D : va_G) (cI cL : ClassId) (B sz : Nat) (h0 : Nat) (q83 : Nat) (q84 : Nat) (z87 : Nat) (q89 : Nat) (z92 : Nat) (z93 : Nat) (z94 : Nat) (q95 : Nat) (q101 : Nat) (q107 : Nat) (q116 : Nat) (q120 : Nat) (q124 : Nat) : Met l y_DM_sum ((Cond.code y_DM_sum prog_1_method_11_code 6 (some .int)) :: tw) ({ frames := 50, cells := 0, slots := 0, locals := 5000 }) (va_Pc [.ref h0, .int 2] (wP D cI cL B sz [(h0, .inr (0, [.ref q83, .ref q84, .ref q89, .ref q95, .ref q101, .ref q107, .ref q116, .ref q120, .ref q124])), (q89, .inr (2, [.int 1, .int 1, .ref z92, .ref z93, .ref z94, .ref q84, .ref z87])), (z92, .inl (cI, 1, .inl (fun _ => 0))), (z93, .inl (cI, 1, .inl (fun _ => 0))), (z94, .inl (cI, 1, .inl (fun _ => 0)))])) (va_Qi (S := Unit) (fun r u => r = 0) (fun u => wB D cI cL (va_A [(h0, .inr (0, [.ref q83, .ref q84, .ref q89, .ref q95, .ref q101, .ref q107, .ref q116, .ref q120, .ref q124])), (q89, .inr (2, [.int 1, .int 1, .ref z92, .ref z93, .ref z94, .ref q84, .ref z87])), (z92, .inl (cI, 1, .inl (fun _ => 0))), (z93, .inl (cI, 1, .inl (fun _ => 0))), (z94, .inl (cI, 1, .inl (fun _ => 0)))] sz) ((fun _ : Unit => []) u)) (va_A [(h0, .inr (0, [.ref q83, .ref q84, .ref q89, .ref q95, .ref q101, .ref q107, .ref q116, .ref q120, .ref q124])), (q89, .inr (2, [.int 1, .int 1, .ref z92, .ref z93, .ref z94, .ref q84, .ref z87])), (z92, .inl (cI, 1, .inl (fun _ => 0))), (z93, .inl (cI, 1, .inl (fun _ => 0))), (z94, .inl (cI, 1, .inl (fun _ => 0)))] sz)) 0 0 (va_A [(h0, .inr (0, [.ref q83, .ref q84, .ref q89, .ref q95, .ref q101, .ref q107, .ref q116, .ref q120, .ref q124])), (q89, .inr (2, [.int 1, .int 1, .ref z92, .ref z93, .ref z94, .ref q84, .ref z87])), (z92, .inl (cI, 1, .inl (fun _ => 0))), (z93, .inl (cI, 1, .inl (fun _ => 0))), (z94, .inl (cI, 1, .inl (fun _ => 0)))] sz) := by
  refine Met.ofW (cc := prog_1_method_11_code) (maxL := 6) (ret := (some .int)) (by decide) rfl ?_
  intro p e s m args below meth c s₁ B0 hml hv
  obtain ⟨rfl, hv⟩ := hv
  have hx := B0.exec
  have hb := B0.bytes
  have hr := B0.returns
  have hts := atoms_spec (ws := (Cond.code y_DM_sum prog_1_method_11_code 6 (some .int)) :: tw) B0.pre
  have htw : ∀ w ∈ tw, w.before _ s = true := fun w hw => hts w (List.mem_cons_of_mem _ hw)
  have hown : s.vm.findClass "DrawingMachine" = some m.cls := findClass_of_methodNamed B0.named
  have hlocks := B0.notSynchronized
  obtain ⟨hC, hP, hD, hsz⟩ := wC_init hv
  subst hsz
  generalize hAe : va_A [(h0, .inr (0, [.ref q83, .ref q84, .ref q89, .ref q95, .ref q101, .ref q107, .ref q116, .ref q120, .ref q124])), (q89, .inr (2, [.int 1, .int 1, .ref z92, .ref z93, .ref z94, .ref q84, .ref z87])), (z92, .inl (cI, 1, .inl (fun _ => 0))), (z93, .inl (cI, 1, .inl (fun _ => 0))), (z94, .inl (cI, 1, .inl (fun _ => 0)))] s.heap.size = A at hC hD ⊢
  have hS : va_S A s.heap s.heap [] := va_S.rf
  have hl := lv_entry ([.ref h0, .int 2]) (n := 6) (Nat.le_of_ble_eq_true rfl)
  rw [lg_entry_eq]
  generalize (lg_sl ([.ref h0, .int 2]) ++ List.replicate (6 - (lg_sl ([.ref h0, .int 2])).length) Slot.unset).toArray = ls at hl ⊢
  have hl : lv_has ls 6 [(0, .ref h0), (1, .int 2)] := hl
  refine lv_iload_n hx hb d_DM_sum_0 rfl (lv_at hl 1 rfl) ?_
  refine lv_if_lt (tgt := 9) hx hb d_DM_sum_1 (by decide) (fun c_245 => absurd c_245 (by decide)) (fun c_245 => ?_)
  refine lv_iload_n hx hb d_DM_sum_4 rfl (lv_at hl 1 rfl) ?_
  refine lv_iconst (v := 2) hx hb d_DM_sum_5 (by decide) ?_
  refine lv_icmp_le (tgt := 19) hx hb d_DM_sum_6 (by decide) (fun c_246 => ?_) (fun c_246 => absurd c_246 (by decide))
  refine lv_aload_n hx hb d_DM_sum_19 rfl (lv_at hl 0 rfl) ?_
  refine va_get (D := D) (ci := 0) (v := .ref q89) (C := R_DM) (T := F_DM) (N := 9) hx hb htw i_DM hown hC.1 hP 0 rfl rfl 2 (by decide) (htw _ k254) (fun _ h9 => h9) rfl d_DM_sum_20 ?_
  refine lv_iload_n hx hb d_DM_sum_23 rfl (lv_at hl 1 rfl) ?_
  refine wc_r (wr := [(h0, .inr (0, [.ref q83, .ref q84, .ref q89, .ref q95, .ref q101, .ref q107, .ref q116, .ref q120, .ref q124])), (z92, .inl (cI, 1, .inl (fun _ => 0))), (z93, .inl (cI, 1, .inl (fun _ => 0))), (z94, .inl (cI, 1, .inl (fun _ => 0)))]) hC hP hD hS [1] [0, 2, 3, 4] rfl rfl (by decide) (by decide) (va_runV (As := [.int 2]) (rest := []) ⟨hx, hb, hml, hown, htw⟩ (c_rowOf_2 l D cI cL B _ q84 z87 q89 z92 z93 z94) (cwV 1 htw gV_DM_179 rfl rfl rfl (by decide +kernel) ⟨Nat.le_of_ble_eq_true rfl, Nat.le_of_ble_eq_true rfl⟩) (wC_preV (As := [.int 2]) hC hP hD hS [1] (by decide) rfl (q0 := 1) rfl rfl) rfl rfl hl.1 rfl (lv_room (Nat.le_of_ble_eq_true rfl)) d_DM_sum_24 ⟨Nat.le_of_ble_eq_true rfl, Nat.le_of_ble_eq_true rfl⟩) (fun u247 H locs hw248 hP hD hS => ?_)
  have hP : va_P D classes [(h0, .inr (0, [.ref q83, .ref q84, .ref q89, .ref q95, .ref q101, .ref q107, .ref q116, .ref q120, .ref q124])), (z92, .inl (cI, 1, .inl (fun _ => 0))), (z93, .inl (cI, 1, .inl (fun _ => 0))), (z94, .inl (cI, 1, .inl (fun _ => 0))), (q89, .inr (2, [.int 1, .int 1, .ref z92, .ref z93, .ref z94, .ref q84, .ref z87]))] H := hP
  have hD : va_D A [(h0, .inr (0, [.ref q83, .ref q84, .ref q89, .ref q95, .ref q101, .ref q107, .ref q116, .ref q120, .ref q124])), (z92, .inl (cI, 1, .inl (fun _ => 0))), (z93, .inl (cI, 1, .inl (fun _ => 0))), (z94, .inl (cI, 1, .inl (fun _ => 0))), (q89, .inr (2, [.int 1, .int 1, .ref z92, .ref z93, .ref z94, .ref q84, .ref z87]))] := hD
  refine W.widen (k := 0) (n := 0) (by omega) (by omega) ?_
  refine lv_astore_n (lv' := [(2, .ref z94), (0, .ref h0), (1, .int 2)]) hx hb d_DM_sum_27 rfl hl (by decide) rfl (fun ls hl => ?_)
  refine lv_aload_n hx hb d_DM_sum_28 rfl (lv_at hl 1 rfl) ?_
  refine va_get (D := D) (ci := 0) (v := .ref q89) (C := R_DM) (T := F_DM) (N := 9) hx hb htw i_DM hown hC.1 hP 0 rfl rfl 2 (by decide) (htw _ k254) (fun _ h9 => h9) rfl d_DM_sum_29 ?_
  refine va_get (D := D) (ci := 2) (v := .int 1) (C := R_Pic) (T := F_Pic) (N := 7) hx hb htw i_Pic hown hC.1 hP 4 rfl rfl 0 (by decide) (htw _ k341) (fun _ h9 => h9) rfl d_DM_sum_32 ?_
  refine lv_aload_n hx hb d_DM_sum_35 rfl (lv_at hl 1 rfl) ?_
  refine va_get (D := D) (ci := 0) (v := .ref q89) (C := R_DM) (T := F_DM) (N := 9) hx hb htw i_DM hown hC.1 hP 0 rfl rfl 2 (by decide) (htw _ k254) (fun _ h9 => h9) rfl d_DM_sum_36 ?_
  refine va_get (D := D) (ci := 2) (v := .int 1) (C := R_Pic) (T := F_Pic) (N := 7) hx hb htw i_Pic hown hC.1 hP 4 rfl rfl 1 (by decide) (htw _ k342) (fun _ h9 => h9) rfl d_DM_sum_39 ?_
  refine lv_imul hx hb d_DM_sum_42 ?_
  refine wi_c (v := 1) (by decide) ?_
  refine lv_istore_n (lv' := [(3, .int 1), (2, .ref z94), (0, .ref h0), (1, .int 2)]) hx hb d_DM_sum_43 rfl hl (by decide) rfl (fun ls hl => ?_)
  refine lv_iconst (v := 0) hx hb d_DM_sum_44 (by decide) ?_
  refine lv_istore (lv' := [(4, .int 0), (3, .int 1), (2, .ref z94), (0, .ref h0), (1, .int 2)]) hx hb d_DM_sum_45 hl (by decide) rfl (fun ls hl => ?_)
  refine lv_iconst (v := 0) hx hb d_DM_sum_47 (by decide) ?_
  refine lv_istore (lv' := [(5, .int 0), (4, .int 0), (3, .int 1), (2, .ref z94), (0, .ref h0), (1, .int 2)]) hx hb d_DM_sum_48 hl (by decide) rfl (fun ls hl => ?_)
  refine lv_iload hx hb d_DM_sum_50 (lv_at hl 0 rfl) ?_
  refine lv_iload_n hx hb d_DM_sum_52 rfl (lv_at hl 2 rfl) ?_
  refine lv_icmp_ge (tgt := 74) hx hb d_DM_sum_53 (by decide) (fun c_249 => absurd c_249 (by decide)) (fun c_249 => ?_)
  refine lv_bipush (v := 31) hx hb d_DM_sum_56 (by decide) ?_
  refine lv_iload hx hb d_DM_sum_58 (lv_at hl 1 rfl) ?_
  refine lv_imul hx hb d_DM_sum_60 ?_
  refine wi_c (v := 0) (by decide) ?_
  refine lv_aload_n hx hb d_DM_sum_61 rfl (lv_at hl 3 rfl) ?_
  refine lv_iload hx hb d_DM_sum_62 (lv_at hl 0 rfl) ?_
  refine va_iald hx hb hC.1 hP 3 0 rfl rfl (by unfold vp_in; decide) d_DM_sum_64 ?_
  refine wi_c (v := 0) rfl ?_
  refine lv_iadd hx hb d_DM_sum_65 ?_
  refine wi_c (v := 0) (by decide) ?_
  refine lv_istore (lv' := [(4, .int 0), (5, .int 0), (3, .int 1), (2, .ref z94), (0, .ref h0), (1, .int 2)]) hx hb d_DM_sum_66 hl (by decide) rfl (fun ls hl => ?_)
  refine lv_iinc (v := 1) (lv' := [(5, .int 1), (4, .int 0), (3, .int 1), (2, .ref z94), (0, .ref h0), (1, .int 2)]) hx hb d_DM_sum_68 hl (k := 1) rfl (by decide) (by decide) rfl (fun ls hl => ?_)
  refine lv_goto (tgt := 50) hx hb d_DM_sum_71 (by decide) ?_
  refine lv_iload hx hb d_DM_sum_50 (lv_at hl 0 rfl) ?_
  refine lv_iload_n hx hb d_DM_sum_52 rfl (lv_at hl 2 rfl) ?_
  refine lv_icmp_ge (tgt := 74) hx hb d_DM_sum_53 (by decide) (fun c_250 => ?_) (fun c_250 => absurd c_250 (by decide))
  refine lv_iload hx hb d_DM_sum_74 (lv_at hl 1 rfl) ?_
  refine W.widen (k := 0) (n := 0) (Nat.le_of_ble_eq_true rfl) (Nat.le_of_ble_eq_true rfl) ?_
  have hP9 := hP.sub (ws' := []) [] rfl
  have hD9 := hD.sub (ws' := []) [] (by decide) rfl
  exact W.iret (v := 0) hx hb hr (fun t ht hW => ⟨⟨0, (), rfl, rfl, by rw [ht]; exact hP9, va_K.moved hW.alike hC.1, hD9⟩, hS.F ht⟩) hS.2.2 d_DM_sum_76

theorem d_DM_sum_9 : decode prog_1_method_11_code 9 = .ok (.new 74, 3) := by decide +kernel
theorem d_DM_sum_12 : decode prog_1_method_11_code 12 = .ok (.dup, 1) := by decide +kernel
theorem d_DM_sum_13 : decode prog_1_method_11_code 13 = .ok (.ldc 183, 2) := by decide +kernel
theorem d_DM_sum_15 : decode prog_1_method_11_code 15 = .ok (.invokespecial 78, 3) := by decide +kernel
theorem d_DM_sum_18 : decode prog_1_method_11_code 18 = .ok (.athrow, 1) := by decide +kernel
set_option maxHeartbeats 4000000 in
set_option maxRecDepth 100000 in
theorem c_sum_b (l : Launch) (hfl : l.stackTraces = false) (D : va_G) (cI cL : ClassId) (B sz : Nat) (h0 : Nat) (x : Int32) (hbd : x < 0 ∨ 2 < x) : tq_Met l y_DM_sum ((Cond.code y_DM_sum prog_1_method_11_code 6 (some .int)) :: tw) ({ frames := 50, cells := 1, slots := 6, locals := 5000 }) (va_Pc [.ref h0, .int x] (wP D cI cL B sz [])) (tq_Q "java/lang/IllegalArgumentException") 1 6 := by
  refine tq_ofW (cc := prog_1_method_11_code) (maxL := 6) (ret := (some .int)) (by decide) rfl ?_
  intro p e s m args below meth c s₁ B0 hml hv
  obtain ⟨rfl, hv⟩ := hv
  have hx := B0.exec
  have hb := B0.bytes
  have hr := B0.returns
  have hts := atoms_spec (ws := (Cond.code y_DM_sum prog_1_method_11_code 6 (some .int)) :: tw) B0.pre
  have htw : ∀ w ∈ tw, w.before _ s = true := fun w hw => hts w (List.mem_cons_of_mem _ hw)
  have hown : s.vm.findClass "DrawingMachine" = some m.cls := findClass_of_methodNamed B0.named
  have hlocks := B0.notSynchronized
  obtain ⟨hC, hP, hD, hsz⟩ := wC_init hv
  subst hsz
  generalize hAe : va_A [] s.heap.size = A at hC hD
  have hS : va_S A s.heap s.heap [] := va_S.rf
  have hl := lv_entry ([.ref h0, .int x]) (n := 6) (Nat.le_of_ble_eq_true rfl)
  rw [lg_entry_eq]
  generalize (lg_sl ([.ref h0, .int x]) ++ List.replicate (6 - (lg_sl ([.ref h0, .int x])).length) Slot.unset).toArray = ls at hl ⊢
  have hl : lv_has ls 6 [(0, .ref h0), (1, .int x)] := hl
  have htr : e.platform.stackTraces = false := by rw [(Stand.of_body B0).admits.platform]; exact hfl
  have hout : c.exceptionTable.isEmpty = true := BodyLoose.noHandlers B0 (hts _ List.mem_cons_self)
  have hA0 : ∀ q, A q → s.heap.size ≤ q := by
    intro q h
    rw [← hAe] at h
    rcases h with ⟨k, e, h⟩ | h
    · simp at h
    · exact h
  refine lv_iload_n hx hb d_DM_sum_0 rfl (lv_at hl 1 rfl) ?_
  refine lv_if_lt (tgt := 9) hx hb d_DM_sum_1 (by decide) (fun c_251 => ?_) (fun c_251 => ?_)
  ·
    exact tq_throwH hx hb htr hown (by decide) (by decide) (own_use htw hC own_IA) (htw _ k282) (htw _ k885) (hC.2.2.1.2.2.2.1 (183, "places have no such thing") (by decide)) (hml.trans hl.1.symm) hout hlocks d_DM_sum_9 d_DM_sum_12 d_DM_sum_13 d_DM_sum_15 d_DM_sum_18 (Nat.le_of_ble_eq_true rfl) (Nat.le_of_ble_eq_true rfl) (Nat.le_of_ble_eq_true rfl) (Nat.le_of_ble_eq_true rfl) hS.1 (fun q hq => hA0 _ (hS.2.2 q hq))
  ·
    refine lv_iload_n hx hb d_DM_sum_4 rfl (lv_at hl 1 rfl) ?_
    refine lv_iconst (v := 2) hx hb d_DM_sum_5 (by decide) ?_
    refine lv_icmp_le (tgt := 19) hx hb d_DM_sum_6 (by decide) (fun c_252 => absurd hbd (not_or.mpr ⟨c_251, Int32.not_lt.mpr c_252⟩)) (fun c_252 => ?_)
    exact tq_throwH hx hb htr hown (by decide) (by decide) (own_use htw hC own_IA) (htw _ k282) (htw _ k885) (hC.2.2.1.2.2.2.1 (183, "places have no such thing") (by decide)) (hml.trans hl.1.symm) hout hlocks d_DM_sum_9 d_DM_sum_12 d_DM_sum_13 d_DM_sum_15 d_DM_sum_18 (Nat.le_of_ble_eq_true rfl) (Nat.le_of_ble_eq_true rfl) (Nat.le_of_ble_eq_true rfl) (Nat.le_of_ble_eq_true rfl) hS.1 (fun q hq => hA0 _ (hS.2.2 q hq))

theorem d_DM_query_0 : decode prog_1_method_12_code 0 = .ok (.iload_n 1, 1) := by decide +kernel
theorem d_DM_query_1 : decode prog_1_method_12_code 1 = .ok (.ifCond .lt 9, 3) := by decide +kernel
theorem d_DM_query_4 : decode prog_1_method_12_code 4 = .ok (.iload_n 1, 1) := by decide +kernel
theorem d_DM_query_5 : decode prog_1_method_12_code 5 = .ok (.bipush 8, 2) := by decide +kernel
theorem d_DM_query_7 : decode prog_1_method_12_code 7 = .ok (.if_icmp .lt 13, 3) := by decide +kernel
theorem d_DM_query_20 : decode prog_1_method_12_code 20 = .ok (.aload_n 0, 1) := by decide +kernel
theorem d_DM_query_21 : decode prog_1_method_12_code 21 = .ok (.getfield 50, 3) := by decide +kernel
theorem d_DM_query_24 : decode prog_1_method_12_code 24 = .ok (.getfield 187, 3) := by decide +kernel
theorem d_DM_query_27 : decode prog_1_method_12_code 27 = .ok (.iload_n 1, 1) := by decide +kernel
theorem d_DM_query_28 : decode prog_1_method_12_code 28 = .ok (.iaload, 1) := by decide +kernel
theorem d_DM_query_29 : decode prog_1_method_12_code 29 = .ok (.ireturn, 1) := by decide +kernel
set_option maxHeartbeats 4000000 in
set_option maxRecDepth 100000 in
theorem c_query_g (l : Launch) (D : va_G) (cI cL : ClassId) (B sz : Nat) (h0 : Nat) (q83 : Nat) (q84 : Nat) (z87 : Nat) (q89 : Nat) (q95 : Nat) (q101 : Nat) (q107 : Nat) (z110 : Nat) (z111 : Nat) (z112 : Nat) (z113 : Nat) (z114 : Nat) (z115 : Nat) (q116 : Nat) (q120 : Nat) (q124 : Nat) (j : Nat) (hj : j < 8) : Met l y_DM_query ((Cond.code y_DM_query prog_1_method_12_code 2 (some .int)) :: tw) ({ frames := 50, cells := 0, slots := 0, locals := 5000 }) (va_Pc [.ref h0, .int (nI j)] (wP D cI cL B sz [(h0, .inr (0, [.ref q83, .ref q84, .ref q89, .ref q95, .ref q101, .ref q107, .ref q116, .ref q120, .ref q124])), (q107, .inr (5, [.ref z110, .ref z111, .int (-1), .ref z87, .ref q89, .ref z112, .ref z113, .ref z114, .ref z115])), (z111, .inl (cI, 8, .inl (fun _ => 0)))])) (va_Qi (S := Unit) (fun r u => r = 0) (fun u => wB D cI cL (va_A [(h0, .inr (0, [.ref q83, .ref q84, .ref q89, .ref q95, .ref q101, .ref q107, .ref q116, .ref q120, .ref q124])), (q107, .inr (5, [.ref z110, .ref z111, .int (-1), .ref z87, .ref q89, .ref z112, .ref z113, .ref z114, .ref z115])), (z111, .inl (cI, 8, .inl (fun _ => 0)))] sz) ((fun _ : Unit => []) u)) (va_A [(h0, .inr (0, [.ref q83, .ref q84, .ref q89, .ref q95, .ref q101, .ref q107, .ref q116, .ref q120, .ref q124])), (q107, .inr (5, [.ref z110, .ref z111, .int (-1), .ref z87, .ref q89, .ref z112, .ref z113, .ref z114, .ref z115])), (z111, .inl (cI, 8, .inl (fun _ => 0)))] sz)) 0 0 (va_A [(h0, .inr (0, [.ref q83, .ref q84, .ref q89, .ref q95, .ref q101, .ref q107, .ref q116, .ref q120, .ref q124])), (q107, .inr (5, [.ref z110, .ref z111, .int (-1), .ref z87, .ref q89, .ref z112, .ref z113, .ref z114, .ref z115])), (z111, .inl (cI, 8, .inl (fun _ => 0)))] sz) := by
  refine Met.ofW (cc := prog_1_method_12_code) (maxL := 2) (ret := (some .int)) (by decide) rfl ?_
  intro p e s m args below meth c s₁ B0 hml hv
  obtain ⟨rfl, hv⟩ := hv
  have hx := B0.exec
  have hb := B0.bytes
  have hr := B0.returns
  have hts := atoms_spec (ws := (Cond.code y_DM_query prog_1_method_12_code 2 (some .int)) :: tw) B0.pre
  have htw : ∀ w ∈ tw, w.before _ s = true := fun w hw => hts w (List.mem_cons_of_mem _ hw)
  have hown : s.vm.findClass "DrawingMachine" = some m.cls := findClass_of_methodNamed B0.named
  have hlocks := B0.notSynchronized
  obtain ⟨hC, hP, hD, hsz⟩ := wC_init hv
  subst hsz
  generalize hAe : va_A [(h0, .inr (0, [.ref q83, .ref q84, .ref q89, .ref q95, .ref q101, .ref q107, .ref q116, .ref q120, .ref q124])), (q107, .inr (5, [.ref z110, .ref z111, .int (-1), .ref z87, .ref q89, .ref z112, .ref z113, .ref z114, .ref z115])), (z111, .inl (cI, 8, .inl (fun _ => 0)))] s.heap.size = A at hC hD ⊢
  have hS : va_S A s.heap s.heap [] := va_S.rf
  have hl := lv_entry ([.ref h0, .int (nI j)]) (n := 2) (Nat.le_of_ble_eq_true rfl)
  rw [lg_entry_eq]
  generalize (lg_sl ([.ref h0, .int (nI j)]) ++ List.replicate (2 - (lg_sl ([.ref h0, .int (nI j)])).length) Slot.unset).toArray = ls at hl ⊢
  have hl : lv_has ls 2 [(0, .ref h0), (1, .int (nI j))] := hl
  refine lv_iload_n hx hb d_DM_query_0 rfl (lv_at hl 1 rfl) ?_
  refine lv_if_lt (tgt := 10) hx hb d_DM_query_1 (by decide) (fun c_253 => absurd c_253 (nI_pos (by omega))) (fun c_253 => ?_)
  refine lv_iload_n hx hb d_DM_query_4 rfl (lv_at hl 1 rfl) ?_
  refine lv_bipush (v := 8) hx hb d_DM_query_5 (by decide) ?_
  refine lv_icmp_lt (tgt := 20) hx hb d_DM_query_7 (by decide) (fun c_254 => ?_) (fun c_254 => absurd (nI_lt (a := j) (b := 8) (by omega) (by omega)) c_254)
  refine lv_aload_n hx hb d_DM_query_20 rfl (lv_at hl 0 rfl) ?_
  refine va_get (D := D) (ci := 0) (v := .ref q107) (C := R_DM) (T := F_DM) (N := 9) hx hb htw i_DM hown hC.1 hP 0 rfl rfl 5 (by decide) (htw _ k268) (fun _ h9 => h9) rfl d_DM_query_21 ?_
  refine va_get (D := D) (ci := 5) (v := .ref z111) (C := R_Drw) (T := F_Drw) (N := 9) hx hb htw i_Drw hown hC.1 hP 1 rfl rfl 1 (by decide) (htw _ k349) (fun _ h9 => h9) rfl d_DM_query_24 ?_
  refine lv_iload_n hx hb d_DM_query_27 rfl (lv_at hl 1 rfl) ?_
  refine va_iald hx hb hC.1 hP 2 0 rfl rfl (vp_in_nI (by omega) (by omega)) d_DM_query_28 ?_
  refine wi_c (v := 0) rfl ?_
  refine W.widen (k := 0) (n := 0) (Nat.le_of_ble_eq_true rfl) (Nat.le_of_ble_eq_true rfl) ?_
  have hP9 := hP.sub (ws' := []) [] rfl
  have hD9 := hD.sub (ws' := []) [] (by decide) rfl
  exact W.iret (v := 0) hx hb hr (fun t ht hW => ⟨⟨0, (), rfl, rfl, by rw [ht]; exact hP9, va_K.moved hW.alike hC.1, hD9⟩, hS.F ht⟩) hS.2.2 d_DM_query_29

theorem d_DM_query_10 : decode prog_1_method_12_code 10 = .ok (.new 74, 3) := by decide +kernel
theorem d_DM_query_13 : decode prog_1_method_12_code 13 = .ok (.dup, 1) := by decide +kernel
theorem d_DM_query_14 : decode prog_1_method_12_code 14 = .ok (.ldc 185, 2) := by decide +kernel
theorem d_DM_query_16 : decode prog_1_method_12_code 16 = .ok (.invokespecial 78, 3) := by decide +kernel
theorem d_DM_query_19 : decode prog_1_method_12_code 19 = .ok (.athrow, 1) := by decide +kernel
set_option maxHeartbeats 4000000 in
set_option maxRecDepth 100000 in
theorem c_query_b (l : Launch) (hfl : l.stackTraces = false) (D : va_G) (cI cL : ClassId) (B sz : Nat) (h0 : Nat) (x : Int32) (hbd : x < 0 ∨ 8 ≤ x) : tq_Met l y_DM_query ((Cond.code y_DM_query prog_1_method_12_code 2 (some .int)) :: tw) ({ frames := 50, cells := 1, slots := 6, locals := 5000 }) (va_Pc [.ref h0, .int x] (wP D cI cL B sz [])) (tq_Q "java/lang/IllegalArgumentException") 1 6 := by
  refine tq_ofW (cc := prog_1_method_12_code) (maxL := 2) (ret := (some .int)) (by decide) rfl ?_
  intro p e s m args below meth c s₁ B0 hml hv
  obtain ⟨rfl, hv⟩ := hv
  have hx := B0.exec
  have hb := B0.bytes
  have hr := B0.returns
  have hts := atoms_spec (ws := (Cond.code y_DM_query prog_1_method_12_code 2 (some .int)) :: tw) B0.pre
  have htw : ∀ w ∈ tw, w.before _ s = true := fun w hw => hts w (List.mem_cons_of_mem _ hw)
  have hown : s.vm.findClass "DrawingMachine" = some m.cls := findClass_of_methodNamed B0.named
  have hlocks := B0.notSynchronized
  obtain ⟨hC, hP, hD, hsz⟩ := wC_init hv
  subst hsz
  generalize hAe : va_A [] s.heap.size = A at hC hD
  have hS : va_S A s.heap s.heap [] := va_S.rf
  have hl := lv_entry ([.ref h0, .int x]) (n := 2) (Nat.le_of_ble_eq_true rfl)
  rw [lg_entry_eq]
  generalize (lg_sl ([.ref h0, .int x]) ++ List.replicate (2 - (lg_sl ([.ref h0, .int x])).length) Slot.unset).toArray = ls at hl ⊢
  have hl : lv_has ls 2 [(0, .ref h0), (1, .int x)] := hl
  have htr : e.platform.stackTraces = false := by rw [(Stand.of_body B0).admits.platform]; exact hfl
  have hout : c.exceptionTable.isEmpty = true := BodyLoose.noHandlers B0 (hts _ List.mem_cons_self)
  have hA0 : ∀ q, A q → s.heap.size ≤ q := by
    intro q h
    rw [← hAe] at h
    rcases h with ⟨k, e, h⟩ | h
    · simp at h
    · exact h
  refine lv_iload_n hx hb d_DM_query_0 rfl (lv_at hl 1 rfl) ?_
  refine lv_if_lt (tgt := 10) hx hb d_DM_query_1 (by decide) (fun c_255 => ?_) (fun c_255 => ?_)
  ·
    exact tq_throwH hx hb htr hown (by decide) (by decide) (own_use htw hC own_IA) (htw _ k282) (htw _ k885) (hC.2.2.1.2.2.2.1 (185, "no such query") (by decide)) (hml.trans hl.1.symm) hout hlocks d_DM_query_10 d_DM_query_13 d_DM_query_14 d_DM_query_16 d_DM_query_19 (Nat.le_of_ble_eq_true rfl) (Nat.le_of_ble_eq_true rfl) (Nat.le_of_ble_eq_true rfl) (Nat.le_of_ble_eq_true rfl) hS.1 (fun q hq => hA0 _ (hS.2.2 q hq))
  ·
    refine lv_iload_n hx hb d_DM_query_4 rfl (lv_at hl 1 rfl) ?_
    refine lv_bipush (v := 8) hx hb d_DM_query_5 (by decide) ?_
    refine lv_icmp_lt (tgt := 20) hx hb d_DM_query_7 (by decide) (fun c_256 => absurd hbd (not_or.mpr ⟨c_255, Int32.not_le.mpr c_256⟩)) (fun c_256 => ?_)
    exact tq_throwH hx hb htr hown (by decide) (by decide) (own_use htw hC own_IA) (htw _ k282) (htw _ k885) (hC.2.2.1.2.2.2.1 (185, "no such query") (by decide)) (hml.trans hl.1.symm) hout hlocks d_DM_query_10 d_DM_query_13 d_DM_query_14 d_DM_query_16 d_DM_query_19 (Nat.le_of_ble_eq_true rfl) (Nat.le_of_ble_eq_true rfl) (Nat.le_of_ble_eq_true rfl) (Nat.le_of_ble_eq_true rfl) hS.1 (fun q hq => hA0 _ (hS.2.2 q hq))

theorem d_DM_count_0 : decode prog_1_method_13_code 0 = .ok (.iload_n 1, 1) := by decide +kernel
theorem d_DM_count_1 : decode prog_1_method_13_code 1 = .ok (.ifCond .lt 9, 3) := by decide +kernel
theorem d_DM_count_4 : decode prog_1_method_13_code 4 = .ok (.iload_n 1, 1) := by decide +kernel
theorem d_DM_count_5 : decode prog_1_method_13_code 5 = .ok (.bipush 9, 2) := by decide +kernel
theorem d_DM_count_7 : decode prog_1_method_13_code 7 = .ok (.if_icmp .lt 13, 3) := by decide +kernel
theorem d_DM_count_20 : decode prog_1_method_13_code 20 = .ok (.aload_n 0, 1) := by decide +kernel
theorem d_DM_count_21 : decode prog_1_method_13_code 21 = .ok (.getfield 50, 3) := by decide +kernel
theorem d_DM_count_24 : decode prog_1_method_13_code 24 = .ok (.getfield 192, 3) := by decide +kernel
theorem d_DM_count_27 : decode prog_1_method_13_code 27 = .ok (.iload_n 1, 1) := by decide +kernel
theorem d_DM_count_28 : decode prog_1_method_13_code 28 = .ok (.iaload, 1) := by decide +kernel
theorem d_DM_count_29 : decode prog_1_method_13_code 29 = .ok (.ireturn, 1) := by decide +kernel
set_option maxHeartbeats 4000000 in
set_option maxRecDepth 100000 in
theorem c_count_g (l : Launch) (D : va_G) (cI cL : ClassId) (B sz : Nat) (h0 : Nat) (q83 : Nat) (q84 : Nat) (z87 : Nat) (q89 : Nat) (q95 : Nat) (q101 : Nat) (q107 : Nat) (z110 : Nat) (z111 : Nat) (z112 : Nat) (z113 : Nat) (z114 : Nat) (z115 : Nat) (q116 : Nat) (q120 : Nat) (q124 : Nat) (j : Nat) (hj : j < 9) : Met l y_DM_count ((Cond.code y_DM_count prog_1_method_13_code 2 (some .int)) :: tw) ({ frames := 50, cells := 0, slots := 0, locals := 5000 }) (va_Pc [.ref h0, .int (nI j)] (wP D cI cL B sz [(h0, .inr (0, [.ref q83, .ref q84, .ref q89, .ref q95, .ref q101, .ref q107, .ref q116, .ref q120, .ref q124])), (q107, .inr (5, [.ref z110, .ref z111, .int (-1), .ref z87, .ref q89, .ref z112, .ref z113, .ref z114, .ref z115])), (z110, .inl (cI, 9, .inl (fun _ => 0)))])) (va_Qi (S := Unit) (fun r u => r = 0) (fun u => wB D cI cL (va_A [(h0, .inr (0, [.ref q83, .ref q84, .ref q89, .ref q95, .ref q101, .ref q107, .ref q116, .ref q120, .ref q124])), (q107, .inr (5, [.ref z110, .ref z111, .int (-1), .ref z87, .ref q89, .ref z112, .ref z113, .ref z114, .ref z115])), (z110, .inl (cI, 9, .inl (fun _ => 0)))] sz) ((fun _ : Unit => []) u)) (va_A [(h0, .inr (0, [.ref q83, .ref q84, .ref q89, .ref q95, .ref q101, .ref q107, .ref q116, .ref q120, .ref q124])), (q107, .inr (5, [.ref z110, .ref z111, .int (-1), .ref z87, .ref q89, .ref z112, .ref z113, .ref z114, .ref z115])), (z110, .inl (cI, 9, .inl (fun _ => 0)))] sz)) 0 0 (va_A [(h0, .inr (0, [.ref q83, .ref q84, .ref q89, .ref q95, .ref q101, .ref q107, .ref q116, .ref q120, .ref q124])), (q107, .inr (5, [.ref z110, .ref z111, .int (-1), .ref z87, .ref q89, .ref z112, .ref z113, .ref z114, .ref z115])), (z110, .inl (cI, 9, .inl (fun _ => 0)))] sz) := by
  refine Met.ofW (cc := prog_1_method_13_code) (maxL := 2) (ret := (some .int)) (by decide) rfl ?_
  intro p e s m args below meth c s₁ B0 hml hv
  obtain ⟨rfl, hv⟩ := hv
  have hx := B0.exec
  have hb := B0.bytes
  have hr := B0.returns
  have hts := atoms_spec (ws := (Cond.code y_DM_count prog_1_method_13_code 2 (some .int)) :: tw) B0.pre
  have htw : ∀ w ∈ tw, w.before _ s = true := fun w hw => hts w (List.mem_cons_of_mem _ hw)
  have hown : s.vm.findClass "DrawingMachine" = some m.cls := findClass_of_methodNamed B0.named
  have hlocks := B0.notSynchronized
  obtain ⟨hC, hP, hD, hsz⟩ := wC_init hv
  subst hsz
  generalize hAe : va_A [(h0, .inr (0, [.ref q83, .ref q84, .ref q89, .ref q95, .ref q101, .ref q107, .ref q116, .ref q120, .ref q124])), (q107, .inr (5, [.ref z110, .ref z111, .int (-1), .ref z87, .ref q89, .ref z112, .ref z113, .ref z114, .ref z115])), (z110, .inl (cI, 9, .inl (fun _ => 0)))] s.heap.size = A at hC hD ⊢
  have hS : va_S A s.heap s.heap [] := va_S.rf
  have hl := lv_entry ([.ref h0, .int (nI j)]) (n := 2) (Nat.le_of_ble_eq_true rfl)
  rw [lg_entry_eq]
  generalize (lg_sl ([.ref h0, .int (nI j)]) ++ List.replicate (2 - (lg_sl ([.ref h0, .int (nI j)])).length) Slot.unset).toArray = ls at hl ⊢
  have hl : lv_has ls 2 [(0, .ref h0), (1, .int (nI j))] := hl
  refine lv_iload_n hx hb d_DM_count_0 rfl (lv_at hl 1 rfl) ?_
  refine lv_if_lt (tgt := 10) hx hb d_DM_count_1 (by decide) (fun c_257 => absurd c_257 (nI_pos (by omega))) (fun c_257 => ?_)
  refine lv_iload_n hx hb d_DM_count_4 rfl (lv_at hl 1 rfl) ?_
  refine lv_bipush (v := 9) hx hb d_DM_count_5 (by decide) ?_
  refine lv_icmp_lt (tgt := 20) hx hb d_DM_count_7 (by decide) (fun c_258 => ?_) (fun c_258 => absurd (nI_lt (a := j) (b := 9) (by omega) (by omega)) c_258)
  refine lv_aload_n hx hb d_DM_count_20 rfl (lv_at hl 0 rfl) ?_
  refine va_get (D := D) (ci := 0) (v := .ref q107) (C := R_DM) (T := F_DM) (N := 9) hx hb htw i_DM hown hC.1 hP 0 rfl rfl 5 (by decide) (htw _ k268) (fun _ h9 => h9) rfl d_DM_count_21 ?_
  refine va_get (D := D) (ci := 5) (v := .ref z110) (C := R_Drw) (T := F_Drw) (N := 9) hx hb htw i_Drw hown hC.1 hP 1 rfl rfl 0 (by decide) (htw _ k351) (fun _ h9 => h9) rfl d_DM_count_24 ?_
  refine lv_iload_n hx hb d_DM_count_27 rfl (lv_at hl 1 rfl) ?_
  refine va_iald hx hb hC.1 hP 2 0 rfl rfl (vp_in_nI (by omega) (by omega)) d_DM_count_28 ?_
  refine wi_c (v := 0) rfl ?_
  refine W.widen (k := 0) (n := 0) (Nat.le_of_ble_eq_true rfl) (Nat.le_of_ble_eq_true rfl) ?_
  have hP9 := hP.sub (ws' := []) [] rfl
  have hD9 := hD.sub (ws' := []) [] (by decide) rfl
  exact W.iret (v := 0) hx hb hr (fun t ht hW => ⟨⟨0, (), rfl, rfl, by rw [ht]; exact hP9, va_K.moved hW.alike hC.1, hD9⟩, hS.F ht⟩) hS.2.2 d_DM_count_29

theorem d_DM_count_10 : decode prog_1_method_13_code 10 = .ok (.new 74, 3) := by decide +kernel
theorem d_DM_count_13 : decode prog_1_method_13_code 13 = .ok (.dup, 1) := by decide +kernel
theorem d_DM_count_14 : decode prog_1_method_13_code 14 = .ok (.ldc 190, 2) := by decide +kernel
theorem d_DM_count_16 : decode prog_1_method_13_code 16 = .ok (.invokespecial 78, 3) := by decide +kernel
theorem d_DM_count_19 : decode prog_1_method_13_code 19 = .ok (.athrow, 1) := by decide +kernel
set_option maxHeartbeats 4000000 in
set_option maxRecDepth 100000 in
theorem c_count_b (l : Launch) (hfl : l.stackTraces = false) (D : va_G) (cI cL : ClassId) (B sz : Nat) (h0 : Nat) (x : Int32) (hbd : x < 0 ∨ 9 ≤ x) : tq_Met l y_DM_count ((Cond.code y_DM_count prog_1_method_13_code 2 (some .int)) :: tw) ({ frames := 50, cells := 1, slots := 6, locals := 5000 }) (va_Pc [.ref h0, .int x] (wP D cI cL B sz [])) (tq_Q "java/lang/IllegalArgumentException") 1 6 := by
  refine tq_ofW (cc := prog_1_method_13_code) (maxL := 2) (ret := (some .int)) (by decide) rfl ?_
  intro p e s m args below meth c s₁ B0 hml hv
  obtain ⟨rfl, hv⟩ := hv
  have hx := B0.exec
  have hb := B0.bytes
  have hr := B0.returns
  have hts := atoms_spec (ws := (Cond.code y_DM_count prog_1_method_13_code 2 (some .int)) :: tw) B0.pre
  have htw : ∀ w ∈ tw, w.before _ s = true := fun w hw => hts w (List.mem_cons_of_mem _ hw)
  have hown : s.vm.findClass "DrawingMachine" = some m.cls := findClass_of_methodNamed B0.named
  have hlocks := B0.notSynchronized
  obtain ⟨hC, hP, hD, hsz⟩ := wC_init hv
  subst hsz
  generalize hAe : va_A [] s.heap.size = A at hC hD
  have hS : va_S A s.heap s.heap [] := va_S.rf
  have hl := lv_entry ([.ref h0, .int x]) (n := 2) (Nat.le_of_ble_eq_true rfl)
  rw [lg_entry_eq]
  generalize (lg_sl ([.ref h0, .int x]) ++ List.replicate (2 - (lg_sl ([.ref h0, .int x])).length) Slot.unset).toArray = ls at hl ⊢
  have hl : lv_has ls 2 [(0, .ref h0), (1, .int x)] := hl
  have htr : e.platform.stackTraces = false := by rw [(Stand.of_body B0).admits.platform]; exact hfl
  have hout : c.exceptionTable.isEmpty = true := BodyLoose.noHandlers B0 (hts _ List.mem_cons_self)
  have hA0 : ∀ q, A q → s.heap.size ≤ q := by
    intro q h
    rw [← hAe] at h
    rcases h with ⟨k, e, h⟩ | h
    · simp at h
    · exact h
  refine lv_iload_n hx hb d_DM_count_0 rfl (lv_at hl 1 rfl) ?_
  refine lv_if_lt (tgt := 10) hx hb d_DM_count_1 (by decide) (fun c_259 => ?_) (fun c_259 => ?_)
  ·
    exact tq_throwH hx hb htr hown (by decide) (by decide) (own_use htw hC own_IA) (htw _ k282) (htw _ k885) (hC.2.2.1.2.2.2.1 (190, "that is not counted") (by decide)) (hml.trans hl.1.symm) hout hlocks d_DM_count_10 d_DM_count_13 d_DM_count_14 d_DM_count_16 d_DM_count_19 (Nat.le_of_ble_eq_true rfl) (Nat.le_of_ble_eq_true rfl) (Nat.le_of_ble_eq_true rfl) (Nat.le_of_ble_eq_true rfl) hS.1 (fun q hq => hA0 _ (hS.2.2 q hq))
  ·
    refine lv_iload_n hx hb d_DM_count_4 rfl (lv_at hl 1 rfl) ?_
    refine lv_bipush (v := 9) hx hb d_DM_count_5 (by decide) ?_
    refine lv_icmp_lt (tgt := 20) hx hb d_DM_count_7 (by decide) (fun c_260 => absurd hbd (not_or.mpr ⟨c_259, Int32.not_le.mpr c_260⟩)) (fun c_260 => ?_)
    exact tq_throwH hx hb htr hown (by decide) (by decide) (own_use htw hC own_IA) (htw _ k282) (htw _ k885) (hC.2.2.1.2.2.2.1 (190, "that is not counted") (by decide)) (hml.trans hl.1.symm) hout hlocks d_DM_count_10 d_DM_count_13 d_DM_count_14 d_DM_count_16 d_DM_count_19 (Nat.le_of_ble_eq_true rfl) (Nat.le_of_ble_eq_true rfl) (Nat.le_of_ble_eq_true rfl) (Nat.le_of_ble_eq_true rfl) hS.1 (fun q hq => hA0 _ (hS.2.2 q hq))
