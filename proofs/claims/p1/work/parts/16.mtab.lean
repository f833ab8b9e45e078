theorem d_Cmd_many_0 : decode prog_15_method_10_code 0 = .ok (.iload_n 0, 1) := by decide +kernel
theorem d_Cmd_many_1 : decode prog_15_method_10_code 1 = .ok (.tableswitch 123 2 25 #[121, 121, 111, 114, 123, 121, 121, 117, 121, 119, 121, 121, 121, 121, 121, 123, 123, 123, 123, 123, 123, 123, 117, 117], 111) := by decide +kernel
theorem d_Cmd_many_124 : decode prog_15_method_10_code 124 = .ok (.iconst 0, 1) := by decide +kernel
theorem d_Cmd_many_125 : decode prog_15_method_10_code 125 = .ok (.ireturn, 1) := by decide +kernel
set_option maxHeartbeats 4000000 in
set_option maxRecDepth 100000 in
theorem c_many_0 (l : Launch) (D : va_G) (cI cL : ClassId) (B sz : Nat) : Met l y_Cmd_many ((Cond.code y_Cmd_many prog_15_method_10_code 1 (some .int)) :: tw) ({ frames := 20, cells := 0, slots := 0, locals := 2000 }) (va_Pc [.int 0] (wP D cI cL B sz [])) (va_Qi (S := Unit) (fun r u => r = 0) (fun u => wB D cI cL (va_A [] sz) ((fun _ : Unit => []) u)) (va_A [] sz)) 0 0 (va_A [] sz) := by
  refine Met.ofW (cc := prog_15_method_10_code) (maxL := 1) (ret := (some .int)) (by decide) rfl ?_
  intro p e s m args below meth c s₁ B0 hml hv
  obtain ⟨rfl, hv⟩ := hv
  have hx := B0.exec
  have hb := B0.bytes
  have hr := B0.returns
  have hts := atoms_spec (ws := (Cond.code y_Cmd_many prog_15_method_10_code 1 (some .int)) :: tw) B0.pre
  have htw : ∀ w ∈ tw, w.before _ s = true := fun w hw => hts w (List.mem_cons_of_mem _ hw)
  have hown : s.vm.findClass "DrawingMachineModel$DrawCommandsModel" = some m.cls := findClass_of_methodNamed B0.named
  have hlocks := B0.notSynchronized
  obtain ⟨hC, hP, hD, hsz⟩ := wC_init hv
  subst hsz
  generalize hAe : va_A [] s.heap.size = A at hC hD ⊢
  have hS : va_S A s.heap s.heap [] := va_S.rf
  have hl := lv_entry ([.int 0]) (n := 1) (Nat.le_of_ble_eq_true rfl)
  rw [lg_entry_eq]
  generalize (lg_sl ([.int 0]) ++ List.replicate (1 - (lg_sl ([.int 0])).length) Slot.unset).toArray = ls at hl ⊢
  have hl : lv_has ls 1 [(0, .int 0)] := hl
  refine lv_iload_n hx hb d_Cmd_many_0 rfl (lv_at hl 0 rfl) ?_
  refine lv_tableOut (tgt := 124) hx hb d_Cmd_many_1 (by decide) (by decide) ?_
  refine lv_iconst (v := 0) hx hb d_Cmd_many_124 (by decide) ?_
  refine W.widen (k := 0) (n := 0) (Nat.le_of_ble_eq_true rfl) (Nat.le_of_ble_eq_true rfl) ?_
  have hP9 := hP.sub (ws' := []) [] rfl
  have hD9 := hD.sub (ws' := []) [] (by decide) rfl
  exact W.iret (v := 0) hx hb hr (fun t ht hW => ⟨⟨0, (), rfl, rfl, by rw [ht]; exact hP9, va_K.moved hW.alike hC.1, hD9⟩, hS.F ht⟩) hS.2.2 d_Cmd_many_125

set_option maxHeartbeats 4000000 in
set_option maxRecDepth 100000 in
theorem c_many_1 (l : Launch) (D : va_G) (cI cL : ClassId) (B sz : Nat) : Met l y_Cmd_many ((Cond.code y_Cmd_many prog_15_method_10_code 1 (some .int)) :: tw) ({ frames := 20, cells := 0, slots := 0, locals := 2000 }) (va_Pc [.int 1] (wP D cI cL B sz [])) (va_Qi (S := Unit) (fun r u => r = 0) (fun u => wB D cI cL (va_A [] sz) ((fun _ : Unit => []) u)) (va_A [] sz)) 0 0 (va_A [] sz) := by
  refine Met.ofW (cc := prog_15_method_10_code) (maxL := 1) (ret := (some .int)) (by decide) rfl ?_
  intro p e s m args below meth c s₁ B0 hml hv
  obtain ⟨rfl, hv⟩ := hv
  have hx := B0.exec
  have hb := B0.bytes
  have hr := B0.returns
  have hts := atoms_spec (ws := (Cond.code y_Cmd_many prog_15_method_10_code 1 (some .int)) :: tw) B0.pre
  have htw : ∀ w ∈ tw, w.before _ s = true := fun w hw => hts w (List.mem_cons_of_mem _ hw)
  have hown : s.vm.findClass "DrawingMachineModel$DrawCommandsModel" = some m.cls := findClass_of_methodNamed B0.named
  have hlocks := B0.notSynchronized
  obtain ⟨hC, hP, hD, hsz⟩ := wC_init hv
  subst hsz
  generalize hAe : va_A [] s.heap.size = A at hC hD ⊢
  have hS : va_S A s.heap s.heap [] := va_S.rf
  have hl := lv_entry ([.int 1]) (n := 1) (Nat.le_of_ble_eq_true rfl)
  rw [lg_entry_eq]
  generalize (lg_sl ([.int 1]) ++ List.replicate (1 - (lg_sl ([.int 1])).length) Slot.unset).toArray = ls at hl ⊢
  have hl : lv_has ls 1 [(0, .int 1)] := hl
  refine lv_iload_n hx hb d_Cmd_many_0 rfl (lv_at hl 0 rfl) ?_
  refine lv_tableOut (tgt := 124) hx hb d_Cmd_many_1 (by decide) (by decide) ?_
  refine lv_iconst (v := 0) hx hb d_Cmd_many_124 (by decide) ?_
  refine W.widen (k := 0) (n := 0) (Nat.le_of_ble_eq_true rfl) (Nat.le_of_ble_eq_true rfl) ?_
  have hP9 := hP.sub (ws' := []) [] rfl
  have hD9 := hD.sub (ws' := []) [] (by decide) rfl
  exact W.iret (v := 0) hx hb hr (fun t ht hW => ⟨⟨0, (), rfl, rfl, by rw [ht]; exact hP9, va_K.moved hW.alike hC.1, hD9⟩, hS.F ht⟩) hS.2.2 d_Cmd_many_125

theorem d_Cmd_many_122 : decode prog_15_method_10_code 122 = .ok (.iconst 1, 1) := by decide +kernel
theorem d_Cmd_many_123 : decode prog_15_method_10_code 123 = .ok (.ireturn, 1) := by decide +kernel
set_option maxHeartbeats 4000000 in
set_option maxRecDepth 100000 in
theorem c_many_2 (l : Launch) (D : va_G) (cI cL : ClassId) (B sz : Nat) : Met l y_Cmd_many ((Cond.code y_Cmd_many prog_15_method_10_code 1 (some .int)) :: tw) ({ frames := 20, cells := 0, slots := 0, locals := 2000 }) (va_Pc [.int 2] (wP D cI cL B sz [])) (va_Qi (S := Unit) (fun r u => r = 1) (fun u => wB D cI cL (va_A [] sz) ((fun _ : Unit => []) u)) (va_A [] sz)) 0 0 (va_A [] sz) := by
  refine Met.ofW (cc := prog_15_method_10_code) (maxL := 1) (ret := (some .int)) (by decide) rfl ?_
  intro p e s m args below meth c s₁ B0 hml hv
  obtain ⟨rfl, hv⟩ := hv
  have hx := B0.exec
  have hb := B0.bytes
  have hr := B0.returns
  have hts := atoms_spec (ws := (Cond.code y_Cmd_many prog_15_method_10_code 1 (some .int)) :: tw) B0.pre
  have htw : ∀ w ∈ tw, w.before _ s = true := fun w hw => hts w (List.mem_cons_of_mem _ hw)
  have hown : s.vm.findClass "DrawingMachineModel$DrawCommandsModel" = some m.cls := findClass_of_methodNamed B0.named
  have hlocks := B0.notSynchronized
  obtain ⟨hC, hP, hD, hsz⟩ := wC_init hv
  subst hsz
  generalize hAe : va_A [] s.heap.size = A at hC hD ⊢
  have hS : va_S A s.heap s.heap [] := va_S.rf
  have hl := lv_entry ([.int 2]) (n := 1) (Nat.le_of_ble_eq_true rfl)
  rw [lg_entry_eq]
  generalize (lg_sl ([.int 2]) ++ List.replicate (1 - (lg_sl ([.int 2])).length) Slot.unset).toArray = ls at hl ⊢
  have hl : lv_has ls 1 [(0, .int 2)] := hl
  refine lv_iload_n hx hb d_Cmd_many_0 rfl (lv_at hl 0 rfl) ?_
  refine lv_tableIn (off := 121) (tgt := 122) hx hb d_Cmd_many_1 (by decide) (by decide) (by decide) (by decide) ?_
  refine lv_iconst (v := 1) hx hb d_Cmd_many_122 (by decide) ?_
  refine W.widen (k := 0) (n := 0) (Nat.le_of_ble_eq_true rfl) (Nat.le_of_ble_eq_true rfl) ?_
  have hP9 := hP.sub (ws' := []) [] rfl
  have hD9 := hD.sub (ws' := []) [] (by decide) rfl
  exact W.iret (v := 1) hx hb hr (fun t ht hW => ⟨⟨1, (), rfl, rfl, by rw [ht]; exact hP9, va_K.moved hW.alike hC.1, hD9⟩, hS.F ht⟩) hS.2.2 d_Cmd_many_123

set_option maxHeartbeats 4000000 in
set_option maxRecDepth 100000 in
theorem c_many_3 (l : Launch) (D : va_G) (cI cL : ClassId) (B sz : Nat) : Met l y_Cmd_many ((Cond.code y_Cmd_many prog_15_method_10_code 1 (some .int)) :: tw) ({ frames := 20, cells := 0, slots := 0, locals := 2000 }) (va_Pc [.int 3] (wP D cI cL B sz [])) (va_Qi (S := Unit) (fun r u => r = 1) (fun u => wB D cI cL (va_A [] sz) ((fun _ : Unit => []) u)) (va_A [] sz)) 0 0 (va_A [] sz) := by
  refine Met.ofW (cc := prog_15_method_10_code) (maxL := 1) (ret := (some .int)) (by decide) rfl ?_
  intro p e s m args below meth c s₁ B0 hml hv
  obtain ⟨rfl, hv⟩ := hv
  have hx := B0.exec
  have hb := B0.bytes
  have hr := B0.returns
  have hts := atoms_spec (ws := (Cond.code y_Cmd_many prog_15_method_10_code 1 (some .int)) :: tw) B0.pre
  have htw : ∀ w ∈ tw, w.before _ s = true := fun w hw => hts w (List.mem_cons_of_mem _ hw)
  have hown : s.vm.findClass "DrawingMachineModel$DrawCommandsModel" = some m.cls := findClass_of_methodNamed B0.named
  have hlocks := B0.notSynchronized
  obtain ⟨hC, hP, hD, hsz⟩ := wC_init hv
  subst hsz
  generalize hAe : va_A [] s.heap.size = A at hC hD ⊢
  have hS : va_S A s.heap s.heap [] := va_S.rf
  have hl := lv_entry ([.int 3]) (n := 1) (Nat.le_of_ble_eq_true rfl)
  rw [lg_entry_eq]
  generalize (lg_sl ([.int 3]) ++ List.replicate (1 - (lg_sl ([.int 3])).length) Slot.unset).toArray = ls at hl ⊢
  have hl : lv_has ls 1 [(0, .int 3)] := hl
  refine lv_iload_n hx hb d_Cmd_many_0 rfl (lv_at hl 0 rfl) ?_
  refine lv_tableIn (off := 121) (tgt := 122) hx hb d_Cmd_many_1 (by decide) (by decide) (by decide) (by decide) ?_
  refine lv_iconst (v := 1) hx hb d_Cmd_many_122 (by decide) ?_
  refine W.widen (k := 0) (n := 0) (Nat.le_of_ble_eq_true rfl) (Nat.le_of_ble_eq_true rfl) ?_
  have hP9 := hP.sub (ws' := []) [] rfl
  have hD9 := hD.sub (ws' := []) [] (by decide) rfl
  exact W.iret (v := 1) hx hb hr (fun t ht hW => ⟨⟨1, (), rfl, rfl, by rw [ht]; exact hP9, va_K.moved hW.alike hC.1, hD9⟩, hS.F ht⟩) hS.2.2 d_Cmd_many_123

theorem d_Cmd_many_112 : decode prog_15_method_10_code 112 = .ok (.bipush 8, 2) := by decide +kernel
theorem d_Cmd_many_114 : decode prog_15_method_10_code 114 = .ok (.ireturn, 1) := by decide +kernel
set_option maxHeartbeats 4000000 in
set_option maxRecDepth 100000 in
theorem c_many_4 (l : Launch) (D : va_G) (cI cL : ClassId) (B sz : Nat) : Met l y_Cmd_many ((Cond.code y_Cmd_many prog_15_method_10_code 1 (some .int)) :: tw) ({ frames := 20, cells := 0, slots := 0, locals := 2000 }) (va_Pc [.int 4] (wP D cI cL B sz [])) (va_Qi (S := Unit) (fun r u => r = 8) (fun u => wB D cI cL (va_A [] sz) ((fun _ : Unit => []) u)) (va_A [] sz)) 0 0 (va_A [] sz) := by
  refine Met.ofW (cc := prog_15_method_10_code) (maxL := 1) (ret := (some .int)) (by decide) rfl ?_
  intro p e s m args below meth c s₁ B0 hml hv
  obtain ⟨rfl, hv⟩ := hv
  have hx := B0.exec
  have hb := B0.bytes
  have hr := B0.returns
  have hts := atoms_spec (ws := (Cond.code y_Cmd_many prog_15_method_10_code 1 (some .int)) :: tw) B0.pre
  have htw : ∀ w ∈ tw, w.before _ s = true := fun w hw => hts w (List.mem_cons_of_mem _ hw)
  have hown : s.vm.findClass "DrawingMachineModel$DrawCommandsModel" = some m.cls := findClass_of_methodNamed B0.named
  have hlocks := B0.notSynchronized
  obtain ⟨hC, hP, hD, hsz⟩ := wC_init hv
  subst hsz
  generalize hAe : va_A [] s.heap.size = A at hC hD ⊢
  have hS : va_S A s.heap s.heap [] := va_S.rf
  have hl := lv_entry ([.int 4]) (n := 1) (Nat.le_of_ble_eq_true rfl)
  rw [lg_entry_eq]
  generalize (lg_sl ([.int 4]) ++ List.replicate (1 - (lg_sl ([.int 4])).length) Slot.unset).toArray = ls at hl ⊢
  have hl : lv_has ls 1 [(0, .int 4)] := hl
  refine lv_iload_n hx hb d_Cmd_many_0 rfl (lv_at hl 0 rfl) ?_
  refine lv_tableIn (off := 111) (tgt := 112) hx hb d_Cmd_many_1 (by decide) (by decide) (by decide) (by decide) ?_
  refine lv_bipush (v := 8) hx hb d_Cmd_many_112 (by decide) ?_
  refine W.widen (k := 0) (n := 0) (Nat.le_of_ble_eq_true rfl) (Nat.le_of_ble_eq_true rfl) ?_
  have hP9 := hP.sub (ws' := []) [] rfl
  have hD9 := hD.sub (ws' := []) [] (by decide) rfl
  exact W.iret (v := 8) hx hb hr (fun t ht hW => ⟨⟨8, (), rfl, rfl, by rw [ht]; exact hP9, va_K.moved hW.alike hC.1, hD9⟩, hS.F ht⟩) hS.2.2 d_Cmd_many_114

theorem d_Cmd_many_115 : decode prog_15_method_10_code 115 = .ok (.bipush 32, 2) := by decide +kernel
theorem d_Cmd_many_117 : decode prog_15_method_10_code 117 = .ok (.ireturn, 1) := by decide +kernel
set_option maxHeartbeats 4000000 in
set_option maxRecDepth 100000 in
theorem c_many_5 (l : Launch) (D : va_G) (cI cL : ClassId) (B sz : Nat) : Met l y_Cmd_many ((Cond.code y_Cmd_many prog_15_method_10_code 1 (some .int)) :: tw) ({ frames := 20, cells := 0, slots := 0, locals := 2000 }) (va_Pc [.int 5] (wP D cI cL B sz [])) (va_Qi (S := Unit) (fun r u => r = 32) (fun u => wB D cI cL (va_A [] sz) ((fun _ : Unit => []) u)) (va_A [] sz)) 0 0 (va_A [] sz) := by
  refine Met.ofW (cc := prog_15_method_10_code) (maxL := 1) (ret := (some .int)) (by decide) rfl ?_
  intro p e s m args below meth c s₁ B0 hml hv
  obtain ⟨rfl, hv⟩ := hv
  have hx := B0.exec
  have hb := B0.bytes
  have hr := B0.returns
  have hts := atoms_spec (ws := (Cond.code y_Cmd_many prog_15_method_10_code 1 (some .int)) :: tw) B0.pre
  have htw : ∀ w ∈ tw, w.before _ s = true := fun w hw => hts w (List.mem_cons_of_mem _ hw)
  have hown : s.vm.findClass "DrawingMachineModel$DrawCommandsModel" = some m.cls := findClass_of_methodNamed B0.named
  have hlocks := B0.notSynchronized
  obtain ⟨hC, hP, hD, hsz⟩ := wC_init hv
  subst hsz
  generalize hAe : va_A [] s.heap.size = A at hC hD ⊢
  have hS : va_S A s.heap s.heap [] := va_S.rf
  have hl := lv_entry ([.int 5]) (n := 1) (Nat.le_of_ble_eq_true rfl)
  rw [lg_entry_eq]
  generalize (lg_sl ([.int 5]) ++ List.replicate (1 - (lg_sl ([.int 5])).length) Slot.unset).toArray = ls at hl ⊢
  have hl : lv_has ls 1 [(0, .int 5)] := hl
  refine lv_iload_n hx hb d_Cmd_many_0 rfl (lv_at hl 0 rfl) ?_
  refine lv_tableIn (off := 114) (tgt := 115) hx hb d_Cmd_many_1 (by decide) (by decide) (by decide) (by decide) ?_
  refine lv_bipush (v := 32) hx hb d_Cmd_many_115 (by decide) ?_
  refine W.widen (k := 0) (n := 0) (Nat.le_of_ble_eq_true rfl) (Nat.le_of_ble_eq_true rfl) ?_
  have hP9 := hP.sub (ws' := []) [] rfl
  have hD9 := hD.sub (ws' := []) [] (by decide) rfl
  exact W.iret (v := 32) hx hb hr (fun t ht hW => ⟨⟨32, (), rfl, rfl, by rw [ht]; exact hP9, va_K.moved hW.alike hC.1, hD9⟩, hS.F ht⟩) hS.2.2 d_Cmd_many_117

set_option maxHeartbeats 4000000 in
set_option maxRecDepth 100000 in
theorem c_many_6 (l : Launch) (D : va_G) (cI cL : ClassId) (B sz : Nat) : Met l y_Cmd_many ((Cond.code y_Cmd_many prog_15_method_10_code 1 (some .int)) :: tw) ({ frames := 20, cells := 0, slots := 0, locals := 2000 }) (va_Pc [.int 6] (wP D cI cL B sz [])) (va_Qi (S := Unit) (fun r u => r = 0) (fun u => wB D cI cL (va_A [] sz) ((fun _ : Unit => []) u)) (va_A [] sz)) 0 0 (va_A [] sz) := by
  refine Met.ofW (cc := prog_15_method_10_code) (maxL := 1) (ret := (some .int)) (by decide) rfl ?_
  intro p e s m args below meth c s₁ B0 hml hv
  obtain ⟨rfl, hv⟩ := hv
  have hx := B0.exec
  have hb := B0.bytes
  have hr := B0.returns
  have hts := atoms_spec (ws := (Cond.code y_Cmd_many prog_15_method_10_code 1 (some .int)) :: tw) B0.pre
  have htw : ∀ w ∈ tw, w.before _ s = true := fun w hw => hts w (List.mem_cons_of_mem _ hw)
  have hown : s.vm.findClass "DrawingMachineModel$DrawCommandsModel" = some m.cls := findClass_of_methodNamed B0.named
  have hlocks := B0.notSynchronized
  obtain ⟨hC, hP, hD, hsz⟩ := wC_init hv
  subst hsz
  generalize hAe : va_A [] s.heap.size = A at hC hD ⊢
  have hS : va_S A s.heap s.heap [] := va_S.rf
  have hl := lv_entry ([.int 6]) (n := 1) (Nat.le_of_ble_eq_true rfl)
  rw [lg_entry_eq]
  generalize (lg_sl ([.int 6]) ++ List.replicate (1 - (lg_sl ([.int 6])).length) Slot.unset).toArray = ls at hl ⊢
  have hl : lv_has ls 1 [(0, .int 6)] := hl
  refine lv_iload_n hx hb d_Cmd_many_0 rfl (lv_at hl 0 rfl) ?_
  refine lv_tableIn (off := 123) (tgt := 124) hx hb d_Cmd_many_1 (by decide) (by decide) (by decide) (by decide) ?_
  refine lv_iconst (v := 0) hx hb d_Cmd_many_124 (by decide) ?_
  refine W.widen (k := 0) (n := 0) (Nat.le_of_ble_eq_true rfl) (Nat.le_of_ble_eq_true rfl) ?_
  have hP9 := hP.sub (ws' := []) [] rfl
  have hD9 := hD.sub (ws' := []) [] (by decide) rfl
  exact W.iret (v := 0) hx hb hr (fun t ht hW => ⟨⟨0, (), rfl, rfl, by rw [ht]; exact hP9, va_K.moved hW.alike hC.1, hD9⟩, hS.F ht⟩) hS.2.2 d_Cmd_many_125

set_option maxHeartbeats 4000000 in
set_option maxRecDepth 100000 in
theorem c_many_7 (l : Launch) (D : va_G) (cI cL : ClassId) (B sz : Nat) : Met l y_Cmd_many ((Cond.code y_Cmd_many prog_15_method_10_code 1 (some .int)) :: tw) ({ frames := 20, cells := 0, slots := 0, locals := 2000 }) (va_Pc [.int 7] (wP D cI cL B sz [])) (va_Qi (S := Unit) (fun r u => r = 1) (fun u => wB D cI cL (va_A [] sz) ((fun _ : Unit => []) u)) (va_A [] sz)) 0 0 (va_A [] sz) := by
  refine Met.ofW (cc := prog_15_method_10_code) (maxL := 1) (ret := (some .int)) (by decide) rfl ?_
  intro p e s m args below meth c s₁ B0 hml hv
  obtain ⟨rfl, hv⟩ := hv
  have hx := B0.exec
  have hb := B0.bytes
  have hr := B0.returns
  have hts := atoms_spec (ws := (Cond.code y_Cmd_many prog_15_method_10_code 1 (some .int)) :: tw) B0.pre
  have htw : ∀ w ∈ tw, w.before _ s = true := fun w hw => hts w (List.mem_cons_of_mem _ hw)
  have hown : s.vm.findClass "DrawingMachineModel$DrawCommandsModel" = some m.cls := findClass_of_methodNamed B0.named
  have hlocks := B0.notSynchronized
  obtain ⟨hC, hP, hD, hsz⟩ := wC_init hv
  subst hsz
  generalize hAe : va_A [] s.heap.size = A at hC hD ⊢
  have hS : va_S A s.heap s.heap [] := va_S.rf
  have hl := lv_entry ([.int 7]) (n := 1) (Nat.le_of_ble_eq_true rfl)
  rw [lg_entry_eq]
  generalize (lg_sl ([.int 7]) ++ List.replicate (1 - (lg_sl ([.int 7])).length) Slot.unset).toArray = ls at hl ⊢
  have hl : lv_has ls 1 [(0, .int 7)] := hl
  refine lv_iload_n hx hb d_Cmd_many_0 rfl (lv_at hl 0 rfl) ?_
  refine lv_tableIn (off := 121) (tgt := 122) hx hb d_Cmd_many_1 (by decide) (by decide) (by decide) (by decide) ?_
  refine lv_iconst (v := 1) hx hb d_Cmd_many_122 (by decide) ?_
  refine W.widen (k := 0) (n := 0) (Nat.le_of_ble_eq_true rfl) (Nat.le_of_ble_eq_true rfl) ?_
  have hP9 := hP.sub (ws' := []) [] rfl
  have hD9 := hD.sub (ws' := []) [] (by decide) rfl
  exact W.iret (v := 1) hx hb hr (fun t ht hW => ⟨⟨1, (), rfl, rfl, by rw [ht]; exact hP9, va_K.moved hW.alike hC.1, hD9⟩, hS.F ht⟩) hS.2.2 d_Cmd_many_123

set_option maxHeartbeats 4000000 in
set_option maxRecDepth 100000 in
theorem c_many_8 (l : Launch) (D : va_G) (cI cL : ClassId) (B sz : Nat) : Met l y_Cmd_many ((Cond.code y_Cmd_many prog_15_method_10_code 1 (some .int)) :: tw) ({ frames := 20, cells := 0, slots := 0, locals := 2000 }) (va_Pc [.int 8] (wP D cI cL B sz [])) (va_Qi (S := Unit) (fun r u => r = 1) (fun u => wB D cI cL (va_A [] sz) ((fun _ : Unit => []) u)) (va_A [] sz)) 0 0 (va_A [] sz) := by
  refine Met.ofW (cc := prog_15_method_10_code) (maxL := 1) (ret := (some .int)) (by decide) rfl ?_
  intro p e s m args below meth c s₁ B0 hml hv
  obtain ⟨rfl, hv⟩ := hv
  have hx := B0.exec
  have hb := B0.bytes
  have hr := B0.returns
  have hts := atoms_spec (ws := (Cond.code y_Cmd_many prog_15_method_10_code 1 (some .int)) :: tw) B0.pre
  have htw : ∀ w ∈ tw, w.before _ s = true := fun w hw => hts w (List.mem_cons_of_mem _ hw)
  have hown : s.vm.findClass "DrawingMachineModel$DrawCommandsModel" = some m.cls := findClass_of_methodNamed B0.named
  have hlocks := B0.notSynchronized
  obtain ⟨hC, hP, hD, hsz⟩ := wC_init hv
  subst hsz
  generalize hAe : va_A [] s.heap.size = A at hC hD ⊢
  have hS : va_S A s.heap s.heap [] := va_S.rf
  have hl := lv_entry ([.int 8]) (n := 1) (Nat.le_of_ble_eq_true rfl)
  rw [lg_entry_eq]
  generalize (lg_sl ([.int 8]) ++ List.replicate (1 - (lg_sl ([.int 8])).length) Slot.unset).toArray = ls at hl ⊢
  have hl : lv_has ls 1 [(0, .int 8)] := hl
  refine lv_iload_n hx hb d_Cmd_many_0 rfl (lv_at hl 0 rfl) ?_
  refine lv_tableIn (off := 121) (tgt := 122) hx hb d_Cmd_many_1 (by decide) (by decide) (by decide) (by decide) ?_
  refine lv_iconst (v := 1) hx hb d_Cmd_many_122 (by decide) ?_
  refine W.widen (k := 0) (n := 0) (Nat.le_of_ble_eq_true rfl) (Nat.le_of_ble_eq_true rfl) ?_
  have hP9 := hP.sub (ws' := []) [] rfl
  have hD9 := hD.sub (ws' := []) [] (by decide) rfl
  exact W.iret (v := 1) hx hb hr (fun t ht hW => ⟨⟨1, (), rfl, rfl, by rw [ht]; exact hP9, va_K.moved hW.alike hC.1, hD9⟩, hS.F ht⟩) hS.2.2 d_Cmd_many_123

theorem d_Cmd_many_118 : decode prog_15_method_10_code 118 = .ok (.iconst 4, 1) := by decide +kernel
theorem d_Cmd_many_119 : decode prog_15_method_10_code 119 = .ok (.ireturn, 1) := by decide +kernel
set_option maxHeartbeats 4000000 in
set_option maxRecDepth 100000 in
theorem c_many_9 (l : Launch) (D : va_G) (cI cL : ClassId) (B sz : Nat) : Met l y_Cmd_many ((Cond.code y_Cmd_many prog_15_method_10_code 1 (some .int)) :: tw) ({ frames := 20, cells := 0, slots := 0, locals := 2000 }) (va_Pc [.int 9] (wP D cI cL B sz [])) (va_Qi (S := Unit) (fun r u => r = 4) (fun u => wB D cI cL (va_A [] sz) ((fun _ : Unit => []) u)) (va_A [] sz)) 0 0 (va_A [] sz) := by
  refine Met.ofW (cc := prog_15_method_10_code) (maxL := 1) (ret := (some .int)) (by decide) rfl ?_
  intro p e s m args below meth c s₁ B0 hml hv
  obtain ⟨rfl, hv⟩ := hv
  have hx := B0.exec
  have hb := B0.bytes
  have hr := B0.returns
  have hts := atoms_spec (ws := (Cond.code y_Cmd_many prog_15_method_10_code 1 (some .int)) :: tw) B0.pre
  have htw : ∀ w ∈ tw, w.before _ s = true := fun w hw => hts w (List.mem_cons_of_mem _ hw)
  have hown : s.vm.findClass "DrawingMachineModel$DrawCommandsModel" = some m.cls := findClass_of_methodNamed B0.named
  have hlocks := B0.notSynchronized
  obtain ⟨hC, hP, hD, hsz⟩ := wC_init hv
  subst hsz
  generalize hAe : va_A [] s.heap.size = A at hC hD ⊢
  have hS : va_S A s.heap s.heap [] := va_S.rf
  have hl := lv_entry ([.int 9]) (n := 1) (Nat.le_of_ble_eq_true rfl)
  rw [lg_entry_eq]
  generalize (lg_sl ([.int 9]) ++ List.replicate (1 - (lg_sl ([.int 9])).length) Slot.unset).toArray = ls at hl ⊢
  have hl : lv_has ls 1 [(0, .int 9)] := hl
  refine lv_iload_n hx hb d_Cmd_many_0 rfl (lv_at hl 0 rfl) ?_
  refine lv_tableIn (off := 117) (tgt := 118) hx hb d_Cmd_many_1 (by decide) (by decide) (by decide) (by decide) ?_
  refine lv_iconst (v := 4) hx hb d_Cmd_many_118 (by decide) ?_
  refine W.widen (k := 0) (n := 0) (Nat.le_of_ble_eq_true rfl) (Nat.le_of_ble_eq_true rfl) ?_
  have hP9 := hP.sub (ws' := []) [] rfl
  have hD9 := hD.sub (ws' := []) [] (by decide) rfl
  exact W.iret (v := 4) hx hb hr (fun t ht hW => ⟨⟨4, (), rfl, rfl, by rw [ht]; exact hP9, va_K.moved hW.alike hC.1, hD9⟩, hS.F ht⟩) hS.2.2 d_Cmd_many_119

set_option maxHeartbeats 4000000 in
set_option maxRecDepth 100000 in
theorem c_many_10 (l : Launch) (D : va_G) (cI cL : ClassId) (B sz : Nat) : Met l y_Cmd_many ((Cond.code y_Cmd_many prog_15_method_10_code 1 (some .int)) :: tw) ({ frames := 20, cells := 0, slots := 0, locals := 2000 }) (va_Pc [.int 10] (wP D cI cL B sz [])) (va_Qi (S := Unit) (fun r u => r = 1) (fun u => wB D cI cL (va_A [] sz) ((fun _ : Unit => []) u)) (va_A [] sz)) 0 0 (va_A [] sz) := by
  refine Met.ofW (cc := prog_15_method_10_code) (maxL := 1) (ret := (some .int)) (by decide) rfl ?_
  intro p e s m args below meth c s₁ B0 hml hv
  obtain ⟨rfl, hv⟩ := hv
  have hx := B0.exec
  have hb := B0.bytes
  have hr := B0.returns
  have hts := atoms_spec (ws := (Cond.code y_Cmd_many prog_15_method_10_code 1 (some .int)) :: tw) B0.pre
  have htw : ∀ w ∈ tw, w.before _ s = true := fun w hw => hts w (List.mem_cons_of_mem _ hw)
  have hown : s.vm.findClass "DrawingMachineModel$DrawCommandsModel" = some m.cls := findClass_of_methodNamed B0.named
  have hlocks := B0.notSynchronized
  obtain ⟨hC, hP, hD, hsz⟩ := wC_init hv
  subst hsz
  generalize hAe : va_A [] s.heap.size = A at hC hD ⊢
  have hS : va_S A s.heap s.heap [] := va_S.rf
  have hl := lv_entry ([.int 10]) (n := 1) (Nat.le_of_ble_eq_true rfl)
  rw [lg_entry_eq]
  generalize (lg_sl ([.int 10]) ++ List.replicate (1 - (lg_sl ([.int 10])).length) Slot.unset).toArray = ls at hl ⊢
  have hl : lv_has ls 1 [(0, .int 10)] := hl
  refine lv_iload_n hx hb d_Cmd_many_0 rfl (lv_at hl 0 rfl) ?_
  refine lv_tableIn (off := 121) (tgt := 122) hx hb d_Cmd_many_1 (by decide) (by decide) (by decide) (by decide) ?_
  refine lv_iconst (v := 1) hx hb d_Cmd_many_122 (by decide) ?_
  refine W.widen (k := 0) (n := 0) (Nat.le_of_ble_eq_true rfl) (Nat.le_of_ble_eq_true rfl) ?_
  have hP9 := hP.sub (ws' := []) [] rfl
  have hD9 := hD.sub (ws' := []) [] (by decide) rfl
  exact W.iret (v := 1) hx hb hr (fun t ht hW => ⟨⟨1, (), rfl, rfl, by rw [ht]; exact hP9, va_K.moved hW.alike hC.1, hD9⟩, hS.F ht⟩) hS.2.2 d_Cmd_many_123

theorem d_Cmd_many_120 : decode prog_15_method_10_code 120 = .ok (.iconst 2, 1) := by decide +kernel
theorem d_Cmd_many_121 : decode prog_15_method_10_code 121 = .ok (.ireturn, 1) := by decide +kernel
set_option maxHeartbeats 4000000 in
set_option maxRecDepth 100000 in
theorem c_many_11 (l : Launch) (D : va_G) (cI cL : ClassId) (B sz : Nat) : Met l y_Cmd_many ((Cond.code y_Cmd_many prog_15_method_10_code 1 (some .int)) :: tw) ({ frames := 20, cells := 0, slots := 0, locals := 2000 }) (va_Pc [.int 11] (wP D cI cL B sz [])) (va_Qi (S := Unit) (fun r u => r = 2) (fun u => wB D cI cL (va_A [] sz) ((fun _ : Unit => []) u)) (va_A [] sz)) 0 0 (va_A [] sz) := by
  refine Met.ofW (cc := prog_15_method_10_code) (maxL := 1) (ret := (some .int)) (by decide) rfl ?_
  intro p e s m args below meth c s₁ B0 hml hv
  obtain ⟨rfl, hv⟩ := hv
  have hx := B0.exec
  have hb := B0.bytes
  have hr := B0.returns
  have hts := atoms_spec (ws := (Cond.code y_Cmd_many prog_15_method_10_code 1 (some .int)) :: tw) B0.pre
  have htw : ∀ w ∈ tw, w.before _ s = true := fun w hw => hts w (List.mem_cons_of_mem _ hw)
  have hown : s.vm.findClass "DrawingMachineModel$DrawCommandsModel" = some m.cls := findClass_of_methodNamed B0.named
  have hlocks := B0.notSynchronized
  obtain ⟨hC, hP, hD, hsz⟩ := wC_init hv
  subst hsz
  generalize hAe : va_A [] s.heap.size = A at hC hD ⊢
  have hS : va_S A s.heap s.heap [] := va_S.rf
  have hl := lv_entry ([.int 11]) (n := 1) (Nat.le_of_ble_eq_true rfl)
  rw [lg_entry_eq]
  generalize (lg_sl ([.int 11]) ++ List.replicate (1 - (lg_sl ([.int 11])).length) Slot.unset).toArray = ls at hl ⊢
  have hl : lv_has ls 1 [(0, .int 11)] := hl
  refine lv_iload_n hx hb d_Cmd_many_0 rfl (lv_at hl 0 rfl) ?_
  refine lv_tableIn (off := 119) (tgt := 120) hx hb d_Cmd_many_1 (by decide) (by decide) (by decide) (by decide) ?_
  refine lv_iconst (v := 2) hx hb d_Cmd_many_120 (by decide) ?_
  refine W.widen (k := 0) (n := 0) (Nat.le_of_ble_eq_true rfl) (Nat.le_of_ble_eq_true rfl) ?_
  have hP9 := hP.sub (ws' := []) [] rfl
  have hD9 := hD.sub (ws' := []) [] (by decide) rfl
  exact W.iret (v := 2) hx hb hr (fun t ht hW => ⟨⟨2, (), rfl, rfl, by rw [ht]; exact hP9, va_K.moved hW.alike hC.1, hD9⟩, hS.F ht⟩) hS.2.2 d_Cmd_many_121

set_option maxHeartbeats 4000000 in
set_option maxRecDepth 100000 in
theorem c_many_12 (l : Launch) (D : va_G) (cI cL : ClassId) (B sz : Nat) : Met l y_Cmd_many ((Cond.code y_Cmd_many prog_15_method_10_code 1 (some .int)) :: tw) ({ frames := 20, cells := 0, slots := 0, locals := 2000 }) (va_Pc [.int 12] (wP D cI cL B sz [])) (va_Qi (S := Unit) (fun r u => r = 1) (fun u => wB D cI cL (va_A [] sz) ((fun _ : Unit => []) u)) (va_A [] sz)) 0 0 (va_A [] sz) := by
  refine Met.ofW (cc := prog_15_method_10_code) (maxL := 1) (ret := (some .int)) (by decide) rfl ?_
  intro p e s m args below meth c s₁ B0 hml hv
  obtain ⟨rfl, hv⟩ := hv
  have hx := B0.exec
  have hb := B0.bytes
  have hr := B0.returns
  have hts := atoms_spec (ws := (Cond.code y_Cmd_many prog_15_method_10_code 1 (some .int)) :: tw) B0.pre
  have htw : ∀ w ∈ tw, w.before _ s = true := fun w hw => hts w (List.mem_cons_of_mem _ hw)
  have hown : s.vm.findClass "DrawingMachineModel$DrawCommandsModel" = some m.cls := findClass_of_methodNamed B0.named
  have hlocks := B0.notSynchronized
  obtain ⟨hC, hP, hD, hsz⟩ := wC_init hv
  subst hsz
  generalize hAe : va_A [] s.heap.size = A at hC hD ⊢
  have hS : va_S A s.heap s.heap [] := va_S.rf
  have hl := lv_entry ([.int 12]) (n := 1) (Nat.le_of_ble_eq_true rfl)
  rw [lg_entry_eq]
  generalize (lg_sl ([.int 12]) ++ List.replicate (1 - (lg_sl ([.int 12])).length) Slot.unset).toArray = ls at hl ⊢
  have hl : lv_has ls 1 [(0, .int 12)] := hl
  refine lv_iload_n hx hb d_Cmd_many_0 rfl (lv_at hl 0 rfl) ?_
  refine lv_tableIn (off := 121) (tgt := 122) hx hb d_Cmd_many_1 (by decide) (by decide) (by decide) (by decide) ?_
  refine lv_iconst (v := 1) hx hb d_Cmd_many_122 (by decide) ?_
  refine W.widen (k := 0) (n := 0) (Nat.le_of_ble_eq_true rfl) (Nat.le_of_ble_eq_true rfl) ?_
  have hP9 := hP.sub (ws' := []) [] rfl
  have hD9 := hD.sub (ws' := []) [] (by decide) rfl
  exact W.iret (v := 1) hx hb hr (fun t ht hW => ⟨⟨1, (), rfl, rfl, by rw [ht]; exact hP9, va_K.moved hW.alike hC.1, hD9⟩, hS.F ht⟩) hS.2.2 d_Cmd_many_123

set_option maxHeartbeats 4000000 in
set_option maxRecDepth 100000 in
theorem c_many_13 (l : Launch) (D : va_G) (cI cL : ClassId) (B sz : Nat) : Met l y_Cmd_many ((Cond.code y_Cmd_many prog_15_method_10_code 1 (some .int)) :: tw) ({ frames := 20, cells := 0, slots := 0, locals := 2000 }) (va_Pc [.int 13] (wP D cI cL B sz [])) (va_Qi (S := Unit) (fun r u => r = 1) (fun u => wB D cI cL (va_A [] sz) ((fun _ : Unit => []) u)) (va_A [] sz)) 0 0 (va_A [] sz) := by
  refine Met.ofW (cc := prog_15_method_10_code) (maxL := 1) (ret := (some .int)) (by decide) rfl ?_
  intro p e s m args below meth c s₁ B0 hml hv
  obtain ⟨rfl, hv⟩ := hv
  have hx := B0.exec
  have hb := B0.bytes
  have hr := B0.returns
  have hts := atoms_spec (ws := (Cond.code y_Cmd_many prog_15_method_10_code 1 (some .int)) :: tw) B0.pre
  have htw : ∀ w ∈ tw, w.before _ s = true := fun w hw => hts w (List.mem_cons_of_mem _ hw)
  have hown : s.vm.findClass "DrawingMachineModel$DrawCommandsModel" = some m.cls := findClass_of_methodNamed B0.named
  have hlocks := B0.notSynchronized
  obtain ⟨hC, hP, hD, hsz⟩ := wC_init hv
  subst hsz
  generalize hAe : va_A [] s.heap.size = A at hC hD ⊢
  have hS : va_S A s.heap s.heap [] := va_S.rf
  have hl := lv_entry ([.int 13]) (n := 1) (Nat.le_of_ble_eq_true rfl)
  rw [lg_entry_eq]
  generalize (lg_sl ([.int 13]) ++ List.replicate (1 - (lg_sl ([.int 13])).length) Slot.unset).toArray = ls at hl ⊢
  have hl : lv_has ls 1 [(0, .int 13)] := hl
  refine lv_iload_n hx hb d_Cmd_many_0 rfl (lv_at hl 0 rfl) ?_
  refine lv_tableIn (off := 121) (tgt := 122) hx hb d_Cmd_many_1 (by decide) (by decide) (by decide) (by decide) ?_
  refine lv_iconst (v := 1) hx hb d_Cmd_many_122 (by decide) ?_
  refine W.widen (k := 0) (n := 0) (Nat.le_of_ble_eq_true rfl) (Nat.le_of_ble_eq_true rfl) ?_
  have hP9 := hP.sub (ws' := []) [] rfl
  have hD9 := hD.sub (ws' := []) [] (by decide) rfl
  exact W.iret (v := 1) hx hb hr (fun t ht hW => ⟨⟨1, (), rfl, rfl, by rw [ht]; exact hP9, va_K.moved hW.alike hC.1, hD9⟩, hS.F ht⟩) hS.2.2 d_Cmd_many_123

set_option maxHeartbeats 4000000 in
set_option maxRecDepth 100000 in
theorem c_many_14 (l : Launch) (D : va_G) (cI cL : ClassId) (B sz : Nat) : Met l y_Cmd_many ((Cond.code y_Cmd_many prog_15_method_10_code 1 (some .int)) :: tw) ({ frames := 20, cells := 0, slots := 0, locals := 2000 }) (va_Pc [.int 14] (wP D cI cL B sz [])) (va_Qi (S := Unit) (fun r u => r = 1) (fun u => wB D cI cL (va_A [] sz) ((fun _ : Unit => []) u)) (va_A [] sz)) 0 0 (va_A [] sz) := by
  refine Met.ofW (cc := prog_15_method_10_code) (maxL := 1) (ret := (some .int)) (by decide) rfl ?_
  intro p e s m args below meth c s₁ B0 hml hv
  obtain ⟨rfl, hv⟩ := hv
  have hx := B0.exec
  have hb := B0.bytes
  have hr := B0.returns
  have hts := atoms_spec (ws := (Cond.code y_Cmd_many prog_15_method_10_code 1 (some .int)) :: tw) B0.pre
  have htw : ∀ w ∈ tw, w.before _ s = true := fun w hw => hts w (List.mem_cons_of_mem _ hw)
  have hown : s.vm.findClass "DrawingMachineModel$DrawCommandsModel" = some m.cls := findClass_of_methodNamed B0.named
  have hlocks := B0.notSynchronized
  obtain ⟨hC, hP, hD, hsz⟩ := wC_init hv
  subst hsz
  generalize hAe : va_A [] s.heap.size = A at hC hD ⊢
  have hS : va_S A s.heap s.heap [] := va_S.rf
  have hl := lv_entry ([.int 14]) (n := 1) (Nat.le_of_ble_eq_true rfl)
  rw [lg_entry_eq]
  generalize (lg_sl ([.int 14]) ++ List.replicate (1 - (lg_sl ([.int 14])).length) Slot.unset).toArray = ls at hl ⊢
  have hl : lv_has ls 1 [(0, .int 14)] := hl
  refine lv_iload_n hx hb d_Cmd_many_0 rfl (lv_at hl 0 rfl) ?_
  refine lv_tableIn (off := 121) (tgt := 122) hx hb d_Cmd_many_1 (by decide) (by decide) (by decide) (by decide) ?_
  refine lv_iconst (v := 1) hx hb d_Cmd_many_122 (by decide) ?_
  refine W.widen (k := 0) (n := 0) (Nat.le_of_ble_eq_true rfl) (Nat.le_of_ble_eq_true rfl) ?_
  have hP9 := hP.sub (ws' := []) [] rfl
  have hD9 := hD.sub (ws' := []) [] (by decide) rfl
  exact W.iret (v := 1) hx hb hr (fun t ht hW => ⟨⟨1, (), rfl, rfl, by rw [ht]; exact hP9, va_K.moved hW.alike hC.1, hD9⟩, hS.F ht⟩) hS.2.2 d_Cmd_many_123

set_option maxHeartbeats 4000000 in
set_option maxRecDepth 100000 in
theorem c_many_15 (l : Launch) (D : va_G) (cI cL : ClassId) (B sz : Nat) : Met l y_Cmd_many ((Cond.code y_Cmd_many prog_15_method_10_code 1 (some .int)) :: tw) ({ frames := 20, cells := 0, slots := 0, locals := 2000 }) (va_Pc [.int 15] (wP D cI cL B sz [])) (va_Qi (S := Unit) (fun r u => r = 1) (fun u => wB D cI cL (va_A [] sz) ((fun _ : Unit => []) u)) (va_A [] sz)) 0 0 (va_A [] sz) := by
  refine Met.ofW (cc := prog_15_method_10_code) (maxL := 1) (ret := (some .int)) (by decide) rfl ?_
  intro p e s m args below meth c s₁ B0 hml hv
  obtain ⟨rfl, hv⟩ := hv
  have hx := B0.exec
  have hb := B0.bytes
  have hr := B0.returns
  have hts := atoms_spec (ws := (Cond.code y_Cmd_many prog_15_method_10_code 1 (some .int)) :: tw) B0.pre
  have htw : ∀ w ∈ tw, w.before _ s = true := fun w hw => hts w (List.mem_cons_of_mem _ hw)
  have hown : s.vm.findClass "DrawingMachineModel$DrawCommandsModel" = some m.cls := findClass_of_methodNamed B0.named
  have hlocks := B0.notSynchronized
  obtain ⟨hC, hP, hD, hsz⟩ := wC_init hv
  subst hsz
  generalize hAe : va_A [] s.heap.size = A at hC hD ⊢
  have hS : va_S A s.heap s.heap [] := va_S.rf
  have hl := lv_entry ([.int 15]) (n := 1) (Nat.le_of_ble_eq_true rfl)
  rw [lg_entry_eq]
  generalize (lg_sl ([.int 15]) ++ List.replicate (1 - (lg_sl ([.int 15])).length) Slot.unset).toArray = ls at hl ⊢
  have hl : lv_has ls 1 [(0, .int 15)] := hl
  refine lv_iload_n hx hb d_Cmd_many_0 rfl (lv_at hl 0 rfl) ?_
  refine lv_tableIn (off := 121) (tgt := 122) hx hb d_Cmd_many_1 (by decide) (by decide) (by decide) (by decide) ?_
  refine lv_iconst (v := 1) hx hb d_Cmd_many_122 (by decide) ?_
  refine W.widen (k := 0) (n := 0) (Nat.le_of_ble_eq_true rfl) (Nat.le_of_ble_eq_true rfl) ?_
  have hP9 := hP.sub (ws' := []) [] rfl
  have hD9 := hD.sub (ws' := []) [] (by decide) rfl
  exact W.iret (v := 1) hx hb hr (fun t ht hW => ⟨⟨1, (), rfl, rfl, by rw [ht]; exact hP9, va_K.moved hW.alike hC.1, hD9⟩, hS.F ht⟩) hS.2.2 d_Cmd_many_123

set_option maxHeartbeats 4000000 in
set_option maxRecDepth 100000 in
theorem c_many_16 (l : Launch) (D : va_G) (cI cL : ClassId) (B sz : Nat) : Met l y_Cmd_many ((Cond.code y_Cmd_many prog_15_method_10_code 1 (some .int)) :: tw) ({ frames := 20, cells := 0, slots := 0, locals := 2000 }) (va_Pc [.int 16] (wP D cI cL B sz [])) (va_Qi (S := Unit) (fun r u => r = 1) (fun u => wB D cI cL (va_A [] sz) ((fun _ : Unit => []) u)) (va_A [] sz)) 0 0 (va_A [] sz) := by
  refine Met.ofW (cc := prog_15_method_10_code) (maxL := 1) (ret := (some .int)) (by decide) rfl ?_
  intro p e s m args below meth c s₁ B0 hml hv
  obtain ⟨rfl, hv⟩ := hv
  have hx := B0.exec
  have hb := B0.bytes
  have hr := B0.returns
  have hts := atoms_spec (ws := (Cond.code y_Cmd_many prog_15_method_10_code 1 (some .int)) :: tw) B0.pre
  have htw : ∀ w ∈ tw, w.before _ s = true := fun w hw => hts w (List.mem_cons_of_mem _ hw)
  have hown : s.vm.findClass "DrawingMachineModel$DrawCommandsModel" = some m.cls := findClass_of_methodNamed B0.named
  have hlocks := B0.notSynchronized
  obtain ⟨hC, hP, hD, hsz⟩ := wC_init hv
  subst hsz
  generalize hAe : va_A [] s.heap.size = A at hC hD ⊢
  have hS : va_S A s.heap s.heap [] := va_S.rf
  have hl := lv_entry ([.int 16]) (n := 1) (Nat.le_of_ble_eq_true rfl)
  rw [lg_entry_eq]
  generalize (lg_sl ([.int 16]) ++ List.replicate (1 - (lg_sl ([.int 16])).length) Slot.unset).toArray = ls at hl ⊢
  have hl : lv_has ls 1 [(0, .int 16)] := hl
  refine lv_iload_n hx hb d_Cmd_many_0 rfl (lv_at hl 0 rfl) ?_
  refine lv_tableIn (off := 121) (tgt := 122) hx hb d_Cmd_many_1 (by decide) (by decide) (by decide) (by decide) ?_
  refine lv_iconst (v := 1) hx hb d_Cmd_many_122 (by decide) ?_
  refine W.widen (k := 0) (n := 0) (Nat.le_of_ble_eq_true rfl) (Nat.le_of_ble_eq_true rfl) ?_
  have hP9 := hP.sub (ws' := []) [] rfl
  have hD9 := hD.sub (ws' := []) [] (by decide) rfl
  exact W.iret (v := 1) hx hb hr (fun t ht hW => ⟨⟨1, (), rfl, rfl, by rw [ht]; exact hP9, va_K.moved hW.alike hC.1, hD9⟩, hS.F ht⟩) hS.2.2 d_Cmd_many_123

set_option maxHeartbeats 4000000 in
set_option maxRecDepth 100000 in
theorem c_many_17 (l : Launch) (D : va_G) (cI cL : ClassId) (B sz : Nat) : Met l y_Cmd_many ((Cond.code y_Cmd_many prog_15_method_10_code 1 (some .int)) :: tw) ({ frames := 20, cells := 0, slots := 0, locals := 2000 }) (va_Pc [.int 17] (wP D cI cL B sz [])) (va_Qi (S := Unit) (fun r u => r = 0) (fun u => wB D cI cL (va_A [] sz) ((fun _ : Unit => []) u)) (va_A [] sz)) 0 0 (va_A [] sz) := by
  refine Met.ofW (cc := prog_15_method_10_code) (maxL := 1) (ret := (some .int)) (by decide) rfl ?_
  intro p e s m args below meth c s₁ B0 hml hv
  obtain ⟨rfl, hv⟩ := hv
  have hx := B0.exec
  have hb := B0.bytes
  have hr := B0.returns
  have hts := atoms_spec (ws := (Cond.code y_Cmd_many prog_15_method_10_code 1 (some .int)) :: tw) B0.pre
  have htw : ∀ w ∈ tw, w.before _ s = true := fun w hw => hts w (List.mem_cons_of_mem _ hw)
  have hown : s.vm.findClass "DrawingMachineModel$DrawCommandsModel" = some m.cls := findClass_of_methodNamed B0.named
  have hlocks := B0.notSynchronized
  obtain ⟨hC, hP, hD, hsz⟩ := wC_init hv
  subst hsz
  generalize hAe : va_A [] s.heap.size = A at hC hD ⊢
  have hS : va_S A s.heap s.heap [] := va_S.rf
  have hl := lv_entry ([.int 17]) (n := 1) (Nat.le_of_ble_eq_true rfl)
  rw [lg_entry_eq]
  generalize (lg_sl ([.int 17]) ++ List.replicate (1 - (lg_sl ([.int 17])).length) Slot.unset).toArray = ls at hl ⊢
  have hl : lv_has ls 1 [(0, .int 17)] := hl
  refine lv_iload_n hx hb d_Cmd_many_0 rfl (lv_at hl 0 rfl) ?_
  refine lv_tableIn (off := 123) (tgt := 124) hx hb d_Cmd_many_1 (by decide) (by decide) (by decide) (by decide) ?_
  refine lv_iconst (v := 0) hx hb d_Cmd_many_124 (by decide) ?_
  refine W.widen (k := 0) (n := 0) (Nat.le_of_ble_eq_true rfl) (Nat.le_of_ble_eq_true rfl) ?_
  have hP9 := hP.sub (ws' := []) [] rfl
  have hD9 := hD.sub (ws' := []) [] (by decide) rfl
  exact W.iret (v := 0) hx hb hr (fun t ht hW => ⟨⟨0, (), rfl, rfl, by rw [ht]; exact hP9, va_K.moved hW.alike hC.1, hD9⟩, hS.F ht⟩) hS.2.2 d_Cmd_many_125

set_option maxHeartbeats 4000000 in
set_option maxRecDepth 100000 in
theorem c_many_18 (l : Launch) (D : va_G) (cI cL : ClassId) (B sz : Nat) : Met l y_Cmd_many ((Cond.code y_Cmd_many prog_15_method_10_code 1 (some .int)) :: tw) ({ frames := 20, cells := 0, slots := 0, locals := 2000 }) (va_Pc [.int 18] (wP D cI cL B sz [])) (va_Qi (S := Unit) (fun r u => r = 0) (fun u => wB D cI cL (va_A [] sz) ((fun _ : Unit => []) u)) (va_A [] sz)) 0 0 (va_A [] sz) := by
  refine Met.ofW (cc := prog_15_method_10_code) (maxL := 1) (ret := (some .int)) (by decide) rfl ?_
  intro p e s m args below meth c s₁ B0 hml hv
  obtain ⟨rfl, hv⟩ := hv
  have hx := B0.exec
  have hb := B0.bytes
  have hr := B0.returns
  have hts := atoms_spec (ws := (Cond.code y_Cmd_many prog_15_method_10_code 1 (some .int)) :: tw) B0.pre
  have htw : ∀ w ∈ tw, w.before _ s = true := fun w hw => hts w (List.mem_cons_of_mem _ hw)
  have hown : s.vm.findClass "DrawingMachineModel$DrawCommandsModel" = some m.cls := findClass_of_methodNamed B0.named
  have hlocks := B0.notSynchronized
  obtain ⟨hC, hP, hD, hsz⟩ := wC_init hv
  subst hsz
  generalize hAe : va_A [] s.heap.size = A at hC hD ⊢
  have hS : va_S A s.heap s.heap [] := va_S.rf
  have hl := lv_entry ([.int 18]) (n := 1) (Nat.le_of_ble_eq_true rfl)
  rw [lg_entry_eq]
  generalize (lg_sl ([.int 18]) ++ List.replicate (1 - (lg_sl ([.int 18])).length) Slot.unset).toArray = ls at hl ⊢
  have hl : lv_has ls 1 [(0, .int 18)] := hl
  refine lv_iload_n hx hb d_Cmd_many_0 rfl (lv_at hl 0 rfl) ?_
  refine lv_tableIn (off := 123) (tgt := 124) hx hb d_Cmd_many_1 (by decide) (by decide) (by decide) (by decide) ?_
  refine lv_iconst (v := 0) hx hb d_Cmd_many_124 (by decide) ?_
  refine W.widen (k := 0) (n := 0) (Nat.le_of_ble_eq_true rfl) (Nat.le_of_ble_eq_true rfl) ?_
  have hP9 := hP.sub (ws' := []) [] rfl
  have hD9 := hD.sub (ws' := []) [] (by decide) rfl
  exact W.iret (v := 0) hx hb hr (fun t ht hW => ⟨⟨0, (), rfl, rfl, by rw [ht]; exact hP9, va_K.moved hW.alike hC.1, hD9⟩, hS.F ht⟩) hS.2.2 d_Cmd_many_125

set_option maxHeartbeats 4000000 in
set_option maxRecDepth 100000 in
theorem c_many_19 (l : Launch) (D : va_G) (cI cL : ClassId) (B sz : Nat) : Met l y_Cmd_many ((Cond.code y_Cmd_many prog_15_method_10_code 1 (some .int)) :: tw) ({ frames := 20, cells := 0, slots := 0, locals := 2000 }) (va_Pc [.int 19] (wP D cI cL B sz [])) (va_Qi (S := Unit) (fun r u => r = 0) (fun u => wB D cI cL (va_A [] sz) ((fun _ : Unit => []) u)) (va_A [] sz)) 0 0 (va_A [] sz) := by
  refine Met.ofW (cc := prog_15_method_10_code) (maxL := 1) (ret := (some .int)) (by decide) rfl ?_
  intro p e s m args below meth c s₁ B0 hml hv
  obtain ⟨rfl, hv⟩ := hv
  have hx := B0.exec
  have hb := B0.bytes
  have hr := B0.returns
  have hts := atoms_spec (ws := (Cond.code y_Cmd_many prog_15_method_10_code 1 (some .int)) :: tw) B0.pre
  have htw : ∀ w ∈ tw, w.before _ s = true := fun w hw => hts w (List.mem_cons_of_mem _ hw)
  have hown : s.vm.findClass "DrawingMachineModel$DrawCommandsModel" = some m.cls := findClass_of_methodNamed B0.named
  have hlocks := B0.notSynchronized
  obtain ⟨hC, hP, hD, hsz⟩ := wC_init hv
  subst hsz
  generalize hAe : va_A [] s.heap.size = A at hC hD ⊢
  have hS : va_S A s.heap s.heap [] := va_S.rf
  have hl := lv_entry ([.int 19]) (n := 1) (Nat.le_of_ble_eq_true rfl)
  rw [lg_entry_eq]
  generalize (lg_sl ([.int 19]) ++ List.replicate (1 - (lg_sl ([.int 19])).length) Slot.unset).toArray = ls at hl ⊢
  have hl : lv_has ls 1 [(0, .int 19)] := hl
  refine lv_iload_n hx hb d_Cmd_many_0 rfl (lv_at hl 0 rfl) ?_
  refine lv_tableIn (off := 123) (tgt := 124) hx hb d_Cmd_many_1 (by decide) (by decide) (by decide) (by decide) ?_
  refine lv_iconst (v := 0) hx hb d_Cmd_many_124 (by decide) ?_
  refine W.widen (k := 0) (n := 0) (Nat.le_of_ble_eq_true rfl) (Nat.le_of_ble_eq_true rfl) ?_
  have hP9 := hP.sub (ws' := []) [] rfl
  have hD9 := hD.sub (ws' := []) [] (by decide) rfl
  exact W.iret (v := 0) hx hb hr (fun t ht hW => ⟨⟨0, (), rfl, rfl, by rw [ht]; exact hP9, va_K.moved hW.alike hC.1, hD9⟩, hS.F ht⟩) hS.2.2 d_Cmd_many_125

set_option maxHeartbeats 4000000 in
set_option maxRecDepth 100000 in
theorem c_many_20 (l : Launch) (D : va_G) (cI cL : ClassId) (B sz : Nat) : Met l y_Cmd_many ((Cond.code y_Cmd_many prog_15_method_10_code 1 (some .int)) :: tw) ({ frames := 20, cells := 0, slots := 0, locals := 2000 }) (va_Pc [.int 20] (wP D cI cL B sz [])) (va_Qi (S := Unit) (fun r u => r = 0) (fun u => wB D cI cL (va_A [] sz) ((fun _ : Unit => []) u)) (va_A [] sz)) 0 0 (va_A [] sz) := by
  refine Met.ofW (cc := prog_15_method_10_code) (maxL := 1) (ret := (some .int)) (by decide) rfl ?_
  intro p e s m args below meth c s₁ B0 hml hv
  obtain ⟨rfl, hv⟩ := hv
  have hx := B0.exec
  have hb := B0.bytes
  have hr := B0.returns
  have hts := atoms_spec (ws := (Cond.code y_Cmd_many prog_15_method_10_code 1 (some .int)) :: tw) B0.pre
  have htw : ∀ w ∈ tw, w.before _ s = true := fun w hw => hts w (List.mem_cons_of_mem _ hw)
  have hown : s.vm.findClass "DrawingMachineModel$DrawCommandsModel" = some m.cls := findClass_of_methodNamed B0.named
  have hlocks := B0.notSynchronized
  obtain ⟨hC, hP, hD, hsz⟩ := wC_init hv
  subst hsz
  generalize hAe : va_A [] s.heap.size = A at hC hD ⊢
  have hS : va_S A s.heap s.heap [] := va_S.rf
  have hl := lv_entry ([.int 20]) (n := 1) (Nat.le_of_ble_eq_true rfl)
  rw [lg_entry_eq]
  generalize (lg_sl ([.int 20]) ++ List.replicate (1 - (lg_sl ([.int 20])).length) Slot.unset).toArray = ls at hl ⊢
  have hl : lv_has ls 1 [(0, .int 20)] := hl
  refine lv_iload_n hx hb d_Cmd_many_0 rfl (lv_at hl 0 rfl) ?_
  refine lv_tableIn (off := 123) (tgt := 124) hx hb d_Cmd_many_1 (by decide) (by decide) (by decide) (by decide) ?_
  refine lv_iconst (v := 0) hx hb d_Cmd_many_124 (by decide) ?_
  refine W.widen (k := 0) (n := 0) (Nat.le_of_ble_eq_true rfl) (Nat.le_of_ble_eq_true rfl) ?_
  have hP9 := hP.sub (ws' := []) [] rfl
  have hD9 := hD.sub (ws' := []) [] (by decide) rfl
  exact W.iret (v := 0) hx hb hr (fun t ht hW => ⟨⟨0, (), rfl, rfl, by rw [ht]; exact hP9, va_K.moved hW.alike hC.1, hD9⟩, hS.F ht⟩) hS.2.2 d_Cmd_many_125

set_option maxHeartbeats 4000000 in
set_option maxRecDepth 100000 in
theorem c_many_21 (l : Launch) (D : va_G) (cI cL : ClassId) (B sz : Nat) : Met l y_Cmd_many ((Cond.code y_Cmd_many prog_15_method_10_code 1 (some .int)) :: tw) ({ frames := 20, cells := 0, slots := 0, locals := 2000 }) (va_Pc [.int 21] (wP D cI cL B sz [])) (va_Qi (S := Unit) (fun r u => r = 0) (fun u => wB D cI cL (va_A [] sz) ((fun _ : Unit => []) u)) (va_A [] sz)) 0 0 (va_A [] sz) := by
  refine Met.ofW (cc := prog_15_method_10_code) (maxL := 1) (ret := (some .int)) (by decide) rfl ?_
  intro p e s m args below meth c s₁ B0 hml hv
  obtain ⟨rfl, hv⟩ := hv
  have hx := B0.exec
  have hb := B0.bytes
  have hr := B0.returns
  have hts := atoms_spec (ws := (Cond.code y_Cmd_many prog_15_method_10_code 1 (some .int)) :: tw) B0.pre
  have htw : ∀ w ∈ tw, w.before _ s = true := fun w hw => hts w (List.mem_cons_of_mem _ hw)
  have hown : s.vm.findClass "DrawingMachineModel$DrawCommandsModel" = some m.cls := findClass_of_methodNamed B0.named
  have hlocks := B0.notSynchronized
  obtain ⟨hC, hP, hD, hsz⟩ := wC_init hv
  subst hsz
  generalize hAe : va_A [] s.heap.size = A at hC hD ⊢
  have hS : va_S A s.heap s.heap [] := va_S.rf
  have hl := lv_entry ([.int 21]) (n := 1) (Nat.le_of_ble_eq_true rfl)
  rw [lg_entry_eq]
  generalize (lg_sl ([.int 21]) ++ List.replicate (1 - (lg_sl ([.int 21])).length) Slot.unset).toArray = ls at hl ⊢
  have hl : lv_has ls 1 [(0, .int 21)] := hl
  refine lv_iload_n hx hb d_Cmd_many_0 rfl (lv_at hl 0 rfl) ?_
  refine lv_tableIn (off := 123) (tgt := 124) hx hb d_Cmd_many_1 (by decide) (by decide) (by decide) (by decide) ?_
  refine lv_iconst (v := 0) hx hb d_Cmd_many_124 (by decide) ?_
  refine W.widen (k := 0) (n := 0) (Nat.le_of_ble_eq_true rfl) (Nat.le_of_ble_eq_true rfl) ?_
  have hP9 := hP.sub (ws' := []) [] rfl
  have hD9 := hD.sub (ws' := []) [] (by decide) rfl
  exact W.iret (v := 0) hx hb hr (fun t ht hW => ⟨⟨0, (), rfl, rfl, by rw [ht]; exact hP9, va_K.moved hW.alike hC.1, hD9⟩, hS.F ht⟩) hS.2.2 d_Cmd_many_125

set_option maxHeartbeats 4000000 in
set_option maxRecDepth 100000 in
theorem c_many_22 (l : Launch) (D : va_G) (cI cL : ClassId) (B sz : Nat) : Met l y_Cmd_many ((Cond.code y_Cmd_many prog_15_method_10_code 1 (some .int)) :: tw) ({ frames := 20, cells := 0, slots := 0, locals := 2000 }) (va_Pc [.int 22] (wP D cI cL B sz [])) (va_Qi (S := Unit) (fun r u => r = 0) (fun u => wB D cI cL (va_A [] sz) ((fun _ : Unit => []) u)) (va_A [] sz)) 0 0 (va_A [] sz) := by
  refine Met.ofW (cc := prog_15_method_10_code) (maxL := 1) (ret := (some .int)) (by decide) rfl ?_
  intro p e s m args below meth c s₁ B0 hml hv
  obtain ⟨rfl, hv⟩ := hv
  have hx := B0.exec
  have hb := B0.bytes
  have hr := B0.returns
  have hts := atoms_spec (ws := (Cond.code y_Cmd_many prog_15_method_10_code 1 (some .int)) :: tw) B0.pre
  have htw : ∀ w ∈ tw, w.before _ s = true := fun w hw => hts w (List.mem_cons_of_mem _ hw)
  have hown : s.vm.findClass "DrawingMachineModel$DrawCommandsModel" = some m.cls := findClass_of_methodNamed B0.named
  have hlocks := B0.notSynchronized
  obtain ⟨hC, hP, hD, hsz⟩ := wC_init hv
  subst hsz
  generalize hAe : va_A [] s.heap.size = A at hC hD ⊢
  have hS : va_S A s.heap s.heap [] := va_S.rf
  have hl := lv_entry ([.int 22]) (n := 1) (Nat.le_of_ble_eq_true rfl)
  rw [lg_entry_eq]
  generalize (lg_sl ([.int 22]) ++ List.replicate (1 - (lg_sl ([.int 22])).length) Slot.unset).toArray = ls at hl ⊢
  have hl : lv_has ls 1 [(0, .int 22)] := hl
  refine lv_iload_n hx hb d_Cmd_many_0 rfl (lv_at hl 0 rfl) ?_
  refine lv_tableIn (off := 123) (tgt := 124) hx hb d_Cmd_many_1 (by decide) (by decide) (by decide) (by decide) ?_
  refine lv_iconst (v := 0) hx hb d_Cmd_many_124 (by decide) ?_
  refine W.widen (k := 0) (n := 0) (Nat.le_of_ble_eq_true rfl) (Nat.le_of_ble_eq_true rfl) ?_
  have hP9 := hP.sub (ws' := []) [] rfl
  have hD9 := hD.sub (ws' := []) [] (by decide) rfl
  exact W.iret (v := 0) hx hb hr (fun t ht hW => ⟨⟨0, (), rfl, rfl, by rw [ht]; exact hP9, va_K.moved hW.alike hC.1, hD9⟩, hS.F ht⟩) hS.2.2 d_Cmd_many_125

set_option maxHeartbeats 4000000 in
set_option maxRecDepth 100000 in
theorem c_many_23 (l : Launch) (D : va_G) (cI cL : ClassId) (B sz : Nat) : Met l y_Cmd_many ((Cond.code y_Cmd_many prog_15_method_10_code 1 (some .int)) :: tw) ({ frames := 20, cells := 0, slots := 0, locals := 2000 }) (va_Pc [.int 23] (wP D cI cL B sz [])) (va_Qi (S := Unit) (fun r u => r = 0) (fun u => wB D cI cL (va_A [] sz) ((fun _ : Unit => []) u)) (va_A [] sz)) 0 0 (va_A [] sz) := by
  refine Met.ofW (cc := prog_15_method_10_code) (maxL := 1) (ret := (some .int)) (by decide) rfl ?_
  intro p e s m args below meth c s₁ B0 hml hv
  obtain ⟨rfl, hv⟩ := hv
  have hx := B0.exec
  have hb := B0.bytes
  have hr := B0.returns
  have hts := atoms_spec (ws := (Cond.code y_Cmd_many prog_15_method_10_code 1 (some .int)) :: tw) B0.pre
  have htw : ∀ w ∈ tw, w.before _ s = true := fun w hw => hts w (List.mem_cons_of_mem _ hw)
  have hown : s.vm.findClass "DrawingMachineModel$DrawCommandsModel" = some m.cls := findClass_of_methodNamed B0.named
  have hlocks := B0.notSynchronized
  obtain ⟨hC, hP, hD, hsz⟩ := wC_init hv
  subst hsz
  generalize hAe : va_A [] s.heap.size = A at hC hD ⊢
  have hS : va_S A s.heap s.heap [] := va_S.rf
  have hl := lv_entry ([.int 23]) (n := 1) (Nat.le_of_ble_eq_true rfl)
  rw [lg_entry_eq]
  generalize (lg_sl ([.int 23]) ++ List.replicate (1 - (lg_sl ([.int 23])).length) Slot.unset).toArray = ls at hl ⊢
  have hl : lv_has ls 1 [(0, .int 23)] := hl
  refine lv_iload_n hx hb d_Cmd_many_0 rfl (lv_at hl 0 rfl) ?_
  refine lv_tableIn (off := 123) (tgt := 124) hx hb d_Cmd_many_1 (by decide) (by decide) (by decide) (by decide) ?_
  refine lv_iconst (v := 0) hx hb d_Cmd_many_124 (by decide) ?_
  refine W.widen (k := 0) (n := 0) (Nat.le_of_ble_eq_true rfl) (Nat.le_of_ble_eq_true rfl) ?_
  have hP9 := hP.sub (ws' := []) [] rfl
  have hD9 := hD.sub (ws' := []) [] (by decide) rfl
  exact W.iret (v := 0) hx hb hr (fun t ht hW => ⟨⟨0, (), rfl, rfl, by rw [ht]; exact hP9, va_K.moved hW.alike hC.1, hD9⟩, hS.F ht⟩) hS.2.2 d_Cmd_many_125

set_option maxHeartbeats 4000000 in
set_option maxRecDepth 100000 in
theorem c_many_24 (l : Launch) (D : va_G) (cI cL : ClassId) (B sz : Nat) : Met l y_Cmd_many ((Cond.code y_Cmd_many prog_15_method_10_code 1 (some .int)) :: tw) ({ frames := 20, cells := 0, slots := 0, locals := 2000 }) (va_Pc [.int 24] (wP D cI cL B sz [])) (va_Qi (S := Unit) (fun r u => r = 4) (fun u => wB D cI cL (va_A [] sz) ((fun _ : Unit => []) u)) (va_A [] sz)) 0 0 (va_A [] sz) := by
  refine Met.ofW (cc := prog_15_method_10_code) (maxL := 1) (ret := (some .int)) (by decide) rfl ?_
  intro p e s m args below meth c s₁ B0 hml hv
  obtain ⟨rfl, hv⟩ := hv
  have hx := B0.exec
  have hb := B0.bytes
  have hr := B0.returns
  have hts := atoms_spec (ws := (Cond.code y_Cmd_many prog_15_method_10_code 1 (some .int)) :: tw) B0.pre
  have htw : ∀ w ∈ tw, w.before _ s = true := fun w hw => hts w (List.mem_cons_of_mem _ hw)
  have hown : s.vm.findClass "DrawingMachineModel$DrawCommandsModel" = some m.cls := findClass_of_methodNamed B0.named
  have hlocks := B0.notSynchronized
  obtain ⟨hC, hP, hD, hsz⟩ := wC_init hv
  subst hsz
  generalize hAe : va_A [] s.heap.size = A at hC hD ⊢
  have hS : va_S A s.heap s.heap [] := va_S.rf
  have hl := lv_entry ([.int 24]) (n := 1) (Nat.le_of_ble_eq_true rfl)
  rw [lg_entry_eq]
  generalize (lg_sl ([.int 24]) ++ List.replicate (1 - (lg_sl ([.int 24])).length) Slot.unset).toArray = ls at hl ⊢
  have hl : lv_has ls 1 [(0, .int 24)] := hl
  refine lv_iload_n hx hb d_Cmd_many_0 rfl (lv_at hl 0 rfl) ?_
  refine lv_tableIn (off := 117) (tgt := 118) hx hb d_Cmd_many_1 (by decide) (by decide) (by decide) (by decide) ?_
  refine lv_iconst (v := 4) hx hb d_Cmd_many_118 (by decide) ?_
  refine W.widen (k := 0) (n := 0) (Nat.le_of_ble_eq_true rfl) (Nat.le_of_ble_eq_true rfl) ?_
  have hP9 := hP.sub (ws' := []) [] rfl
  have hD9 := hD.sub (ws' := []) [] (by decide) rfl
  exact W.iret (v := 4) hx hb hr (fun t ht hW => ⟨⟨4, (), rfl, rfl, by rw [ht]; exact hP9, va_K.moved hW.alike hC.1, hD9⟩, hS.F ht⟩) hS.2.2 d_Cmd_many_119

set_option maxHeartbeats 4000000 in
set_option maxRecDepth 100000 in
theorem c_many_25 (l : Launch) (D : va_G) (cI cL : ClassId) (B sz : Nat) : Met l y_Cmd_many ((Cond.code y_Cmd_many prog_15_method_10_code 1 (some .int)) :: tw) ({ frames := 20, cells := 0, slots := 0, locals := 2000 }) (va_Pc [.int 25] (wP D cI cL B sz [])) (va_Qi (S := Unit) (fun r u => r = 4) (fun u => wB D cI cL (va_A [] sz) ((fun _ : Unit => []) u)) (va_A [] sz)) 0 0 (va_A [] sz) := by
  refine Met.ofW (cc := prog_15_method_10_code) (maxL := 1) (ret := (some .int)) (by decide) rfl ?_
  intro p e s m args below meth c s₁ B0 hml hv
  obtain ⟨rfl, hv⟩ := hv
  have hx := B0.exec
  have hb := B0.bytes
  have hr := B0.returns
  have hts := atoms_spec (ws := (Cond.code y_Cmd_many prog_15_method_10_code 1 (some .int)) :: tw) B0.pre
  have htw : ∀ w ∈ tw, w.before _ s = true := fun w hw => hts w (List.mem_cons_of_mem _ hw)
  have hown : s.vm.findClass "DrawingMachineModel$DrawCommandsModel" = some m.cls := findClass_of_methodNamed B0.named
  have hlocks := B0.notSynchronized
  obtain ⟨hC, hP, hD, hsz⟩ := wC_init hv
  subst hsz
  generalize hAe : va_A [] s.heap.size = A at hC hD ⊢
  have hS : va_S A s.heap s.heap [] := va_S.rf
  have hl := lv_entry ([.int 25]) (n := 1) (Nat.le_of_ble_eq_true rfl)
  rw [lg_entry_eq]
  generalize (lg_sl ([.int 25]) ++ List.replicate (1 - (lg_sl ([.int 25])).length) Slot.unset).toArray = ls at hl ⊢
  have hl : lv_has ls 1 [(0, .int 25)] := hl
  refine lv_iload_n hx hb d_Cmd_many_0 rfl (lv_at hl 0 rfl) ?_
  refine lv_tableIn (off := 117) (tgt := 118) hx hb d_Cmd_many_1 (by decide) (by decide) (by decide) (by decide) ?_
  refine lv_iconst (v := 4) hx hb d_Cmd_many_118 (by decide) ?_
  refine W.widen (k := 0) (n := 0) (Nat.le_of_ble_eq_true rfl) (Nat.le_of_ble_eq_true rfl) ?_
  have hP9 := hP.sub (ws' := []) [] rfl
  have hD9 := hD.sub (ws' := []) [] (by decide) rfl
  exact W.iret (v := 4) hx hb hr (fun t ht hW => ⟨⟨4, (), rfl, rfl, by rw [ht]; exact hP9, va_K.moved hW.alike hC.1, hD9⟩, hS.F ht⟩) hS.2.2 d_Cmd_many_119

theorem d_Cmd_count_0 : decode prog_15_method_4_code 0 = .ok (.iload_n 0, 1) := by decide +kernel
theorem d_Cmd_count_1 : decode prog_15_method_4_code 1 = .ok (.tableswitch 134 0 25 #[119, 127, 134, 127, 129, 129, 125, 123, 123, 134, 123, 131, 134, 121, 121, 121, 123, 125, 129, 123, 134, 123, 119, 121, 127, 129], 119) := by decide +kernel
theorem d_Cmd_count_120 : decode prog_15_method_4_code 120 = .ok (.iconst 0, 1) := by decide +kernel
theorem d_Cmd_count_121 : decode prog_15_method_4_code 121 = .ok (.ireturn, 1) := by decide +kernel
set_option maxHeartbeats 4000000 in
set_option maxRecDepth 100000 in
theorem c_cnt_0 (l : Launch) (D : va_G) (cI cL : ClassId) (B sz : Nat) : Met l y_Cmd_count ((Cond.code y_Cmd_count prog_15_method_4_code 1 (some .int)) :: tw) ({ frames := 20, cells := 0, slots := 0, locals := 2000 }) (va_Pc [.int 0] (wP D cI cL B sz [])) (va_Qi (S := Unit) (fun r u => r = 0) (fun u => wB D cI cL (va_A [] sz) ((fun _ : Unit => []) u)) (va_A [] sz)) 0 0 (va_A [] sz) := by
  refine Met.ofW (cc := prog_15_method_4_code) (maxL := 1) (ret := (some .int)) (by decide) rfl ?_
  intro p e s m args below meth c s₁ B0 hml hv
  obtain ⟨rfl, hv⟩ := hv
  have hx := B0.exec
  have hb := B0.bytes
  have hr := B0.returns
  have hts := atoms_spec (ws := (Cond.code y_Cmd_count prog_15_method_4_code 1 (some .int)) :: tw) B0.pre
  have htw : ∀ w ∈ tw, w.before _ s = true := fun w hw => hts w (List.mem_cons_of_mem _ hw)
  have hown : s.vm.findClass "DrawingMachineModel$DrawCommandsModel" = some m.cls := findClass_of_methodNamed B0.named
  have hlocks := B0.notSynchronized
  obtain ⟨hC, hP, hD, hsz⟩ := wC_init hv
  subst hsz
  generalize hAe : va_A [] s.heap.size = A at hC hD ⊢
  have hS : va_S A s.heap s.heap [] := va_S.rf
  have hl := lv_entry ([.int 0]) (n := 1) (Nat.le_of_ble_eq_true rfl)
  rw [lg_entry_eq]
  generalize (lg_sl ([.int 0]) ++ List.replicate (1 - (lg_sl ([.int 0])).length) Slot.unset).toArray = ls at hl ⊢
  have hl : lv_has ls 1 [(0, .int 0)] := hl
  refine lv_iload_n hx hb d_Cmd_count_0 rfl (lv_at hl 0 rfl) ?_
  refine lv_tableIn (off := 119) (tgt := 120) hx hb d_Cmd_count_1 (by decide) (by decide) (by decide) (by decide) ?_
  refine lv_iconst (v := 0) hx hb d_Cmd_count_120 (by decide) ?_
  refine W.widen (k := 0) (n := 0) (Nat.le_of_ble_eq_true rfl) (Nat.le_of_ble_eq_true rfl) ?_
  have hP9 := hP.sub (ws' := []) [] rfl
  have hD9 := hD.sub (ws' := []) [] (by decide) rfl
  exact W.iret (v := 0) hx hb hr (fun t ht hW => ⟨⟨0, (), rfl, rfl, by rw [ht]; exact hP9, va_K.moved hW.alike hC.1, hD9⟩, hS.F ht⟩) hS.2.2 d_Cmd_count_121

theorem d_Cmd_count_128 : decode prog_15_method_4_code 128 = .ok (.iconst 4, 1) := by decide +kernel
theorem d_Cmd_count_129 : decode prog_15_method_4_code 129 = .ok (.ireturn, 1) := by decide +kernel
set_option maxHeartbeats 4000000 in
set_option maxRecDepth 100000 in
theorem c_cnt_1 (l : Launch) (D : va_G) (cI cL : ClassId) (B sz : Nat) : Met l y_Cmd_count ((Cond.code y_Cmd_count prog_15_method_4_code 1 (some .int)) :: tw) ({ frames := 20, cells := 0, slots := 0, locals := 2000 }) (va_Pc [.int 1] (wP D cI cL B sz [])) (va_Qi (S := Unit) (fun r u => r = 4) (fun u => wB D cI cL (va_A [] sz) ((fun _ : Unit => []) u)) (va_A [] sz)) 0 0 (va_A [] sz) := by
  refine Met.ofW (cc := prog_15_method_4_code) (maxL := 1) (ret := (some .int)) (by decide) rfl ?_
  intro p e s m args below meth c s₁ B0 hml hv
  obtain ⟨rfl, hv⟩ := hv
  have hx := B0.exec
  have hb := B0.bytes
  have hr := B0.returns
  have hts := atoms_spec (ws := (Cond.code y_Cmd_count prog_15_method_4_code 1 (some .int)) :: tw) B0.pre
  have htw : ∀ w ∈ tw, w.before _ s = true := fun w hw => hts w (List.mem_cons_of_mem _ hw)
  have hown : s.vm.findClass "DrawingMachineModel$DrawCommandsModel" = some m.cls := findClass_of_methodNamed B0.named
  have hlocks := B0.notSynchronized
  obtain ⟨hC, hP, hD, hsz⟩ := wC_init hv
  subst hsz
  generalize hAe : va_A [] s.heap.size = A at hC hD ⊢
  have hS : va_S A s.heap s.heap [] := va_S.rf
  have hl := lv_entry ([.int 1]) (n := 1) (Nat.le_of_ble_eq_true rfl)
  rw [lg_entry_eq]
  generalize (lg_sl ([.int 1]) ++ List.replicate (1 - (lg_sl ([.int 1])).length) Slot.unset).toArray = ls at hl ⊢
  have hl : lv_has ls 1 [(0, .int 1)] := hl
  refine lv_iload_n hx hb d_Cmd_count_0 rfl (lv_at hl 0 rfl) ?_
  refine lv_tableIn (off := 127) (tgt := 128) hx hb d_Cmd_count_1 (by decide) (by decide) (by decide) (by decide) ?_
  refine lv_iconst (v := 4) hx hb d_Cmd_count_128 (by decide) ?_
  refine W.widen (k := 0) (n := 0) (Nat.le_of_ble_eq_true rfl) (Nat.le_of_ble_eq_true rfl) ?_
  have hP9 := hP.sub (ws' := []) [] rfl
  have hD9 := hD.sub (ws' := []) [] (by decide) rfl
  exact W.iret (v := 4) hx hb hr (fun t ht hW => ⟨⟨4, (), rfl, rfl, by rw [ht]; exact hP9, va_K.moved hW.alike hC.1, hD9⟩, hS.F ht⟩) hS.2.2 d_Cmd_count_129

theorem d_Cmd_count_135 : decode prog_15_method_4_code 135 = .ok (.bipush 6, 2) := by decide +kernel
theorem d_Cmd_count_137 : decode prog_15_method_4_code 137 = .ok (.ireturn, 1) := by decide +kernel
set_option maxHeartbeats 4000000 in
set_option maxRecDepth 100000 in
theorem c_cnt_2 (l : Launch) (D : va_G) (cI cL : ClassId) (B sz : Nat) : Met l y_Cmd_count ((Cond.code y_Cmd_count prog_15_method_4_code 1 (some .int)) :: tw) ({ frames := 20, cells := 0, slots := 0, locals := 2000 }) (va_Pc [.int 2] (wP D cI cL B sz [])) (va_Qi (S := Unit) (fun r u => r = 6) (fun u => wB D cI cL (va_A [] sz) ((fun _ : Unit => []) u)) (va_A [] sz)) 0 0 (va_A [] sz) := by
  refine Met.ofW (cc := prog_15_method_4_code) (maxL := 1) (ret := (some .int)) (by decide) rfl ?_
  intro p e s m args below meth c s₁ B0 hml hv
  obtain ⟨rfl, hv⟩ := hv
  have hx := B0.exec
  have hb := B0.bytes
  have hr := B0.returns
  have hts := atoms_spec (ws := (Cond.code y_Cmd_count prog_15_method_4_code 1 (some .int)) :: tw) B0.pre
  have htw : ∀ w ∈ tw, w.before _ s = true := fun w hw => hts w (List.mem_cons_of_mem _ hw)
  have hown : s.vm.findClass "DrawingMachineModel$DrawCommandsModel" = some m.cls := findClass_of_methodNamed B0.named
  have hlocks := B0.notSynchronized
  obtain ⟨hC, hP, hD, hsz⟩ := wC_init hv
  subst hsz
  generalize hAe : va_A [] s.heap.size = A at hC hD ⊢
  have hS : va_S A s.heap s.heap [] := va_S.rf
  have hl := lv_entry ([.int 2]) (n := 1) (Nat.le_of_ble_eq_true rfl)
  rw [lg_entry_eq]
  generalize (lg_sl ([.int 2]) ++ List.replicate (1 - (lg_sl ([.int 2])).length) Slot.unset).toArray = ls at hl ⊢
  have hl : lv_has ls 1 [(0, .int 2)] := hl
  refine lv_iload_n hx hb d_Cmd_count_0 rfl (lv_at hl 0 rfl) ?_
  refine lv_tableIn (off := 134) (tgt := 135) hx hb d_Cmd_count_1 (by decide) (by decide) (by decide) (by decide) ?_
  refine lv_bipush (v := 6) hx hb d_Cmd_count_135 (by decide) ?_
  refine W.widen (k := 0) (n := 0) (Nat.le_of_ble_eq_true rfl) (Nat.le_of_ble_eq_true rfl) ?_
  have hP9 := hP.sub (ws' := []) [] rfl
  have hD9 := hD.sub (ws' := []) [] (by decide) rfl
  exact W.iret (v := 6) hx hb hr (fun t ht hW => ⟨⟨6, (), rfl, rfl, by rw [ht]; exact hP9, va_K.moved hW.alike hC.1, hD9⟩, hS.F ht⟩) hS.2.2 d_Cmd_count_137

set_option maxHeartbeats 4000000 in
set_option maxRecDepth 100000 in
theorem c_cnt_3 (l : Launch) (D : va_G) (cI cL : ClassId) (B sz : Nat) : Met l y_Cmd_count ((Cond.code y_Cmd_count prog_15_method_4_code 1 (some .int)) :: tw) ({ frames := 20, cells := 0, slots := 0, locals := 2000 }) (va_Pc [.int 3] (wP D cI cL B sz [])) (va_Qi (S := Unit) (fun r u => r = 4) (fun u => wB D cI cL (va_A [] sz) ((fun _ : Unit => []) u)) (va_A [] sz)) 0 0 (va_A [] sz) := by
  refine Met.ofW (cc := prog_15_method_4_code) (maxL := 1) (ret := (some .int)) (by decide) rfl ?_
  intro p e s m args below meth c s₁ B0 hml hv
  obtain ⟨rfl, hv⟩ := hv
  have hx := B0.exec
  have hb := B0.bytes
  have hr := B0.returns
  have hts := atoms_spec (ws := (Cond.code y_Cmd_count prog_15_method_4_code 1 (some .int)) :: tw) B0.pre
  have htw : ∀ w ∈ tw, w.before _ s = true := fun w hw => hts w (List.mem_cons_of_mem _ hw)
  have hown : s.vm.findClass "DrawingMachineModel$DrawCommandsModel" = some m.cls := findClass_of_methodNamed B0.named
  have hlocks := B0.notSynchronized
  obtain ⟨hC, hP, hD, hsz⟩ := wC_init hv
  subst hsz
  generalize hAe : va_A [] s.heap.size = A at hC hD ⊢
  have hS : va_S A s.heap s.heap [] := va_S.rf
  have hl := lv_entry ([.int 3]) (n := 1) (Nat.le_of_ble_eq_true rfl)
  rw [lg_entry_eq]
  generalize (lg_sl ([.int 3]) ++ List.replicate (1 - (lg_sl ([.int 3])).length) Slot.unset).toArray = ls at hl ⊢
  have hl : lv_has ls 1 [(0, .int 3)] := hl
  refine lv_iload_n hx hb d_Cmd_count_0 rfl (lv_at hl 0 rfl) ?_
  refine lv_tableIn (off := 127) (tgt := 128) hx hb d_Cmd_count_1 (by decide) (by decide) (by decide) (by decide) ?_
  refine lv_iconst (v := 4) hx hb d_Cmd_count_128 (by decide) ?_
  refine W.widen (k := 0) (n := 0) (Nat.le_of_ble_eq_true rfl) (Nat.le_of_ble_eq_true rfl) ?_
  have hP9 := hP.sub (ws' := []) [] rfl
  have hD9 := hD.sub (ws' := []) [] (by decide) rfl
  exact W.iret (v := 4) hx hb hr (fun t ht hW => ⟨⟨4, (), rfl, rfl, by rw [ht]; exact hP9, va_K.moved hW.alike hC.1, hD9⟩, hS.F ht⟩) hS.2.2 d_Cmd_count_129

theorem d_Cmd_count_130 : decode prog_15_method_4_code 130 = .ok (.iconst 5, 1) := by decide +kernel
theorem d_Cmd_count_131 : decode prog_15_method_4_code 131 = .ok (.ireturn, 1) := by decide +kernel
set_option maxHeartbeats 4000000 in
set_option maxRecDepth 100000 in
theorem c_cnt_4 (l : Launch) (D : va_G) (cI cL : ClassId) (B sz : Nat) : Met l y_Cmd_count ((Cond.code y_Cmd_count prog_15_method_4_code 1 (some .int)) :: tw) ({ frames := 20, cells := 0, slots := 0, locals := 2000 }) (va_Pc [.int 4] (wP D cI cL B sz [])) (va_Qi (S := Unit) (fun r u => r = 5) (fun u => wB D cI cL (va_A [] sz) ((fun _ : Unit => []) u)) (va_A [] sz)) 0 0 (va_A [] sz) := by
  refine Met.ofW (cc := prog_15_method_4_code) (maxL := 1) (ret := (some .int)) (by decide) rfl ?_
  intro p e s m args below meth c s₁ B0 hml hv
  obtain ⟨rfl, hv⟩ := hv
  have hx := B0.exec
  have hb := B0.bytes
  have hr := B0.returns
  have hts := atoms_spec (ws := (Cond.code y_Cmd_count prog_15_method_4_code 1 (some .int)) :: tw) B0.pre
  have htw : ∀ w ∈ tw, w.before _ s = true := fun w hw => hts w (List.mem_cons_of_mem _ hw)
  have hown : s.vm.findClass "DrawingMachineModel$DrawCommandsModel" = some m.cls := findClass_of_methodNamed B0.named
  have hlocks := B0.notSynchronized
  obtain ⟨hC, hP, hD, hsz⟩ := wC_init hv
  subst hsz
  generalize hAe : va_A [] s.heap.size = A at hC hD ⊢
  have hS : va_S A s.heap s.heap [] := va_S.rf
  have hl := lv_entry ([.int 4]) (n := 1) (Nat.le_of_ble_eq_true rfl)
  rw [lg_entry_eq]
  generalize (lg_sl ([.int 4]) ++ List.replicate (1 - (lg_sl ([.int 4])).length) Slot.unset).toArray = ls at hl ⊢
  have hl : lv_has ls 1 [(0, .int 4)] := hl
  refine lv_iload_n hx hb d_Cmd_count_0 rfl (lv_at hl 0 rfl) ?_
  refine lv_tableIn (off := 129) (tgt := 130) hx hb d_Cmd_count_1 (by decide) (by decide) (by decide) (by decide) ?_
  refine lv_iconst (v := 5) hx hb d_Cmd_count_130 (by decide) ?_
  refine W.widen (k := 0) (n := 0) (Nat.le_of_ble_eq_true rfl) (Nat.le_of_ble_eq_true rfl) ?_
  have hP9 := hP.sub (ws' := []) [] rfl
  have hD9 := hD.sub (ws' := []) [] (by decide) rfl
  exact W.iret (v := 5) hx hb hr (fun t ht hW => ⟨⟨5, (), rfl, rfl, by rw [ht]; exact hP9, va_K.moved hW.alike hC.1, hD9⟩, hS.F ht⟩) hS.2.2 d_Cmd_count_131

set_option maxHeartbeats 4000000 in
set_option maxRecDepth 100000 in
theorem c_cnt_5 (l : Launch) (D : va_G) (cI cL : ClassId) (B sz : Nat) : Met l y_Cmd_count ((Cond.code y_Cmd_count prog_15_method_4_code 1 (some .int)) :: tw) ({ frames := 20, cells := 0, slots := 0, locals := 2000 }) (va_Pc [.int 5] (wP D cI cL B sz [])) (va_Qi (S := Unit) (fun r u => r = 5) (fun u => wB D cI cL (va_A [] sz) ((fun _ : Unit => []) u)) (va_A [] sz)) 0 0 (va_A [] sz) := by
  refine Met.ofW (cc := prog_15_method_4_code) (maxL := 1) (ret := (some .int)) (by decide) rfl ?_
  intro p e s m args below meth c s₁ B0 hml hv
  obtain ⟨rfl, hv⟩ := hv
  have hx := B0.exec
  have hb := B0.bytes
  have hr := B0.returns
  have hts := atoms_spec (ws := (Cond.code y_Cmd_count prog_15_method_4_code 1 (some .int)) :: tw) B0.pre
  have htw : ∀ w ∈ tw, w.before _ s = true := fun w hw => hts w (List.mem_cons_of_mem _ hw)
  have hown : s.vm.findClass "DrawingMachineModel$DrawCommandsModel" = some m.cls := findClass_of_methodNamed B0.named
  have hlocks := B0.notSynchronized
  obtain ⟨hC, hP, hD, hsz⟩ := wC_init hv
  subst hsz
  generalize hAe : va_A [] s.heap.size = A at hC hD ⊢
  have hS : va_S A s.heap s.heap [] := va_S.rf
  have hl := lv_entry ([.int 5]) (n := 1) (Nat.le_of_ble_eq_true rfl)
  rw [lg_entry_eq]
  generalize (lg_sl ([.int 5]) ++ List.replicate (1 - (lg_sl ([.int 5])).length) Slot.unset).toArray = ls at hl ⊢
  have hl : lv_has ls 1 [(0, .int 5)] := hl
  refine lv_iload_n hx hb d_Cmd_count_0 rfl (lv_at hl 0 rfl) ?_
  refine lv_tableIn (off := 129) (tgt := 130) hx hb d_Cmd_count_1 (by decide) (by decide) (by decide) (by decide) ?_
  refine lv_iconst (v := 5) hx hb d_Cmd_count_130 (by decide) ?_
  refine W.widen (k := 0) (n := 0) (Nat.le_of_ble_eq_true rfl) (Nat.le_of_ble_eq_true rfl) ?_
  have hP9 := hP.sub (ws' := []) [] rfl
  have hD9 := hD.sub (ws' := []) [] (by decide) rfl
  exact W.iret (v := 5) hx hb hr (fun t ht hW => ⟨⟨5, (), rfl, rfl, by rw [ht]; exact hP9, va_K.moved hW.alike hC.1, hD9⟩, hS.F ht⟩) hS.2.2 d_Cmd_count_131

theorem d_Cmd_count_126 : decode prog_15_method_4_code 126 = .ok (.iconst 3, 1) := by decide +kernel
theorem d_Cmd_count_127 : decode prog_15_method_4_code 127 = .ok (.ireturn, 1) := by decide +kernel
set_option maxHeartbeats 4000000 in
set_option maxRecDepth 100000 in
theorem c_cnt_6 (l : Launch) (D : va_G) (cI cL : ClassId) (B sz : Nat) : Met l y_Cmd_count ((Cond.code y_Cmd_count prog_15_method_4_code 1 (some .int)) :: tw) ({ frames := 20, cells := 0, slots := 0, locals := 2000 }) (va_Pc [.int 6] (wP D cI cL B sz [])) (va_Qi (S := Unit) (fun r u => r = 3) (fun u => wB D cI cL (va_A [] sz) ((fun _ : Unit => []) u)) (va_A [] sz)) 0 0 (va_A [] sz) := by
  refine Met.ofW (cc := prog_15_method_4_code) (maxL := 1) (ret := (some .int)) (by decide) rfl ?_
  intro p e s m args below meth c s₁ B0 hml hv
  obtain ⟨rfl, hv⟩ := hv
  have hx := B0.exec
  have hb := B0.bytes
  have hr := B0.returns
  have hts := atoms_spec (ws := (Cond.code y_Cmd_count prog_15_method_4_code 1 (some .int)) :: tw) B0.pre
  have htw : ∀ w ∈ tw, w.before _ s = true := fun w hw => hts w (List.mem_cons_of_mem _ hw)
  have hown : s.vm.findClass "DrawingMachineModel$DrawCommandsModel" = some m.cls := findClass_of_methodNamed B0.named
  have hlocks := B0.notSynchronized
  obtain ⟨hC, hP, hD, hsz⟩ := wC_init hv
  subst hsz
  generalize hAe : va_A [] s.heap.size = A at hC hD ⊢
  have hS : va_S A s.heap s.heap [] := va_S.rf
  have hl := lv_entry ([.int 6]) (n := 1) (Nat.le_of_ble_eq_true rfl)
  rw [lg_entry_eq]
  generalize (lg_sl ([.int 6]) ++ List.replicate (1 - (lg_sl ([.int 6])).length) Slot.unset).toArray = ls at hl ⊢
  have hl : lv_has ls 1 [(0, .int 6)] := hl
  refine lv_iload_n hx hb d_Cmd_count_0 rfl (lv_at hl 0 rfl) ?_
  refine lv_tableIn (off := 125) (tgt := 126) hx hb d_Cmd_count_1 (by decide) (by decide) (by decide) (by decide) ?_
  refine lv_iconst (v := 3) hx hb d_Cmd_count_126 (by decide) ?_
  refine W.widen (k := 0) (n := 0) (Nat.le_of_ble_eq_true rfl) (Nat.le_of_ble_eq_true rfl) ?_
  have hP9 := hP.sub (ws' := []) [] rfl
  have hD9 := hD.sub (ws' := []) [] (by decide) rfl
  exact W.iret (v := 3) hx hb hr (fun t ht hW => ⟨⟨3, (), rfl, rfl, by rw [ht]; exact hP9, va_K.moved hW.alike hC.1, hD9⟩, hS.F ht⟩) hS.2.2 d_Cmd_count_127

theorem d_Cmd_count_124 : decode prog_15_method_4_code 124 = .ok (.iconst 2, 1) := by decide +kernel
theorem d_Cmd_count_125 : decode prog_15_method_4_code 125 = .ok (.ireturn, 1) := by decide +kernel
set_option maxHeartbeats 4000000 in
set_option maxRecDepth 100000 in
theorem c_cnt_7 (l : Launch) (D : va_G) (cI cL : ClassId) (B sz : Nat) : Met l y_Cmd_count ((Cond.code y_Cmd_count prog_15_method_4_code 1 (some .int)) :: tw) ({ frames := 20, cells := 0, slots := 0, locals := 2000 }) (va_Pc [.int 7] (wP D cI cL B sz [])) (va_Qi (S := Unit) (fun r u => r = 2) (fun u => wB D cI cL (va_A [] sz) ((fun _ : Unit => []) u)) (va_A [] sz)) 0 0 (va_A [] sz) := by
  refine Met.ofW (cc := prog_15_method_4_code) (maxL := 1) (ret := (some .int)) (by decide) rfl ?_
  intro p e s m args below meth c s₁ B0 hml hv
  obtain ⟨rfl, hv⟩ := hv
  have hx := B0.exec
  have hb := B0.bytes
  have hr := B0.returns
  have hts := atoms_spec (ws := (Cond.code y_Cmd_count prog_15_method_4_code 1 (some .int)) :: tw) B0.pre
  have htw : ∀ w ∈ tw, w.before _ s = true := fun w hw => hts w (List.mem_cons_of_mem _ hw)
  have hown : s.vm.findClass "DrawingMachineModel$DrawCommandsModel" = some m.cls := findClass_of_methodNamed B0.named
  have hlocks := B0.notSynchronized
  obtain ⟨hC, hP, hD, hsz⟩ := wC_init hv
  subst hsz
  generalize hAe : va_A [] s.heap.size = A at hC hD ⊢
  have hS : va_S A s.heap s.heap [] := va_S.rf
  have hl := lv_entry ([.int 7]) (n := 1) (Nat.le_of_ble_eq_true rfl)
  rw [lg_entry_eq]
  generalize (lg_sl ([.int 7]) ++ List.replicate (1 - (lg_sl ([.int 7])).length) Slot.unset).toArray = ls at hl ⊢
  have hl : lv_has ls 1 [(0, .int 7)] := hl
  refine lv_iload_n hx hb d_Cmd_count_0 rfl (lv_at hl 0 rfl) ?_
  refine lv_tableIn (off := 123) (tgt := 124) hx hb d_Cmd_count_1 (by decide) (by decide) (by decide) (by decide) ?_
  refine lv_iconst (v := 2) hx hb d_Cmd_count_124 (by decide) ?_
  refine W.widen (k := 0) (n := 0) (Nat.le_of_ble_eq_true rfl) (Nat.le_of_ble_eq_true rfl) ?_
  have hP9 := hP.sub (ws' := []) [] rfl
  have hD9 := hD.sub (ws' := []) [] (by decide) rfl
  exact W.iret (v := 2) hx hb hr (fun t ht hW => ⟨⟨2, (), rfl, rfl, by rw [ht]; exact hP9, va_K.moved hW.alike hC.1, hD9⟩, hS.F ht⟩) hS.2.2 d_Cmd_count_125

set_option maxHeartbeats 4000000 in
set_option maxRecDepth 100000 in
theorem c_cnt_8 (l : Launch) (D : va_G) (cI cL : ClassId) (B sz : Nat) : Met l y_Cmd_count ((Cond.code y_Cmd_count prog_15_method_4_code 1 (some .int)) :: tw) ({ frames := 20, cells := 0, slots := 0, locals := 2000 }) (va_Pc [.int 8] (wP D cI cL B sz [])) (va_Qi (S := Unit) (fun r u => r = 2) (fun u => wB D cI cL (va_A [] sz) ((fun _ : Unit => []) u)) (va_A [] sz)) 0 0 (va_A [] sz) := by
  refine Met.ofW (cc := prog_15_method_4_code) (maxL := 1) (ret := (some .int)) (by decide) rfl ?_
  intro p e s m args below meth c s₁ B0 hml hv
  obtain ⟨rfl, hv⟩ := hv
  have hx := B0.exec
  have hb := B0.bytes
  have hr := B0.returns
  have hts := atoms_spec (ws := (Cond.code y_Cmd_count prog_15_method_4_code 1 (some .int)) :: tw) B0.pre
  have htw : ∀ w ∈ tw, w.before _ s = true := fun w hw => hts w (List.mem_cons_of_mem _ hw)
  have hown : s.vm.findClass "DrawingMachineModel$DrawCommandsModel" = some m.cls := findClass_of_methodNamed B0.named
  have hlocks := B0.notSynchronized
  obtain ⟨hC, hP, hD, hsz⟩ := wC_init hv
  subst hsz
  generalize hAe : va_A [] s.heap.size = A at hC hD ⊢
  have hS : va_S A s.heap s.heap [] := va_S.rf
  have hl := lv_entry ([.int 8]) (n := 1) (Nat.le_of_ble_eq_true rfl)
  rw [lg_entry_eq]
  generalize (lg_sl ([.int 8]) ++ List.replicate (1 - (lg_sl ([.int 8])).length) Slot.unset).toArray = ls at hl ⊢
  have hl : lv_has ls 1 [(0, .int 8)] := hl
  refine lv_iload_n hx hb d_Cmd_count_0 rfl (lv_at hl 0 rfl) ?_
  refine lv_tableIn (off := 123) (tgt := 124) hx hb d_Cmd_count_1 (by decide) (by decide) (by decide) (by decide) ?_
  refine lv_iconst (v := 2) hx hb d_Cmd_count_124 (by decide) ?_
  refine W.widen (k := 0) (n := 0) (Nat.le_of_ble_eq_true rfl) (Nat.le_of_ble_eq_true rfl) ?_
  have hP9 := hP.sub (ws' := []) [] rfl
  have hD9 := hD.sub (ws' := []) [] (by decide) rfl
  exact W.iret (v := 2) hx hb hr (fun t ht hW => ⟨⟨2, (), rfl, rfl, by rw [ht]; exact hP9, va_K.moved hW.alike hC.1, hD9⟩, hS.F ht⟩) hS.2.2 d_Cmd_count_125

set_option maxHeartbeats 4000000 in
set_option maxRecDepth 100000 in
theorem c_cnt_9 (l : Launch) (D : va_G) (cI cL : ClassId) (B sz : Nat) : Met l y_Cmd_count ((Cond.code y_Cmd_count prog_15_method_4_code 1 (some .int)) :: tw) ({ frames := 20, cells := 0, slots := 0, locals := 2000 }) (va_Pc [.int 9] (wP D cI cL B sz [])) (va_Qi (S := Unit) (fun r u => r = 6) (fun u => wB D cI cL (va_A [] sz) ((fun _ : Unit => []) u)) (va_A [] sz)) 0 0 (va_A [] sz) := by
  refine Met.ofW (cc := prog_15_method_4_code) (maxL := 1) (ret := (some .int)) (by decide) rfl ?_
  intro p e s m args below meth c s₁ B0 hml hv
  obtain ⟨rfl, hv⟩ := hv
  have hx := B0.exec
  have hb := B0.bytes
  have hr := B0.returns
  have hts := atoms_spec (ws := (Cond.code y_Cmd_count prog_15_method_4_code 1 (some .int)) :: tw) B0.pre
  have htw : ∀ w ∈ tw, w.before _ s = true := fun w hw => hts w (List.mem_cons_of_mem _ hw)
  have hown : s.vm.findClass "DrawingMachineModel$DrawCommandsModel" = some m.cls := findClass_of_methodNamed B0.named
  have hlocks := B0.notSynchronized
  obtain ⟨hC, hP, hD, hsz⟩ := wC_init hv
  subst hsz
  generalize hAe : va_A [] s.heap.size = A at hC hD ⊢
  have hS : va_S A s.heap s.heap [] := va_S.rf
  have hl := lv_entry ([.int 9]) (n := 1) (Nat.le_of_ble_eq_true rfl)
  rw [lg_entry_eq]
  generalize (lg_sl ([.int 9]) ++ List.replicate (1 - (lg_sl ([.int 9])).length) Slot.unset).toArray = ls at hl ⊢
  have hl : lv_has ls 1 [(0, .int 9)] := hl
  refine lv_iload_n hx hb d_Cmd_count_0 rfl (lv_at hl 0 rfl) ?_
  refine lv_tableIn (off := 134) (tgt := 135) hx hb d_Cmd_count_1 (by decide) (by decide) (by decide) (by decide) ?_
  refine lv_bipush (v := 6) hx hb d_Cmd_count_135 (by decide) ?_
  refine W.widen (k := 0) (n := 0) (Nat.le_of_ble_eq_true rfl) (Nat.le_of_ble_eq_true rfl) ?_
  have hP9 := hP.sub (ws' := []) [] rfl
  have hD9 := hD.sub (ws' := []) [] (by decide) rfl
  exact W.iret (v := 6) hx hb hr (fun t ht hW => ⟨⟨6, (), rfl, rfl, by rw [ht]; exact hP9, va_K.moved hW.alike hC.1, hD9⟩, hS.F ht⟩) hS.2.2 d_Cmd_count_137

set_option maxHeartbeats 4000000 in
set_option maxRecDepth 100000 in
theorem c_cnt_10 (l : Launch) (D : va_G) (cI cL : ClassId) (B sz : Nat) : Met l y_Cmd_count ((Cond.code y_Cmd_count prog_15_method_4_code 1 (some .int)) :: tw) ({ frames := 20, cells := 0, slots := 0, locals := 2000 }) (va_Pc [.int 10] (wP D cI cL B sz [])) (va_Qi (S := Unit) (fun r u => r = 2) (fun u => wB D cI cL (va_A [] sz) ((fun _ : Unit => []) u)) (va_A [] sz)) 0 0 (va_A [] sz) := by
  refine Met.ofW (cc := prog_15_method_4_code) (maxL := 1) (ret := (some .int)) (by decide) rfl ?_
  intro p e s m args below meth c s₁ B0 hml hv
  obtain ⟨rfl, hv⟩ := hv
  have hx := B0.exec
  have hb := B0.bytes
  have hr := B0.returns
  have hts := atoms_spec (ws := (Cond.code y_Cmd_count prog_15_method_4_code 1 (some .int)) :: tw) B0.pre
  have htw : ∀ w ∈ tw, w.before _ s = true := fun w hw => hts w (List.mem_cons_of_mem _ hw)
  have hown : s.vm.findClass "DrawingMachineModel$DrawCommandsModel" = some m.cls := findClass_of_methodNamed B0.named
  have hlocks := B0.notSynchronized
  obtain ⟨hC, hP, hD, hsz⟩ := wC_init hv
  subst hsz
  generalize hAe : va_A [] s.heap.size = A at hC hD ⊢
  have hS : va_S A s.heap s.heap [] := va_S.rf
  have hl := lv_entry ([.int 10]) (n := 1) (Nat.le_of_ble_eq_true rfl)
  rw [lg_entry_eq]
  generalize (lg_sl ([.int 10]) ++ List.replicate (1 - (lg_sl ([.int 10])).length) Slot.unset).toArray = ls at hl ⊢
  have hl : lv_has ls 1 [(0, .int 10)] := hl
  refine lv_iload_n hx hb d_Cmd_count_0 rfl (lv_at hl 0 rfl) ?_
  refine lv_tableIn (off := 123) (tgt := 124) hx hb d_Cmd_count_1 (by decide) (by decide) (by decide) (by decide) ?_
  refine lv_iconst (v := 2) hx hb d_Cmd_count_124 (by decide) ?_
  refine W.widen (k := 0) (n := 0) (Nat.le_of_ble_eq_true rfl) (Nat.le_of_ble_eq_true rfl) ?_
  have hP9 := hP.sub (ws' := []) [] rfl
  have hD9 := hD.sub (ws' := []) [] (by decide) rfl
  exact W.iret (v := 2) hx hb hr (fun t ht hW => ⟨⟨2, (), rfl, rfl, by rw [ht]; exact hP9, va_K.moved hW.alike hC.1, hD9⟩, hS.F ht⟩) hS.2.2 d_Cmd_count_125

theorem d_Cmd_count_132 : decode prog_15_method_4_code 132 = .ok (.bipush 8, 2) := by decide +kernel
theorem d_Cmd_count_134 : decode prog_15_method_4_code 134 = .ok (.ireturn, 1) := by decide +kernel
set_option maxHeartbeats 4000000 in
set_option maxRecDepth 100000 in
theorem c_cnt_11 (l : Launch) (D : va_G) (cI cL : ClassId) (B sz : Nat) : Met l y_Cmd_count ((Cond.code y_Cmd_count prog_15_method_4_code 1 (some .int)) :: tw) ({ frames := 20, cells := 0, slots := 0, locals := 2000 }) (va_Pc [.int 11] (wP D cI cL B sz [])) (va_Qi (S := Unit) (fun r u => r = 8) (fun u => wB D cI cL (va_A [] sz) ((fun _ : Unit => []) u)) (va_A [] sz)) 0 0 (va_A [] sz) := by
  refine Met.ofW (cc := prog_15_method_4_code) (maxL := 1) (ret := (some .int)) (by decide) rfl ?_
  intro p e s m args below meth c s₁ B0 hml hv
  obtain ⟨rfl, hv⟩ := hv
  have hx := B0.exec
  have hb := B0.bytes
  have hr := B0.returns
  have hts := atoms_spec (ws := (Cond.code y_Cmd_count prog_15_method_4_code 1 (some .int)) :: tw) B0.pre
  have htw : ∀ w ∈ tw, w.before _ s = true := fun w hw => hts w (List.mem_cons_of_mem _ hw)
  have hown : s.vm.findClass "DrawingMachineModel$DrawCommandsModel" = some m.cls := findClass_of_methodNamed B0.named
  have hlocks := B0.notSynchronized
  obtain ⟨hC, hP, hD, hsz⟩ := wC_init hv
  subst hsz
  generalize hAe : va_A [] s.heap.size = A at hC hD ⊢
  have hS : va_S A s.heap s.heap [] := va_S.rf
  have hl := lv_entry ([.int 11]) (n := 1) (Nat.le_of_ble_eq_true rfl)
  rw [lg_entry_eq]
  generalize (lg_sl ([.int 11]) ++ List.replicate (1 - (lg_sl ([.int 11])).length) Slot.unset).toArray = ls at hl ⊢
  have hl : lv_has ls 1 [(0, .int 11)] := hl
  refine lv_iload_n hx hb d_Cmd_count_0 rfl (lv_at hl 0 rfl) ?_
  refine lv_tableIn (off := 131) (tgt := 132) hx hb d_Cmd_count_1 (by decide) (by decide) (by decide) (by decide) ?_
  refine lv_bipush (v := 8) hx hb d_Cmd_count_132 (by decide) ?_
  refine W.widen (k := 0) (n := 0) (Nat.le_of_ble_eq_true rfl) (Nat.le_of_ble_eq_true rfl) ?_
  have hP9 := hP.sub (ws' := []) [] rfl
  have hD9 := hD.sub (ws' := []) [] (by decide) rfl
  exact W.iret (v := 8) hx hb hr (fun t ht hW => ⟨⟨8, (), rfl, rfl, by rw [ht]; exact hP9, va_K.moved hW.alike hC.1, hD9⟩, hS.F ht⟩) hS.2.2 d_Cmd_count_134

set_option maxHeartbeats 4000000 in
set_option maxRecDepth 100000 in
theorem c_cnt_12 (l : Launch) (D : va_G) (cI cL : ClassId) (B sz : Nat) : Met l y_Cmd_count ((Cond.code y_Cmd_count prog_15_method_4_code 1 (some .int)) :: tw) ({ frames := 20, cells := 0, slots := 0, locals := 2000 }) (va_Pc [.int 12] (wP D cI cL B sz [])) (va_Qi (S := Unit) (fun r u => r = 6) (fun u => wB D cI cL (va_A [] sz) ((fun _ : Unit => []) u)) (va_A [] sz)) 0 0 (va_A [] sz) := by
  refine Met.ofW (cc := prog_15_method_4_code) (maxL := 1) (ret := (some .int)) (by decide) rfl ?_
  intro p e s m args below meth c s₁ B0 hml hv
  obtain ⟨rfl, hv⟩ := hv
  have hx := B0.exec
  have hb := B0.bytes
  have hr := B0.returns
  have hts := atoms_spec (ws := (Cond.code y_Cmd_count prog_15_method_4_code 1 (some .int)) :: tw) B0.pre
  have htw : ∀ w ∈ tw, w.before _ s = true := fun w hw => hts w (List.mem_cons_of_mem _ hw)
  have hown : s.vm.findClass "DrawingMachineModel$DrawCommandsModel" = some m.cls := findClass_of_methodNamed B0.named
  have hlocks := B0.notSynchronized
  obtain ⟨hC, hP, hD, hsz⟩ := wC_init hv
  subst hsz
  generalize hAe : va_A [] s.heap.size = A at hC hD ⊢
  have hS : va_S A s.heap s.heap [] := va_S.rf
  have hl := lv_entry ([.int 12]) (n := 1) (Nat.le_of_ble_eq_true rfl)
  rw [lg_entry_eq]
  generalize (lg_sl ([.int 12]) ++ List.replicate (1 - (lg_sl ([.int 12])).length) Slot.unset).toArray = ls at hl ⊢
  have hl : lv_has ls 1 [(0, .int 12)] := hl
  refine lv_iload_n hx hb d_Cmd_count_0 rfl (lv_at hl 0 rfl) ?_
  refine lv_tableIn (off := 134) (tgt := 135) hx hb d_Cmd_count_1 (by decide) (by decide) (by decide) (by decide) ?_
  refine lv_bipush (v := 6) hx hb d_Cmd_count_135 (by decide) ?_
  refine W.widen (k := 0) (n := 0) (Nat.le_of_ble_eq_true rfl) (Nat.le_of_ble_eq_true rfl) ?_
  have hP9 := hP.sub (ws' := []) [] rfl
  have hD9 := hD.sub (ws' := []) [] (by decide) rfl
  exact W.iret (v := 6) hx hb hr (fun t ht hW => ⟨⟨6, (), rfl, rfl, by rw [ht]; exact hP9, va_K.moved hW.alike hC.1, hD9⟩, hS.F ht⟩) hS.2.2 d_Cmd_count_137

theorem d_Cmd_count_122 : decode prog_15_method_4_code 122 = .ok (.iconst 1, 1) := by decide +kernel
theorem d_Cmd_count_123 : decode prog_15_method_4_code 123 = .ok (.ireturn, 1) := by decide +kernel
set_option maxHeartbeats 4000000 in
set_option maxRecDepth 100000 in
theorem c_cnt_13 (l : Launch) (D : va_G) (cI cL : ClassId) (B sz : Nat) : Met l y_Cmd_count ((Cond.code y_Cmd_count prog_15_method_4_code 1 (some .int)) :: tw) ({ frames := 20, cells := 0, slots := 0, locals := 2000 }) (va_Pc [.int 13] (wP D cI cL B sz [])) (va_Qi (S := Unit) (fun r u => r = 1) (fun u => wB D cI cL (va_A [] sz) ((fun _ : Unit => []) u)) (va_A [] sz)) 0 0 (va_A [] sz) := by
  refine Met.ofW (cc := prog_15_method_4_code) (maxL := 1) (ret := (some .int)) (by decide) rfl ?_
  intro p e s m args below meth c s₁ B0 hml hv
  obtain ⟨rfl, hv⟩ := hv
  have hx := B0.exec
  have hb := B0.bytes
  have hr := B0.returns
  have hts := atoms_spec (ws := (Cond.code y_Cmd_count prog_15_method_4_code 1 (some .int)) :: tw) B0.pre
  have htw : ∀ w ∈ tw, w.before _ s = true := fun w hw => hts w (List.mem_cons_of_mem _ hw)
  have hown : s.vm.findClass "DrawingMachineModel$DrawCommandsModel" = some m.cls := findClass_of_methodNamed B0.named
  have hlocks := B0.notSynchronized
  obtain ⟨hC, hP, hD, hsz⟩ := wC_init hv
  subst hsz
  generalize hAe : va_A [] s.heap.size = A at hC hD ⊢
  have hS : va_S A s.heap s.heap [] := va_S.rf
  have hl := lv_entry ([.int 13]) (n := 1) (Nat.le_of_ble_eq_true rfl)
  rw [lg_entry_eq]
  generalize (lg_sl ([.int 13]) ++ List.replicate (1 - (lg_sl ([.int 13])).length) Slot.unset).toArray = ls at hl ⊢
  have hl : lv_has ls 1 [(0, .int 13)] := hl
  refine lv_iload_n hx hb d_Cmd_count_0 rfl (lv_at hl 0 rfl) ?_
  refine lv_tableIn (off := 121) (tgt := 122) hx hb d_Cmd_count_1 (by decide) (by decide) (by decide) (by decide) ?_
  refine lv_iconst (v := 1) hx hb d_Cmd_count_122 (by decide) ?_
  refine W.widen (k := 0) (n := 0) (Nat.le_of_ble_eq_true rfl) (Nat.le_of_ble_eq_true rfl) ?_
  have hP9 := hP.sub (ws' := []) [] rfl
  have hD9 := hD.sub (ws' := []) [] (by decide) rfl
  exact W.iret (v := 1) hx hb hr (fun t ht hW => ⟨⟨1, (), rfl, rfl, by rw [ht]; exact hP9, va_K.moved hW.alike hC.1, hD9⟩, hS.F ht⟩) hS.2.2 d_Cmd_count_123

set_option maxHeartbeats 4000000 in
set_option maxRecDepth 100000 in
theorem c_cnt_14 (l : Launch) (D : va_G) (cI cL : ClassId) (B sz : Nat) : Met l y_Cmd_count ((Cond.code y_Cmd_count prog_15_method_4_code 1 (some .int)) :: tw) ({ frames := 20, cells := 0, slots := 0, locals := 2000 }) (va_Pc [.int 14] (wP D cI cL B sz [])) (va_Qi (S := Unit) (fun r u => r = 1) (fun u => wB D cI cL (va_A [] sz) ((fun _ : Unit => []) u)) (va_A [] sz)) 0 0 (va_A [] sz) := by
  refine Met.ofW (cc := prog_15_method_4_code) (maxL := 1) (ret := (some .int)) (by decide) rfl ?_
  intro p e s m args below meth c s₁ B0 hml hv
  obtain ⟨rfl, hv⟩ := hv
  have hx := B0.exec
  have hb := B0.bytes
  have hr := B0.returns
  have hts := atoms_spec (ws := (Cond.code y_Cmd_count prog_15_method_4_code 1 (some .int)) :: tw) B0.pre
  have htw : ∀ w ∈ tw, w.before _ s = true := fun w hw => hts w (List.mem_cons_of_mem _ hw)
  have hown : s.vm.findClass "DrawingMachineModel$DrawCommandsModel" = some m.cls := findClass_of_methodNamed B0.named
  have hlocks := B0.notSynchronized
  obtain ⟨hC, hP, hD, hsz⟩ := wC_init hv
  subst hsz
  generalize hAe : va_A [] s.heap.size = A at hC hD ⊢
  have hS : va_S A s.heap s.heap [] := va_S.rf
  have hl := lv_entry ([.int 14]) (n := 1) (Nat.le_of_ble_eq_true rfl)
  rw [lg_entry_eq]
  generalize (lg_sl ([.int 14]) ++ List.replicate (1 - (lg_sl ([.int 14])).length) Slot.unset).toArray = ls at hl ⊢
  have hl : lv_has ls 1 [(0, .int 14)] := hl
  refine lv_iload_n hx hb d_Cmd_count_0 rfl (lv_at hl 0 rfl) ?_
  refine lv_tableIn (off := 121) (tgt := 122) hx hb d_Cmd_count_1 (by decide) (by decide) (by decide) (by decide) ?_
  refine lv_iconst (v := 1) hx hb d_Cmd_count_122 (by decide) ?_
  refine W.widen (k := 0) (n := 0) (Nat.le_of_ble_eq_true rfl) (Nat.le_of_ble_eq_true rfl) ?_
  have hP9 := hP.sub (ws' := []) [] rfl
  have hD9 := hD.sub (ws' := []) [] (by decide) rfl
  exact W.iret (v := 1) hx hb hr (fun t ht hW => ⟨⟨1, (), rfl, rfl, by rw [ht]; exact hP9, va_K.moved hW.alike hC.1, hD9⟩, hS.F ht⟩) hS.2.2 d_Cmd_count_123

set_option maxHeartbeats 4000000 in
set_option maxRecDepth 100000 in
theorem c_cnt_15 (l : Launch) (D : va_G) (cI cL : ClassId) (B sz : Nat) : Met l y_Cmd_count ((Cond.code y_Cmd_count prog_15_method_4_code 1 (some .int)) :: tw) ({ frames := 20, cells := 0, slots := 0, locals := 2000 }) (va_Pc [.int 15] (wP D cI cL B sz [])) (va_Qi (S := Unit) (fun r u => r = 1) (fun u => wB D cI cL (va_A [] sz) ((fun _ : Unit => []) u)) (va_A [] sz)) 0 0 (va_A [] sz) := by
  refine Met.ofW (cc := prog_15_method_4_code) (maxL := 1) (ret := (some .int)) (by decide) rfl ?_
  intro p e s m args below meth c s₁ B0 hml hv
  obtain ⟨rfl, hv⟩ := hv
  have hx := B0.exec
  have hb := B0.bytes
  have hr := B0.returns
  have hts := atoms_spec (ws := (Cond.code y_Cmd_count prog_15_method_4_code 1 (some .int)) :: tw) B0.pre
  have htw : ∀ w ∈ tw, w.before _ s = true := fun w hw => hts w (List.mem_cons_of_mem _ hw)
  have hown : s.vm.findClass "DrawingMachineModel$DrawCommandsModel" = some m.cls := findClass_of_methodNamed B0.named
  have hlocks := B0.notSynchronized
  obtain ⟨hC, hP, hD, hsz⟩ := wC_init hv
  subst hsz
  generalize hAe : va_A [] s.heap.size = A at hC hD ⊢
  have hS : va_S A s.heap s.heap [] := va_S.rf
  have hl := lv_entry ([.int 15]) (n := 1) (Nat.le_of_ble_eq_true rfl)
  rw [lg_entry_eq]
  generalize (lg_sl ([.int 15]) ++ List.replicate (1 - (lg_sl ([.int 15])).length) Slot.unset).toArray = ls at hl ⊢
  have hl : lv_has ls 1 [(0, .int 15)] := hl
  refine lv_iload_n hx hb d_Cmd_count_0 rfl (lv_at hl 0 rfl) ?_
  refine lv_tableIn (off := 121) (tgt := 122) hx hb d_Cmd_count_1 (by decide) (by decide) (by decide) (by decide) ?_
  refine lv_iconst (v := 1) hx hb d_Cmd_count_122 (by decide) ?_
  refine W.widen (k := 0) (n := 0) (Nat.le_of_ble_eq_true rfl) (Nat.le_of_ble_eq_true rfl) ?_
  have hP9 := hP.sub (ws' := []) [] rfl
  have hD9 := hD.sub (ws' := []) [] (by decide) rfl
  exact W.iret (v := 1) hx hb hr (fun t ht hW => ⟨⟨1, (), rfl, rfl, by rw [ht]; exact hP9, va_K.moved hW.alike hC.1, hD9⟩, hS.F ht⟩) hS.2.2 d_Cmd_count_123

set_option maxHeartbeats 4000000 in
set_option maxRecDepth 100000 in
theorem c_cnt_16 (l : Launch) (D : va_G) (cI cL : ClassId) (B sz : Nat) : Met l y_Cmd_count ((Cond.code y_Cmd_count prog_15_method_4_code 1 (some .int)) :: tw) ({ frames := 20, cells := 0, slots := 0, locals := 2000 }) (va_Pc [.int 16] (wP D cI cL B sz [])) (va_Qi (S := Unit) (fun r u => r = 2) (fun u => wB D cI cL (va_A [] sz) ((fun _ : Unit => []) u)) (va_A [] sz)) 0 0 (va_A [] sz) := by
  refine Met.ofW (cc := prog_15_method_4_code) (maxL := 1) (ret := (some .int)) (by decide) rfl ?_
  intro p e s m args below meth c s₁ B0 hml hv
  obtain ⟨rfl, hv⟩ := hv
  have hx := B0.exec
  have hb := B0.bytes
  have hr := B0.returns
  have hts := atoms_spec (ws := (Cond.code y_Cmd_count prog_15_method_4_code 1 (some .int)) :: tw) B0.pre
  have htw : ∀ w ∈ tw, w.before _ s = true := fun w hw => hts w (List.mem_cons_of_mem _ hw)
  have hown : s.vm.findClass "DrawingMachineModel$DrawCommandsModel" = some m.cls := findClass_of_methodNamed B0.named
  have hlocks := B0.notSynchronized
  obtain ⟨hC, hP, hD, hsz⟩ := wC_init hv
  subst hsz
  generalize hAe : va_A [] s.heap.size = A at hC hD ⊢
  have hS : va_S A s.heap s.heap [] := va_S.rf
  have hl := lv_entry ([.int 16]) (n := 1) (Nat.le_of_ble_eq_true rfl)
  rw [lg_entry_eq]
  generalize (lg_sl ([.int 16]) ++ List.replicate (1 - (lg_sl ([.int 16])).length) Slot.unset).toArray = ls at hl ⊢
  have hl : lv_has ls 1 [(0, .int 16)] := hl
  refine lv_iload_n hx hb d_Cmd_count_0 rfl (lv_at hl 0 rfl) ?_
  refine lv_tableIn (off := 123) (tgt := 124) hx hb d_Cmd_count_1 (by decide) (by decide) (by decide) (by decide) ?_
  refine lv_iconst (v := 2) hx hb d_Cmd_count_124 (by decide) ?_
  refine W.widen (k := 0) (n := 0) (Nat.le_of_ble_eq_true rfl) (Nat.le_of_ble_eq_true rfl) ?_
  have hP9 := hP.sub (ws' := []) [] rfl
  have hD9 := hD.sub (ws' := []) [] (by decide) rfl
  exact W.iret (v := 2) hx hb hr (fun t ht hW => ⟨⟨2, (), rfl, rfl, by rw [ht]; exact hP9, va_K.moved hW.alike hC.1, hD9⟩, hS.F ht⟩) hS.2.2 d_Cmd_count_125

set_option maxHeartbeats 4000000 in
set_option maxRecDepth 100000 in
theorem c_cnt_17 (l : Launch) (D : va_G) (cI cL : ClassId) (B sz : Nat) : Met l y_Cmd_count ((Cond.code y_Cmd_count prog_15_method_4_code 1 (some .int)) :: tw) ({ frames := 20, cells := 0, slots := 0, locals := 2000 }) (va_Pc [.int 17] (wP D cI cL B sz [])) (va_Qi (S := Unit) (fun r u => r = 3) (fun u => wB D cI cL (va_A [] sz) ((fun _ : Unit => []) u)) (va_A [] sz)) 0 0 (va_A [] sz) := by
  refine Met.ofW (cc := prog_15_method_4_code) (maxL := 1) (ret := (some .int)) (by decide) rfl ?_
  intro p e s m args below meth c s₁ B0 hml hv
  obtain ⟨rfl, hv⟩ := hv
  have hx := B0.exec
  have hb := B0.bytes
  have hr := B0.returns
  have hts := atoms_spec (ws := (Cond.code y_Cmd_count prog_15_method_4_code 1 (some .int)) :: tw) B0.pre
  have htw : ∀ w ∈ tw, w.before _ s = true := fun w hw => hts w (List.mem_cons_of_mem _ hw)
  have hown : s.vm.findClass "DrawingMachineModel$DrawCommandsModel" = some m.cls := findClass_of_methodNamed B0.named
  have hlocks := B0.notSynchronized
  obtain ⟨hC, hP, hD, hsz⟩ := wC_init hv
  subst hsz
  generalize hAe : va_A [] s.heap.size = A at hC hD ⊢
  have hS : va_S A s.heap s.heap [] := va_S.rf
  have hl := lv_entry ([.int 17]) (n := 1) (Nat.le_of_ble_eq_true rfl)
  rw [lg_entry_eq]
  generalize (lg_sl ([.int 17]) ++ List.replicate (1 - (lg_sl ([.int 17])).length) Slot.unset).toArray = ls at hl ⊢
  have hl : lv_has ls 1 [(0, .int 17)] := hl
  refine lv_iload_n hx hb d_Cmd_count_0 rfl (lv_at hl 0 rfl) ?_
  refine lv_tableIn (off := 125) (tgt := 126) hx hb d_Cmd_count_1 (by decide) (by decide) (by decide) (by decide) ?_
  refine lv_iconst (v := 3) hx hb d_Cmd_count_126 (by decide) ?_
  refine W.widen (k := 0) (n := 0) (Nat.le_of_ble_eq_true rfl) (Nat.le_of_ble_eq_true rfl) ?_
  have hP9 := hP.sub (ws' := []) [] rfl
  have hD9 := hD.sub (ws' := []) [] (by decide) rfl
  exact W.iret (v := 3) hx hb hr (fun t ht hW => ⟨⟨3, (), rfl, rfl, by rw [ht]; exact hP9, va_K.moved hW.alike hC.1, hD9⟩, hS.F ht⟩) hS.2.2 d_Cmd_count_127

set_option maxHeartbeats 4000000 in
set_option maxRecDepth 100000 in
theorem c_cnt_18 (l : Launch) (D : va_G) (cI cL : ClassId) (B sz : Nat) : Met l y_Cmd_count ((Cond.code y_Cmd_count prog_15_method_4_code 1 (some .int)) :: tw) ({ frames := 20, cells := 0, slots := 0, locals := 2000 }) (va_Pc [.int 18] (wP D cI cL B sz [])) (va_Qi (S := Unit) (fun r u => r = 5) (fun u => wB D cI cL (va_A [] sz) ((fun _ : Unit => []) u)) (va_A [] sz)) 0 0 (va_A [] sz) := by
  refine Met.ofW (cc := prog_15_method_4_code) (maxL := 1) (ret := (some .int)) (by decide) rfl ?_
  intro p e s m args below meth c s₁ B0 hml hv
  obtain ⟨rfl, hv⟩ := hv
  have hx := B0.exec
  have hb := B0.bytes
  have hr := B0.returns
  have hts := atoms_spec (ws := (Cond.code y_Cmd_count prog_15_method_4_code 1 (some .int)) :: tw) B0.pre
  have htw : ∀ w ∈ tw, w.before _ s = true := fun w hw => hts w (List.mem_cons_of_mem _ hw)
  have hown : s.vm.findClass "DrawingMachineModel$DrawCommandsModel" = some m.cls := findClass_of_methodNamed B0.named
  have hlocks := B0.notSynchronized
  obtain ⟨hC, hP, hD, hsz⟩ := wC_init hv
  subst hsz
  generalize hAe : va_A [] s.heap.size = A at hC hD ⊢
  have hS : va_S A s.heap s.heap [] := va_S.rf
  have hl := lv_entry ([.int 18]) (n := 1) (Nat.le_of_ble_eq_true rfl)
  rw [lg_entry_eq]
  generalize (lg_sl ([.int 18]) ++ List.replicate (1 - (lg_sl ([.int 18])).length) Slot.unset).toArray = ls at hl ⊢
  have hl : lv_has ls 1 [(0, .int 18)] := hl
  refine lv_iload_n hx hb d_Cmd_count_0 rfl (lv_at hl 0 rfl) ?_
  refine lv_tableIn (off := 129) (tgt := 130) hx hb d_Cmd_count_1 (by decide) (by decide) (by decide) (by decide) ?_
  refine lv_iconst (v := 5) hx hb d_Cmd_count_130 (by decide) ?_
  refine W.widen (k := 0) (n := 0) (Nat.le_of_ble_eq_true rfl) (Nat.le_of_ble_eq_true rfl) ?_
  have hP9 := hP.sub (ws' := []) [] rfl
  have hD9 := hD.sub (ws' := []) [] (by decide) rfl
  exact W.iret (v := 5) hx hb hr (fun t ht hW => ⟨⟨5, (), rfl, rfl, by rw [ht]; exact hP9, va_K.moved hW.alike hC.1, hD9⟩, hS.F ht⟩) hS.2.2 d_Cmd_count_131

set_option maxHeartbeats 4000000 in
set_option maxRecDepth 100000 in
theorem c_cnt_19 (l : Launch) (D : va_G) (cI cL : ClassId) (B sz : Nat) : Met l y_Cmd_count ((Cond.code y_Cmd_count prog_15_method_4_code 1 (some .int)) :: tw) ({ frames := 20, cells := 0, slots := 0, locals := 2000 }) (va_Pc [.int 19] (wP D cI cL B sz [])) (va_Qi (S := Unit) (fun r u => r = 2) (fun u => wB D cI cL (va_A [] sz) ((fun _ : Unit => []) u)) (va_A [] sz)) 0 0 (va_A [] sz) := by
  refine Met.ofW (cc := prog_15_method_4_code) (maxL := 1) (ret := (some .int)) (by decide) rfl ?_
  intro p e s m args below meth c s₁ B0 hml hv
  obtain ⟨rfl, hv⟩ := hv
  have hx := B0.exec
  have hb := B0.bytes
  have hr := B0.returns
  have hts := atoms_spec (ws := (Cond.code y_Cmd_count prog_15_method_4_code 1 (some .int)) :: tw) B0.pre
  have htw : ∀ w ∈ tw, w.before _ s = true := fun w hw => hts w (List.mem_cons_of_mem _ hw)
  have hown : s.vm.findClass "DrawingMachineModel$DrawCommandsModel" = some m.cls := findClass_of_methodNamed B0.named
  have hlocks := B0.notSynchronized
  obtain ⟨hC, hP, hD, hsz⟩ := wC_init hv
  subst hsz
  generalize hAe : va_A [] s.heap.size = A at hC hD ⊢
  have hS : va_S A s.heap s.heap [] := va_S.rf
  have hl := lv_entry ([.int 19]) (n := 1) (Nat.le_of_ble_eq_true rfl)
  rw [lg_entry_eq]
  generalize (lg_sl ([.int 19]) ++ List.replicate (1 - (lg_sl ([.int 19])).length) Slot.unset).toArray = ls at hl ⊢
  have hl : lv_has ls 1 [(0, .int 19)] := hl
  refine lv_iload_n hx hb d_Cmd_count_0 rfl (lv_at hl 0 rfl) ?_
  refine lv_tableIn (off := 123) (tgt := 124) hx hb d_Cmd_count_1 (by decide) (by decide) (by decide) (by decide) ?_
  refine lv_iconst (v := 2) hx hb d_Cmd_count_124 (by decide) ?_
  refine W.widen (k := 0) (n := 0) (Nat.le_of_ble_eq_true rfl) (Nat.le_of_ble_eq_true rfl) ?_
  have hP9 := hP.sub (ws' := []) [] rfl
  have hD9 := hD.sub (ws' := []) [] (by decide) rfl
  exact W.iret (v := 2) hx hb hr (fun t ht hW => ⟨⟨2, (), rfl, rfl, by rw [ht]; exact hP9, va_K.moved hW.alike hC.1, hD9⟩, hS.F ht⟩) hS.2.2 d_Cmd_count_125

set_option maxHeartbeats 4000000 in
set_option maxRecDepth 100000 in
theorem c_cnt_20 (l : Launch) (D : va_G) (cI cL : ClassId) (B sz : Nat) : Met l y_Cmd_count ((Cond.code y_Cmd_count prog_15_method_4_code 1 (some .int)) :: tw) ({ frames := 20, cells := 0, slots := 0, locals := 2000 }) (va_Pc [.int 20] (wP D cI cL B sz [])) (va_Qi (S := Unit) (fun r u => r = 6) (fun u => wB D cI cL (va_A [] sz) ((fun _ : Unit => []) u)) (va_A [] sz)) 0 0 (va_A [] sz) := by
  refine Met.ofW (cc := prog_15_method_4_code) (maxL := 1) (ret := (some .int)) (by decide) rfl ?_
  intro p e s m args below meth c s₁ B0 hml hv
  obtain ⟨rfl, hv⟩ := hv
  have hx := B0.exec
  have hb := B0.bytes
  have hr := B0.returns
  have hts := atoms_spec (ws := (Cond.code y_Cmd_count prog_15_method_4_code 1 (some .int)) :: tw) B0.pre
  have htw : ∀ w ∈ tw, w.before _ s = true := fun w hw => hts w (List.mem_cons_of_mem _ hw)
  have hown : s.vm.findClass "DrawingMachineModel$DrawCommandsModel" = some m.cls := findClass_of_methodNamed B0.named
  have hlocks := B0.notSynchronized
  obtain ⟨hC, hP, hD, hsz⟩ := wC_init hv
  subst hsz
  generalize hAe : va_A [] s.heap.size = A at hC hD ⊢
  have hS : va_S A s.heap s.heap [] := va_S.rf
  have hl := lv_entry ([.int 20]) (n := 1) (Nat.le_of_ble_eq_true rfl)
  rw [lg_entry_eq]
  generalize (lg_sl ([.int 20]) ++ List.replicate (1 - (lg_sl ([.int 20])).length) Slot.unset).toArray = ls at hl ⊢
  have hl : lv_has ls 1 [(0, .int 20)] := hl
  refine lv_iload_n hx hb d_Cmd_count_0 rfl (lv_at hl 0 rfl) ?_
  refine lv_tableIn (off := 134) (tgt := 135) hx hb d_Cmd_count_1 (by decide) (by decide) (by decide) (by decide) ?_
  refine lv_bipush (v := 6) hx hb d_Cmd_count_135 (by decide) ?_
  refine W.widen (k := 0) (n := 0) (Nat.le_of_ble_eq_true rfl) (Nat.le_of_ble_eq_true rfl) ?_
  have hP9 := hP.sub (ws' := []) [] rfl
  have hD9 := hD.sub (ws' := []) [] (by decide) rfl
  exact W.iret (v := 6) hx hb hr (fun t ht hW => ⟨⟨6, (), rfl, rfl, by rw [ht]; exact hP9, va_K.moved hW.alike hC.1, hD9⟩, hS.F ht⟩) hS.2.2 d_Cmd_count_137

set_option maxHeartbeats 4000000 in
set_option maxRecDepth 100000 in
theorem c_cnt_21 (l : Launch) (D : va_G) (cI cL : ClassId) (B sz : Nat) : Met l y_Cmd_count ((Cond.code y_Cmd_count prog_15_method_4_code 1 (some .int)) :: tw) ({ frames := 20, cells := 0, slots := 0, locals := 2000 }) (va_Pc [.int 21] (wP D cI cL B sz [])) (va_Qi (S := Unit) (fun r u => r = 2) (fun u => wB D cI cL (va_A [] sz) ((fun _ : Unit => []) u)) (va_A [] sz)) 0 0 (va_A [] sz) := by
  refine Met.ofW (cc := prog_15_method_4_code) (maxL := 1) (ret := (some .int)) (by decide) rfl ?_
  intro p e s m args below meth c s₁ B0 hml hv
  obtain ⟨rfl, hv⟩ := hv
  have hx := B0.exec
  have hb := B0.bytes
  have hr := B0.returns
  have hts := atoms_spec (ws := (Cond.code y_Cmd_count prog_15_method_4_code 1 (some .int)) :: tw) B0.pre
  have htw : ∀ w ∈ tw, w.before _ s = true := fun w hw => hts w (List.mem_cons_of_mem _ hw)
  have hown : s.vm.findClass "DrawingMachineModel$DrawCommandsModel" = some m.cls := findClass_of_methodNamed B0.named
  have hlocks := B0.notSynchronized
  obtain ⟨hC, hP, hD, hsz⟩ := wC_init hv
  subst hsz
  generalize hAe : va_A [] s.heap.size = A at hC hD ⊢
  have hS : va_S A s.heap s.heap [] := va_S.rf
  have hl := lv_entry ([.int 21]) (n := 1) (Nat.le_of_ble_eq_true rfl)
  rw [lg_entry_eq]
  generalize (lg_sl ([.int 21]) ++ List.replicate (1 - (lg_sl ([.int 21])).length) Slot.unset).toArray = ls at hl ⊢
  have hl : lv_has ls 1 [(0, .int 21)] := hl
  refine lv_iload_n hx hb d_Cmd_count_0 rfl (lv_at hl 0 rfl) ?_
  refine lv_tableIn (off := 123) (tgt := 124) hx hb d_Cmd_count_1 (by decide) (by decide) (by decide) (by decide) ?_
  refine lv_iconst (v := 2) hx hb d_Cmd_count_124 (by decide) ?_
  refine W.widen (k := 0) (n := 0) (Nat.le_of_ble_eq_true rfl) (Nat.le_of_ble_eq_true rfl) ?_
  have hP9 := hP.sub (ws' := []) [] rfl
  have hD9 := hD.sub (ws' := []) [] (by decide) rfl
  exact W.iret (v := 2) hx hb hr (fun t ht hW => ⟨⟨2, (), rfl, rfl, by rw [ht]; exact hP9, va_K.moved hW.alike hC.1, hD9⟩, hS.F ht⟩) hS.2.2 d_Cmd_count_125

set_option maxHeartbeats 4000000 in
set_option maxRecDepth 100000 in
theorem c_cnt_22 (l : Launch) (D : va_G) (cI cL : ClassId) (B sz : Nat) : Met l y_Cmd_count ((Cond.code y_Cmd_count prog_15_method_4_code 1 (some .int)) :: tw) ({ frames := 20, cells := 0, slots := 0, locals := 2000 }) (va_Pc [.int 22] (wP D cI cL B sz [])) (va_Qi (S := Unit) (fun r u => r = 0) (fun u => wB D cI cL (va_A [] sz) ((fun _ : Unit => []) u)) (va_A [] sz)) 0 0 (va_A [] sz) := by
  refine Met.ofW (cc := prog_15_method_4_code) (maxL := 1) (ret := (some .int)) (by decide) rfl ?_
  intro p e s m args below meth c s₁ B0 hml hv
  obtain ⟨rfl, hv⟩ := hv
  have hx := B0.exec
  have hb := B0.bytes
  have hr := B0.returns
  have hts := atoms_spec (ws := (Cond.code y_Cmd_count prog_15_method_4_code 1 (some .int)) :: tw) B0.pre
  have htw : ∀ w ∈ tw, w.before _ s = true := fun w hw => hts w (List.mem_cons_of_mem _ hw)
  have hown : s.vm.findClass "DrawingMachineModel$DrawCommandsModel" = some m.cls := findClass_of_methodNamed B0.named
  have hlocks := B0.notSynchronized
  obtain ⟨hC, hP, hD, hsz⟩ := wC_init hv
  subst hsz
  generalize hAe : va_A [] s.heap.size = A at hC hD ⊢
  have hS : va_S A s.heap s.heap [] := va_S.rf
  have hl := lv_entry ([.int 22]) (n := 1) (Nat.le_of_ble_eq_true rfl)
  rw [lg_entry_eq]
  generalize (lg_sl ([.int 22]) ++ List.replicate (1 - (lg_sl ([.int 22])).length) Slot.unset).toArray = ls at hl ⊢
  have hl : lv_has ls 1 [(0, .int 22)] := hl
  refine lv_iload_n hx hb d_Cmd_count_0 rfl (lv_at hl 0 rfl) ?_
  refine lv_tableIn (off := 119) (tgt := 120) hx hb d_Cmd_count_1 (by decide) (by decide) (by decide) (by decide) ?_
  refine lv_iconst (v := 0) hx hb d_Cmd_count_120 (by decide) ?_
  refine W.widen (k := 0) (n := 0) (Nat.le_of_ble_eq_true rfl) (Nat.le_of_ble_eq_true rfl) ?_
  have hP9 := hP.sub (ws' := []) [] rfl
  have hD9 := hD.sub (ws' := []) [] (by decide) rfl
  exact W.iret (v := 0) hx hb hr (fun t ht hW => ⟨⟨0, (), rfl, rfl, by rw [ht]; exact hP9, va_K.moved hW.alike hC.1, hD9⟩, hS.F ht⟩) hS.2.2 d_Cmd_count_121

set_option maxHeartbeats 4000000 in
set_option maxRecDepth 100000 in
theorem c_cnt_23 (l : Launch) (D : va_G) (cI cL : ClassId) (B sz : Nat) : Met l y_Cmd_count ((Cond.code y_Cmd_count prog_15_method_4_code 1 (some .int)) :: tw) ({ frames := 20, cells := 0, slots := 0, locals := 2000 }) (va_Pc [.int 23] (wP D cI cL B sz [])) (va_Qi (S := Unit) (fun r u => r = 1) (fun u => wB D cI cL (va_A [] sz) ((fun _ : Unit => []) u)) (va_A [] sz)) 0 0 (va_A [] sz) := by
  refine Met.ofW (cc := prog_15_method_4_code) (maxL := 1) (ret := (some .int)) (by decide) rfl ?_
  intro p e s m args below meth c s₁ B0 hml hv
  obtain ⟨rfl, hv⟩ := hv
  have hx := B0.exec
  have hb := B0.bytes
  have hr := B0.returns
  have hts := atoms_spec (ws := (Cond.code y_Cmd_count prog_15_method_4_code 1 (some .int)) :: tw) B0.pre
  have htw : ∀ w ∈ tw, w.before _ s = true := fun w hw => hts w (List.mem_cons_of_mem _ hw)
  have hown : s.vm.findClass "DrawingMachineModel$DrawCommandsModel" = some m.cls := findClass_of_methodNamed B0.named
  have hlocks := B0.notSynchronized
  obtain ⟨hC, hP, hD, hsz⟩ := wC_init hv
  subst hsz
  generalize hAe : va_A [] s.heap.size = A at hC hD ⊢
  have hS : va_S A s.heap s.heap [] := va_S.rf
  have hl := lv_entry ([.int 23]) (n := 1) (Nat.le_of_ble_eq_true rfl)
  rw [lg_entry_eq]
  generalize (lg_sl ([.int 23]) ++ List.replicate (1 - (lg_sl ([.int 23])).length) Slot.unset).toArray = ls at hl ⊢
  have hl : lv_has ls 1 [(0, .int 23)] := hl
  refine lv_iload_n hx hb d_Cmd_count_0 rfl (lv_at hl 0 rfl) ?_
  refine lv_tableIn (off := 121) (tgt := 122) hx hb d_Cmd_count_1 (by decide) (by decide) (by decide) (by decide) ?_
  refine lv_iconst (v := 1) hx hb d_Cmd_count_122 (by decide) ?_
  refine W.widen (k := 0) (n := 0) (Nat.le_of_ble_eq_true rfl) (Nat.le_of_ble_eq_true rfl) ?_
  have hP9 := hP.sub (ws' := []) [] rfl
  have hD9 := hD.sub (ws' := []) [] (by decide) rfl
  exact W.iret (v := 1) hx hb hr (fun t ht hW => ⟨⟨1, (), rfl, rfl, by rw [ht]; exact hP9, va_K.moved hW.alike hC.1, hD9⟩, hS.F ht⟩) hS.2.2 d_Cmd_count_123

set_option maxHeartbeats 4000000 in
set_option maxRecDepth 100000 in
theorem c_cnt_24 (l : Launch) (D : va_G) (cI cL : ClassId) (B sz : Nat) : Met l y_Cmd_count ((Cond.code y_Cmd_count prog_15_method_4_code 1 (some .int)) :: tw) ({ frames := 20, cells := 0, slots := 0, locals := 2000 }) (va_Pc [.int 24] (wP D cI cL B sz [])) (va_Qi (S := Unit) (fun r u => r = 4) (fun u => wB D cI cL (va_A [] sz) ((fun _ : Unit => []) u)) (va_A [] sz)) 0 0 (va_A [] sz) := by
  refine Met.ofW (cc := prog_15_method_4_code) (maxL := 1) (ret := (some .int)) (by decide) rfl ?_
  intro p e s m args below meth c s₁ B0 hml hv
  obtain ⟨rfl, hv⟩ := hv
  have hx := B0.exec
  have hb := B0.bytes
  have hr := B0.returns
  have hts := atoms_spec (ws := (Cond.code y_Cmd_count prog_15_method_4_code 1 (some .int)) :: tw) B0.pre
  have htw : ∀ w ∈ tw, w.before _ s = true := fun w hw => hts w (List.mem_cons_of_mem _ hw)
  have hown : s.vm.findClass "DrawingMachineModel$DrawCommandsModel" = some m.cls := findClass_of_methodNamed B0.named
  have hlocks := B0.notSynchronized
  obtain ⟨hC, hP, hD, hsz⟩ := wC_init hv
  subst hsz
  generalize hAe : va_A [] s.heap.size = A at hC hD ⊢
  have hS : va_S A s.heap s.heap [] := va_S.rf
  have hl := lv_entry ([.int 24]) (n := 1) (Nat.le_of_ble_eq_true rfl)
  rw [lg_entry_eq]
  generalize (lg_sl ([.int 24]) ++ List.replicate (1 - (lg_sl ([.int 24])).length) Slot.unset).toArray = ls at hl ⊢
  have hl : lv_has ls 1 [(0, .int 24)] := hl
  refine lv_iload_n hx hb d_Cmd_count_0 rfl (lv_at hl 0 rfl) ?_
  refine lv_tableIn (off := 127) (tgt := 128) hx hb d_Cmd_count_1 (by decide) (by decide) (by decide) (by decide) ?_
  refine lv_iconst (v := 4) hx hb d_Cmd_count_128 (by decide) ?_
  refine W.widen (k := 0) (n := 0) (Nat.le_of_ble_eq_true rfl) (Nat.le_of_ble_eq_true rfl) ?_
  have hP9 := hP.sub (ws' := []) [] rfl
  have hD9 := hD.sub (ws' := []) [] (by decide) rfl
  exact W.iret (v := 4) hx hb hr (fun t ht hW => ⟨⟨4, (), rfl, rfl, by rw [ht]; exact hP9, va_K.moved hW.alike hC.1, hD9⟩, hS.F ht⟩) hS.2.2 d_Cmd_count_129

set_option maxHeartbeats 4000000 in
set_option maxRecDepth 100000 in
theorem c_cnt_25 (l : Launch) (D : va_G) (cI cL : ClassId) (B sz : Nat) : Met l y_Cmd_count ((Cond.code y_Cmd_count prog_15_method_4_code 1 (some .int)) :: tw) ({ frames := 20, cells := 0, slots := 0, locals := 2000 }) (va_Pc [.int 25] (wP D cI cL B sz [])) (va_Qi (S := Unit) (fun r u => r = 5) (fun u => wB D cI cL (va_A [] sz) ((fun _ : Unit => []) u)) (va_A [] sz)) 0 0 (va_A [] sz) := by
  refine Met.ofW (cc := prog_15_method_4_code) (maxL := 1) (ret := (some .int)) (by decide) rfl ?_
  intro p e s m args below meth c s₁ B0 hml hv
  obtain ⟨rfl, hv⟩ := hv
  have hx := B0.exec
  have hb := B0.bytes
  have hr := B0.returns
  have hts := atoms_spec (ws := (Cond.code y_Cmd_count prog_15_method_4_code 1 (some .int)) :: tw) B0.pre
  have htw : ∀ w ∈ tw, w.before _ s = true := fun w hw => hts w (List.mem_cons_of_mem _ hw)
  have hown : s.vm.findClass "DrawingMachineModel$DrawCommandsModel" = some m.cls := findClass_of_methodNamed B0.named
  have hlocks := B0.notSynchronized
  obtain ⟨hC, hP, hD, hsz⟩ := wC_init hv
  subst hsz
  generalize hAe : va_A [] s.heap.size = A at hC hD ⊢
  have hS : va_S A s.heap s.heap [] := va_S.rf
  have hl := lv_entry ([.int 25]) (n := 1) (Nat.le_of_ble_eq_true rfl)
  rw [lg_entry_eq]
  generalize (lg_sl ([.int 25]) ++ List.replicate (1 - (lg_sl ([.int 25])).length) Slot.unset).toArray = ls at hl ⊢
  have hl : lv_has ls 1 [(0, .int 25)] := hl
  refine lv_iload_n hx hb d_Cmd_count_0 rfl (lv_at hl 0 rfl) ?_
  refine lv_tableIn (off := 129) (tgt := 130) hx hb d_Cmd_count_1 (by decide) (by decide) (by decide) (by decide) ?_
  refine lv_iconst (v := 5) hx hb d_Cmd_count_130 (by decide) ?_
  refine W.widen (k := 0) (n := 0) (Nat.le_of_ble_eq_true rfl) (Nat.le_of_ble_eq_true rfl) ?_
  have hP9 := hP.sub (ws' := []) [] rfl
  have hD9 := hD.sub (ws' := []) [] (by decide) rfl
  exact W.iret (v := 5) hx hb hr (fun t ht hW => ⟨⟨5, (), rfl, rfl, by rw [ht]; exact hP9, va_K.moved hW.alike hC.1, hD9⟩, hS.F ht⟩) hS.2.2 d_Cmd_count_131

theorem c_many (l : Launch) (D : va_G) (cI cL : ClassId) (B sz : Nat) (k : Nat) (hk : k < 26) : Met l y_Cmd_many ((Cond.code y_Cmd_many prog_15_method_10_code 1 (some .int)) :: tw) ({ frames := 20, cells := 0, slots := 0, locals := 2000 }) (va_Pc [.int (nI k)] (wP D cI cL B sz [])) (va_Qi (S := Unit) (fun r u => r = nI (mny k)) (fun u => wB D cI cL (va_A [] sz) ((fun _ : Unit => []) u)) (va_A [] sz)) 0 0 (va_A [] sz) := by
  rcases (show k = 0 ∨ k = 1 ∨ k = 2 ∨ k = 3 ∨ k = 4 ∨ k = 5 ∨ k = 6 ∨ k = 7 ∨ k = 8 ∨ k = 9 ∨ k = 10 ∨ k = 11 ∨ k = 12 ∨ k = 13 ∨ k = 14 ∨ k = 15 ∨ k = 16 ∨ k = 17 ∨ k = 18 ∨ k = 19 ∨ k = 20 ∨ k = 21 ∨ k = 22 ∨ k = 23 ∨ k = 24 ∨ k = 25 by omega) with rfl | rfl | rfl | rfl | rfl | rfl | rfl | rfl | rfl | rfl | rfl | rfl | rfl | rfl | rfl | rfl | rfl | rfl | rfl | rfl | rfl | rfl | rfl | rfl | rfl | rfl
  · exact c_many_0 l D cI cL B sz
  · exact c_many_1 l D cI cL B sz
  · exact c_many_2 l D cI cL B sz
  · exact c_many_3 l D cI cL B sz
  · exact c_many_4 l D cI cL B sz
  · exact c_many_5 l D cI cL B sz
  · exact c_many_6 l D cI cL B sz
  · exact c_many_7 l D cI cL B sz
  · exact c_many_8 l D cI cL B sz
  · exact c_many_9 l D cI cL B sz
  · exact c_many_10 l D cI cL B sz
  · exact c_many_11 l D cI cL B sz
  · exact c_many_12 l D cI cL B sz
  · exact c_many_13 l D cI cL B sz
  · exact c_many_14 l D cI cL B sz
  · exact c_many_15 l D cI cL B sz
  · exact c_many_16 l D cI cL B sz
  · exact c_many_17 l D cI cL B sz
  · exact c_many_18 l D cI cL B sz
  · exact c_many_19 l D cI cL B sz
  · exact c_many_20 l D cI cL B sz
  · exact c_many_21 l D cI cL B sz
  · exact c_many_22 l D cI cL B sz
  · exact c_many_23 l D cI cL B sz
  · exact c_many_24 l D cI cL B sz
  · exact c_many_25 l D cI cL B sz

theorem c_cnt (l : Launch) (D : va_G) (cI cL : ClassId) (B sz : Nat) (k : Nat) (hk : k < 26) : Met l y_Cmd_count ((Cond.code y_Cmd_count prog_15_method_4_code 1 (some .int)) :: tw) ({ frames := 20, cells := 0, slots := 0, locals := 2000 }) (va_Pc [.int (nI k)] (wP D cI cL B sz [])) (va_Qi (S := Unit) (fun r u => r = nI (cnt k)) (fun u => wB D cI cL (va_A [] sz) ((fun _ : Unit => []) u)) (va_A [] sz)) 0 0 (va_A [] sz) := by
  rcases (show k = 0 ∨ k = 1 ∨ k = 2 ∨ k = 3 ∨ k = 4 ∨ k = 5 ∨ k = 6 ∨ k = 7 ∨ k = 8 ∨ k = 9 ∨ k = 10 ∨ k = 11 ∨ k = 12 ∨ k = 13 ∨ k = 14 ∨ k = 15 ∨ k = 16 ∨ k = 17 ∨ k = 18 ∨ k = 19 ∨ k = 20 ∨ k = 21 ∨ k = 22 ∨ k = 23 ∨ k = 24 ∨ k = 25 by omega) with rfl | rfl | rfl | rfl | rfl | rfl | rfl | rfl | rfl | rfl | rfl | rfl | rfl | rfl | rfl | rfl | rfl | rfl | rfl | rfl | rfl | rfl | rfl | rfl | rfl | rfl
  · exact c_cnt_0 l D cI cL B sz
  · exact c_cnt_1 l D cI cL B sz
  · exact c_cnt_2 l D cI cL B sz
  · exact c_cnt_3 l D cI cL B sz
  · exact c_cnt_4 l D cI cL B sz
  · exact c_cnt_5 l D cI cL B sz
  · exact c_cnt_6 l D cI cL B sz
  · exact c_cnt_7 l D cI cL B sz
  · exact c_cnt_8 l D cI cL B sz
  · exact c_cnt_9 l D cI cL B sz
  · exact c_cnt_10 l D cI cL B sz
  · exact c_cnt_11 l D cI cL B sz
  · exact c_cnt_12 l D cI cL B sz
  · exact c_cnt_13 l D cI cL B sz
  · exact c_cnt_14 l D cI cL B sz
  · exact c_cnt_15 l D cI cL B sz
  · exact c_cnt_16 l D cI cL B sz
  · exact c_cnt_17 l D cI cL B sz
  · exact c_cnt_18 l D cI cL B sz
  · exact c_cnt_19 l D cI cL B sz
  · exact c_cnt_20 l D cI cL B sz
  · exact c_cnt_21 l D cI cL B sz
  · exact c_cnt_22 l D cI cL B sz
  · exact c_cnt_23 l D cI cL B sz
  · exact c_cnt_24 l D cI cL B sz
  · exact c_cnt_25 l D cI cL B sz

theorem d_Cmd_rowOf_0 : decode prog_15_method_11_code 0 = .ok (.sipush 160, 3) := by decide +kernel
theorem d_Cmd_rowOf_3 : decode prog_15_method_11_code 3 = .ok (.iload_n 0, 1) := by decide +kernel
theorem d_Cmd_rowOf_4 : decode prog_15_method_11_code 4 = .ok (.imul, 1) := by decide +kernel
theorem d_Cmd_rowOf_5 : decode prog_15_method_11_code 5 = .ok (.iload_n 1, 1) := by decide +kernel
theorem d_Cmd_rowOf_6 : decode prog_15_method_11_code 6 = .ok (.iload_n 0, 1) := by decide +kernel
theorem d_Cmd_rowOf_7 : decode prog_15_method_11_code 7 = .ok (.invokestatic 106, 3) := by decide +kernel
theorem d_Cmd_rowOf_10 : decode prog_15_method_11_code 10 = .ok (.imul, 1) := by decide +kernel
theorem d_Cmd_rowOf_11 : decode prog_15_method_11_code 11 = .ok (.iadd, 1) := by decide +kernel
theorem d_Cmd_rowOf_12 : decode prog_15_method_11_code 12 = .ok (.ireturn, 1) := by decide +kernel
theorem gS_Cmd_106 : GoodIn tw (va_wsS "DrawingMachineModel$DrawCommandsModel" 106 y_Cmd_count ((Cond.code y_Cmd_count prog_15_method_4_code 1 (some .int)) :: tw)) := tw_pre (fun _ h => h) (tw_good (fun _ h => h) k708) (List.forall_mem_cons.mpr ⟨k706, List.forall_mem_cons.mpr ⟨k707, List.forall_mem_cons.mpr ⟨k137, fun _ h => absurd h List.not_mem_nil⟩⟩⟩)
set_option maxHeartbeats 4000000 in
set_option maxRecDepth 100000 in
theorem c_rowOf (l : Launch) (D : va_G) (cI cL : ClassId) (B sz : Nat) (k : Nat) (n : Nat) (hk : k < 26) : Met l y_Cmd_rowOf ((Cond.code y_Cmd_rowOf prog_15_method_11_code 2 (some .int)) :: tw) ({ frames := 30, cells := 0, slots := 0, locals := 3000 }) (va_Pc [.int (nI k), .int (nI n)] (wP D cI cL B sz [])) (va_Qi (S := Unit) (fun r u => r = (nI (160 * k + n * cnt k))) (fun u => wB D cI cL (va_A [] sz) ((fun _ : Unit => []) u)) (va_A [] sz)) 0 0 (va_A [] sz) := by
  refine Met.ofW (cc := prog_15_method_11_code) (maxL := 2) (ret := (some .int)) (by decide) rfl ?_
  intro p e s m args below meth c s₁ B0 hml hv
  obtain ⟨rfl, hv⟩ := hv
  have hx := B0.exec
  have hb := B0.bytes
  have hr := B0.returns
  have hts := atoms_spec (ws := (Cond.code y_Cmd_rowOf prog_15_method_11_code 2 (some .int)) :: tw) B0.pre
  have htw : ∀ w ∈ tw, w.before _ s = true := fun w hw => hts w (List.mem_cons_of_mem _ hw)
  have hown : s.vm.findClass "DrawingMachineModel$DrawCommandsModel" = some m.cls := findClass_of_methodNamed B0.named
  have hlocks := B0.notSynchronized
  obtain ⟨hC, hP, hD, hsz⟩ := wC_init hv
  subst hsz
  generalize hAe : va_A [] s.heap.size = A at hC hD ⊢
  have hS : va_S A s.heap s.heap [] := va_S.rf
  have hl := lv_entry ([.int (nI k), .int (nI n)]) (n := 2) (Nat.le_of_ble_eq_true rfl)
  rw [lg_entry_eq]
  generalize (lg_sl ([.int (nI k), .int (nI n)]) ++ List.replicate (2 - (lg_sl ([.int (nI k), .int (nI n)])).length) Slot.unset).toArray = ls at hl ⊢
  have hl : lv_has ls 2 [(0, .int (nI k)), (1, .int (nI n))] := hl
  refine lv_sipush (v := 160) hx hb d_Cmd_rowOf_0 (by decide) ?_
  refine lv_iload_n hx hb d_Cmd_rowOf_3 rfl (lv_at hl 0 rfl) ?_
  refine lv_imul hx hb d_Cmd_rowOf_4 ?_
  refine wi_c (v := nI (160 * k)) (pk_mul 160 k) ?_
  refine lv_iload_n hx hb d_Cmd_rowOf_5 rfl (lv_at hl 1 rfl) ?_
  refine lv_iload_n hx hb d_Cmd_rowOf_6 rfl (lv_at hl 0 rfl) ?_
  refine wc_i (wr := []) hC hP hD hS [] [] rfl rfl (by decide) (by decide) (va_runS (As := [.int (nI k)]) (rest := [.int (nI n), .int (nI (160 * k))]) ⟨hx, hb, hml, hown, htw⟩ (c_cnt l D cI cL B _ k (hk)) (va_cwS 1 htw gS_Cmd_106 rfl rfl rfl (by decide +kernel) ⟨Nat.le_of_ble_eq_true rfl, Nat.le_of_ble_eq_true rfl⟩) (wC_pre hC hP hD hS [] (by decide) rfl) rfl rfl hl.1 rfl (lv_room (Nat.le_of_ble_eq_true rfl)) d_Cmd_rowOf_7 ⟨Nat.le_of_ble_eq_true rfl, Nat.le_of_ble_eq_true rfl⟩) (fun r393 u391 H locs hw392 hP hD hS => ?_)
  obtain rfl : r393 = (nI (cnt k)) := hw392
  have hP : va_P D classes [] H := hP
  have hD : va_D A [] := hD
  refine W.widen (k := 0) (n := 0) (by omega) (by omega) ?_
  refine lv_imul hx hb d_Cmd_rowOf_10 ?_
  refine wi_c (v := nI (n * cnt k)) (pk_mul n (cnt k)) ?_
  refine lv_iadd hx hb d_Cmd_rowOf_11 ?_
  refine wi_c (v := nI (160 * k + n * cnt k)) (nI_add _ _) ?_
  refine W.widen (k := 0) (n := 0) (Nat.le_of_ble_eq_true rfl) (Nat.le_of_ble_eq_true rfl) ?_
  have hP9 := hP.sub (ws' := []) [] rfl
  have hD9 := hD.sub (ws' := []) [] (by decide) rfl
  exact W.iret (v := (nI (160 * k + n * cnt k))) hx hb hr (fun t ht hW => ⟨⟨(nI (160 * k + n * cnt k)), (), rfl, rfl, by rw [ht]; exact hP9, va_K.moved hW.alike hC.1, hD9⟩, hS.F ht⟩) hS.2.2 d_Cmd_rowOf_12
