theorem d_Mod_in_0 : decode prog_14_method_4_code 0 = .ok (.lload_n 0, 1) := by decide +kernel
theorem d_Mod_in_1 : decode prog_14_method_4_code 1 = .ok (.lload_n 2, 1) := by decide +kernel
theorem d_Mod_in_2 : decode prog_14_method_4_code 2 = .ok (.lcmp, 1) := by decide +kernel
theorem d_Mod_in_3 : decode prog_14_method_4_code 3 = .ok (.ifCond .lt 14, 3) := by decide +kernel
theorem d_Mod_in_6 : decode prog_14_method_4_code 6 = .ok (.lload_n 0, 1) := by decide +kernel
theorem d_Mod_in_7 : decode prog_14_method_4_code 7 = .ok (.lload 4, 2) := by decide +kernel
theorem d_Mod_in_9 : decode prog_14_method_4_code 9 = .ok (.lcmp, 1) := by decide +kernel
theorem d_Mod_in_10 : decode prog_14_method_4_code 10 = .ok (.ifCond .gt 7, 3) := by decide +kernel
theorem d_Mod_in_13 : decode prog_14_method_4_code 13 = .ok (.iconst 1, 1) := by decide +kernel
theorem d_Mod_in_14 : decode prog_14_method_4_code 14 = .ok (.goto 4, 3) := by decide +kernel
theorem d_Mod_in_18 : decode prog_14_method_4_code 18 = .ok (.ireturn, 1) := by decide +kernel
set_option maxHeartbeats 4000000 in
set_option maxRecDepth 100000 in
theorem c_Mod_in_t (l : Launch) (D : va_G) (cI cL : ClassId) (B sz : Nat) (v : Int64) (lo : Int64) (hi : Int64) (h1 : ¬ v < lo) (h2 : ¬ hi < v) : Met l y_Mod_in ((Cond.code y_Mod_in prog_14_method_4_code 6 (some .boolean)) :: tw) ({ frames := 20, cells := 0, slots := 0, locals := 2000 }) (va_Pc [.long v, .long lo, .long hi] (wP D cI cL B sz [])) (va_Qi (S := Unit) (fun r u => r = 1) (fun u => wB D cI cL (va_A [] sz) ((fun _ : Unit => []) u)) (va_A [] sz)) 0 0 (va_A [] sz) := by
  refine Met.ofW (cc := prog_14_method_4_code) (maxL := 6) (ret := (some .boolean)) (by decide) rfl ?_
  intro p e s m args below meth c s₁ B0 hml hv
  obtain ⟨rfl, hv⟩ := hv
  have hx := B0.exec
  have hb := B0.bytes
  have hr := B0.returns
  have hts := atoms_spec (ws := (Cond.code y_Mod_in prog_14_method_4_code 6 (some .boolean)) :: tw) B0.pre
  have htw : ∀ w ∈ tw, w.before _ s = true := fun w hw => hts w (List.mem_cons_of_mem _ hw)
  have hown : s.vm.findClass "DrawingMachineModel" = some m.cls := findClass_of_methodNamed B0.named
  have hlocks := B0.notSynchronized
  obtain ⟨hC, hP, hD, hsz⟩ := wC_init hv
  subst hsz
  generalize hAe : va_A [] s.heap.size = A at hC hD ⊢
  have hS : va_S A s.heap s.heap [] := va_S.rf
  have hl := lv_entry ([.long v, .long lo, .long hi]) (n := 6) (Nat.le_of_ble_eq_true rfl)
  rw [lg_entry_eq]
  generalize (lg_sl ([.long v, .long lo, .long hi]) ++ List.replicate (6 - (lg_sl ([.long v, .long lo, .long hi])).length) Slot.unset).toArray = ls at hl ⊢
  have hl : lv_has ls 6 [(0, .long v), (2, .long lo), (4, .long hi)] := hl
  refine lv_lload_n hx hb d_Mod_in_0 rfl (lv_at hl 0 rfl) ?_
  refine lv_lload_n hx hb d_Mod_in_1 rfl (lv_at hl 1 rfl) ?_
  refine W.lcmp hx hb d_Mod_in_2 ?_
  refine lv_if_lt (tgt := 17) hx hb d_Mod_in_3 (by decide) (fun c_603 => absurd (lgc_lt.mp c_603) h1) (fun c_603 => ?_)
  refine lv_lload_n hx hb d_Mod_in_6 rfl (lv_at hl 0 rfl) ?_
  refine lv_lload hx hb d_Mod_in_7 (lv_at hl 2 rfl) ?_
  refine W.lcmp hx hb d_Mod_in_9 ?_
  refine lv_if_gt (tgt := 17) hx hb d_Mod_in_10 (by decide) (fun c_604 => absurd (lgc_gt.mp c_604) h2) (fun c_604 => ?_)
  refine lv_iconst (v := 1) hx hb d_Mod_in_13 (by decide) ?_
  refine lv_goto (tgt := 18) hx hb d_Mod_in_14 (by decide) ?_
  refine W.widen (k := 0) (n := 0) (Nat.le_of_ble_eq_true rfl) (Nat.le_of_ble_eq_true rfl) ?_
  have hP9 := hP.sub (ws' := []) [] rfl
  have hD9 := hD.sub (ws' := []) [] (by decide) rfl
  exact W.zret (v := 1) hx hb hr (by decide) (fun t ht hW => ⟨⟨1, (), rfl, rfl, by rw [ht]; exact hP9, va_K.moved hW.alike hC.1, hD9⟩, hS.F ht⟩) hS.2.2 d_Mod_in_18

theorem d_Mod_in_17 : decode prog_14_method_4_code 17 = .ok (.iconst 0, 1) := by decide +kernel
set_option maxHeartbeats 4000000 in
set_option maxRecDepth 100000 in
theorem c_Mod_in_f (l : Launch) (D : va_G) (cI cL : ClassId) (B sz : Nat) (v : Int64) (lo : Int64) (hi : Int64) (hbd : v < lo ∨ hi < v) : Met l y_Mod_in ((Cond.code y_Mod_in prog_14_method_4_code 6 (some .boolean)) :: tw) ({ frames := 20, cells := 0, slots := 0, locals := 2000 }) (va_Pc [.long v, .long lo, .long hi] (wP D cI cL B sz [])) (va_Qi (S := Unit) (fun r u => r = 0) (fun u => wB D cI cL (va_A [] sz) ((fun _ : Unit => []) u)) (va_A [] sz)) 0 0 (va_A [] sz) := by
  refine Met.ofW (cc := prog_14_method_4_code) (maxL := 6) (ret := (some .boolean)) (by decide) rfl ?_
  intro p e s m args below meth c s₁ B0 hml hv
  obtain ⟨rfl, hv⟩ := hv
  have hx := B0.exec
  have hb := B0.bytes
  have hr := B0.returns
  have hts := atoms_spec (ws := (Cond.code y_Mod_in prog_14_method_4_code 6 (some .boolean)) :: tw) B0.pre
  have htw : ∀ w ∈ tw, w.before _ s = true := fun w hw => hts w (List.mem_cons_of_mem _ hw)
  have hown : s.vm.findClass "DrawingMachineModel" = some m.cls := findClass_of_methodNamed B0.named
  have hlocks := B0.notSynchronized
  obtain ⟨hC, hP, hD, hsz⟩ := wC_init hv
  subst hsz
  generalize hAe : va_A [] s.heap.size = A at hC hD ⊢
  have hS : va_S A s.heap s.heap [] := va_S.rf
  have hl := lv_entry ([.long v, .long lo, .long hi]) (n := 6) (Nat.le_of_ble_eq_true rfl)
  rw [lg_entry_eq]
  generalize (lg_sl ([.long v, .long lo, .long hi]) ++ List.replicate (6 - (lg_sl ([.long v, .long lo, .long hi])).length) Slot.unset).toArray = ls at hl ⊢
  have hl : lv_has ls 6 [(0, .long v), (2, .long lo), (4, .long hi)] := hl
  refine lv_lload_n hx hb d_Mod_in_0 rfl (lv_at hl 0 rfl) ?_
  refine lv_lload_n hx hb d_Mod_in_1 rfl (lv_at hl 1 rfl) ?_
  refine W.lcmp hx hb d_Mod_in_2 ?_
  refine lv_if_lt (tgt := 17) hx hb d_Mod_in_3 (by decide) (fun c_605 => ?_) (fun c_605 => ?_)
  ·
    refine lv_iconst (v := 0) hx hb d_Mod_in_17 (by decide) ?_
    refine W.widen (k := 0) (n := 0) (Nat.le_of_ble_eq_true rfl) (Nat.le_of_ble_eq_true rfl) ?_
    have hP9 := hP.sub (ws' := []) [] rfl
    have hD9 := hD.sub (ws' := []) [] (by decide) rfl
    exact W.zret (v := 0) hx hb hr (by decide) (fun t ht hW => ⟨⟨0, (), rfl, rfl, by rw [ht]; exact hP9, va_K.moved hW.alike hC.1, hD9⟩, hS.F ht⟩) hS.2.2 d_Mod_in_18
  ·
    refine lv_lload_n hx hb d_Mod_in_6 rfl (lv_at hl 0 rfl) ?_
    refine lv_lload hx hb d_Mod_in_7 (lv_at hl 2 rfl) ?_
    refine W.lcmp hx hb d_Mod_in_9 ?_
    refine lv_if_gt (tgt := 17) hx hb d_Mod_in_10 (by decide) (fun c_606 => ?_) (fun c_606 => absurd hbd (not_or.mpr ⟨fun h => c_605 (lgc_lt.mpr h), fun h => c_606 (lgc_gt.mpr h)⟩))
    refine lv_iconst (v := 0) hx hb d_Mod_in_17 (by decide) ?_
    refine W.widen (k := 0) (n := 0) (Nat.le_of_ble_eq_true rfl) (Nat.le_of_ble_eq_true rfl) ?_
    have hP9 := hP.sub (ws' := []) [] rfl
    have hD9 := hD.sub (ws' := []) [] (by decide) rfl
    exact W.zret (v := 0) hx hb hr (by decide) (fun t ht hW => ⟨⟨0, (), rfl, rfl, by rw [ht]; exact hP9, va_K.moved hW.alike hC.1, hD9⟩, hS.F ht⟩) hS.2.2 d_Mod_in_18

theorem d_Cmd_in_0 : decode prog_15_method_3_code 0 = .ok (.lload_n 0, 1) := by decide +kernel
theorem d_Cmd_in_1 : decode prog_15_method_3_code 1 = .ok (.lload_n 2, 1) := by decide +kernel
theorem d_Cmd_in_2 : decode prog_15_method_3_code 2 = .ok (.lcmp, 1) := by decide +kernel
theorem d_Cmd_in_3 : decode prog_15_method_3_code 3 = .ok (.ifCond .lt 14, 3) := by decide +kernel
theorem d_Cmd_in_6 : decode prog_15_method_3_code 6 = .ok (.lload_n 0, 1) := by decide +kernel
theorem d_Cmd_in_7 : decode prog_15_method_3_code 7 = .ok (.lload 4, 2) := by decide +kernel
theorem d_Cmd_in_9 : decode prog_15_method_3_code 9 = .ok (.lcmp, 1) := by decide +kernel
theorem d_Cmd_in_10 : decode prog_15_method_3_code 10 = .ok (.ifCond .gt 7, 3) := by decide +kernel
theorem d_Cmd_in_13 : decode prog_15_method_3_code 13 = .ok (.iconst 1, 1) := by decide +kernel
theorem d_Cmd_in_14 : decode prog_15_method_3_code 14 = .ok (.goto 4, 3) := by decide +kernel
theorem d_Cmd_in_18 : decode prog_15_method_3_code 18 = .ok (.ireturn, 1) := by decide +kernel
set_option maxHeartbeats 4000000 in
set_option maxRecDepth 100000 in
theorem c_Cmd_in_t (l : Launch) (D : va_G) (cI cL : ClassId) (B sz : Nat) (v : Int64) (lo : Int64) (hi : Int64) (h1 : ¬ v < lo) (h2 : ¬ hi < v) : Met l y_Cmd_in ((Cond.code y_Cmd_in prog_15_method_3_code 6 (some .boolean)) :: tw) ({ frames := 20, cells := 0, slots := 0, locals := 2000 }) (va_Pc [.long v, .long lo, .long hi] (wP D cI cL B sz [])) (va_Qi (S := Unit) (fun r u => r = 1) (fun u => wB D cI cL (va_A [] sz) ((fun _ : Unit => []) u)) (va_A [] sz)) 0 0 (va_A [] sz) := by
  refine Met.ofW (cc := prog_15_method_3_code) (maxL := 6) (ret := (some .boolean)) (by decide) rfl ?_
  intro p e s m args below meth c s₁ B0 hml hv
  obtain ⟨rfl, hv⟩ := hv
  have hx := B0.exec
  have hb := B0.bytes
  have hr := B0.returns
  have hts := atoms_spec (ws := (Cond.code y_Cmd_in prog_15_method_3_code 6 (some .boolean)) :: tw) B0.pre
  have htw : ∀ w ∈ tw, w.before _ s = true := fun w hw => hts w (List.mem_cons_of_mem _ hw)
  have hown : s.vm.findClass "DrawingMachineModel$DrawCommandsModel" = some m.cls := findClass_of_methodNamed B0.named
  have hlocks := B0.notSynchronized
  obtain ⟨hC, hP, hD, hsz⟩ := wC_init hv
  subst hsz
  generalize hAe : va_A [] s.heap.size = A at hC hD ⊢
  have hS : va_S A s.heap s.heap [] := va_S.rf
  have hl := lv_entry ([.long v, .long lo, .long hi]) (n := 6) (Nat.le_of_ble_eq_true rfl)
  rw [lg_entry_eq]
  generalize (lg_sl ([.long v, .long lo, .long hi]) ++ List.replicate (6 - (lg_sl ([.long v, .long lo, .long hi])).length) Slot.unset).toArray = ls at hl ⊢
  have hl : lv_has ls 6 [(0, .long v), (2, .long lo), (4, .long hi)] := hl
  refine lv_lload_n hx hb d_Cmd_in_0 rfl (lv_at hl 0 rfl) ?_
  refine lv_lload_n hx hb d_Cmd_in_1 rfl (lv_at hl 1 rfl) ?_
  refine W.lcmp hx hb d_Cmd_in_2 ?_
  refine lv_if_lt (tgt := 17) hx hb d_Cmd_in_3 (by decide) (fun c_607 => absurd (lgc_lt.mp c_607) h1) (fun c_607 => ?_)
  refine lv_lload_n hx hb d_Cmd_in_6 rfl (lv_at hl 0 rfl) ?_
  refine lv_lload hx hb d_Cmd_in_7 (lv_at hl 2 rfl) ?_
  refine W.lcmp hx hb d_Cmd_in_9 ?_
  refine lv_if_gt (tgt := 17) hx hb d_Cmd_in_10 (by decide) (fun c_608 => absurd (lgc_gt.mp c_608) h2) (fun c_608 => ?_)
  refine lv_iconst (v := 1) hx hb d_Cmd_in_13 (by decide) ?_
  refine lv_goto (tgt := 18) hx hb d_Cmd_in_14 (by decide) ?_
  refine W.widen (k := 0) (n := 0) (Nat.le_of_ble_eq_true rfl) (Nat.le_of_ble_eq_true rfl) ?_
  have hP9 := hP.sub (ws' := []) [] rfl
  have hD9 := hD.sub (ws' := []) [] (by decide) rfl
  exact W.zret (v := 1) hx hb hr (by decide) (fun t ht hW => ⟨⟨1, (), rfl, rfl, by rw [ht]; exact hP9, va_K.moved hW.alike hC.1, hD9⟩, hS.F ht⟩) hS.2.2 d_Cmd_in_18

theorem d_Cmd_in_17 : decode prog_15_method_3_code 17 = .ok (.iconst 0, 1) := by decide +kernel
set_option maxHeartbeats 4000000 in
set_option maxRecDepth 100000 in
theorem c_Cmd_in_f (l : Launch) (D : va_G) (cI cL : ClassId) (B sz : Nat) (v : Int64) (lo : Int64) (hi : Int64) (hbd : v < lo ∨ hi < v) : Met l y_Cmd_in ((Cond.code y_Cmd_in prog_15_method_3_code 6 (some .boolean)) :: tw) ({ frames := 20, cells := 0, slots := 0, locals := 2000 }) (va_Pc [.long v, .long lo, .long hi] (wP D cI cL B sz [])) (va_Qi (S := Unit) (fun r u => r = 0) (fun u => wB D cI cL (va_A [] sz) ((fun _ : Unit => []) u)) (va_A [] sz)) 0 0 (va_A [] sz) := by
  refine Met.ofW (cc := prog_15_method_3_code) (maxL := 6) (ret := (some .boolean)) (by decide) rfl ?_
  intro p e s m args below meth c s₁ B0 hml hv
  obtain ⟨rfl, hv⟩ := hv
  have hx := B0.exec
  have hb := B0.bytes
  have hr := B0.returns
  have hts := atoms_spec (ws := (Cond.code y_Cmd_in prog_15_method_3_code 6 (some .boolean)) :: tw) B0.pre
  have htw : ∀ w ∈ tw, w.before _ s = true := fun w hw => hts w (List.mem_cons_of_mem _ hw)
  have hown : s.vm.findClass "DrawingMachineModel$DrawCommandsModel" = some m.cls := findClass_of_methodNamed B0.named
  have hlocks := B0.notSynchronized
  obtain ⟨hC, hP, hD, hsz⟩ := wC_init hv
  subst hsz
  generalize hAe : va_A [] s.heap.size = A at hC hD ⊢
  have hS : va_S A s.heap s.heap [] := va_S.rf
  have hl := lv_entry ([.long v, .long lo, .long hi]) (n := 6) (Nat.le_of_ble_eq_true rfl)
  rw [lg_entry_eq]
  generalize (lg_sl ([.long v, .long lo, .long hi]) ++ List.replicate (6 - (lg_sl ([.long v, .long lo, .long hi])).length) Slot.unset).toArray = ls at hl ⊢
  have hl : lv_has ls 6 [(0, .long v), (2, .long lo), (4, .long hi)] := hl
  refine lv_lload_n hx hb d_Cmd_in_0 rfl (lv_at hl 0 rfl) ?_
  refine lv_lload_n hx hb d_Cmd_in_1 rfl (lv_at hl 1 rfl) ?_
  refine W.lcmp hx hb d_Cmd_in_2 ?_
  refine lv_if_lt (tgt := 17) hx hb d_Cmd_in_3 (by decide) (fun c_609 => ?_) (fun c_609 => ?_)
  ·
    refine lv_iconst (v := 0) hx hb d_Cmd_in_17 (by decide) ?_
    refine W.widen (k := 0) (n := 0) (Nat.le_of_ble_eq_true rfl) (Nat.le_of_ble_eq_true rfl) ?_
    have hP9 := hP.sub (ws' := []) [] rfl
    have hD9 := hD.sub (ws' := []) [] (by decide) rfl
    exact W.zret (v := 0) hx hb hr (by decide) (fun t ht hW => ⟨⟨0, (), rfl, rfl, by rw [ht]; exact hP9, va_K.moved hW.alike hC.1, hD9⟩, hS.F ht⟩) hS.2.2 d_Cmd_in_18
  ·
    refine lv_lload_n hx hb d_Cmd_in_6 rfl (lv_at hl 0 rfl) ?_
    refine lv_lload hx hb d_Cmd_in_7 (lv_at hl 2 rfl) ?_
    refine W.lcmp hx hb d_Cmd_in_9 ?_
    refine lv_if_gt (tgt := 17) hx hb d_Cmd_in_10 (by decide) (fun c_610 => ?_) (fun c_610 => absurd hbd (not_or.mpr ⟨fun h => c_609 (lgc_lt.mpr h), fun h => c_610 (lgc_gt.mpr h)⟩))
    refine lv_iconst (v := 0) hx hb d_Cmd_in_17 (by decide) ?_
    refine W.widen (k := 0) (n := 0) (Nat.le_of_ble_eq_true rfl) (Nat.le_of_ble_eq_true rfl) ?_
    have hP9 := hP.sub (ws' := []) [] rfl
    have hD9 := hD.sub (ws' := []) [] (by decide) rfl
    exact W.zret (v := 0) hx hb hr (by decide) (fun t ht hW => ⟨⟨0, (), rfl, rfl, by rw [ht]; exact hP9, va_K.moved hW.alike hC.1, hD9⟩, hS.F ht⟩) hS.2.2 d_Cmd_in_18

theorem d_Ptm_in_0 : decode prog_17_method_3_code 0 = .ok (.iload_n 0, 1) := by decide +kernel
theorem d_Ptm_in_1 : decode prog_17_method_3_code 1 = .ok (.iload_n 1, 1) := by decide +kernel
theorem d_Ptm_in_2 : decode prog_17_method_3_code 2 = .ok (.if_icmp .lt 12, 3) := by decide +kernel
theorem d_Ptm_in_5 : decode prog_17_method_3_code 5 = .ok (.iload_n 0, 1) := by decide +kernel
theorem d_Ptm_in_6 : decode prog_17_method_3_code 6 = .ok (.iload_n 2, 1) := by decide +kernel
theorem d_Ptm_in_7 : decode prog_17_method_3_code 7 = .ok (.if_icmp .gt 7, 3) := by decide +kernel
theorem d_Ptm_in_10 : decode prog_17_method_3_code 10 = .ok (.iconst 1, 1) := by decide +kernel
theorem d_Ptm_in_11 : decode prog_17_method_3_code 11 = .ok (.goto 4, 3) := by decide +kernel
theorem d_Ptm_in_15 : decode prog_17_method_3_code 15 = .ok (.ireturn, 1) := by decide +kernel
set_option maxHeartbeats 4000000 in
set_option maxRecDepth 100000 in
theorem c_Ptm_in_t (l : Launch) (D : va_G) (cI cL : ClassId) (B sz : Nat) (v : Int32) (lo : Int32) (hi : Int32) (h1 : ¬ v < lo) (h2 : ¬ hi < v) : Met l y_Ptm_in ((Cond.code y_Ptm_in prog_17_method_3_code 3 (some .boolean)) :: tw) ({ frames := 20, cells := 0, slots := 0, locals := 2000 }) (va_Pc [.int v, .int lo, .int hi] (wP D cI cL B sz [])) (va_Qi (S := Unit) (fun r u => r = 1) (fun u => wB D cI cL (va_A [] sz) ((fun _ : Unit => []) u)) (va_A [] sz)) 0 0 (va_A [] sz) := by
  refine Met.ofW (cc := prog_17_method_3_code) (maxL := 3) (ret := (some .boolean)) (by decide) rfl ?_
  intro p e s m args below meth c s₁ B0 hml hv
  obtain ⟨rfl, hv⟩ := hv
  have hx := B0.exec
  have hb := B0.bytes
  have hr := B0.returns
  have hts := atoms_spec (ws := (Cond.code y_Ptm_in prog_17_method_3_code 3 (some .boolean)) :: tw) B0.pre
  have htw : ∀ w ∈ tw, w.before _ s = true := fun w hw => hts w (List.mem_cons_of_mem _ hw)
  have hown : s.vm.findClass "DrawingMachineModel$PlaceTestsModel" = some m.cls := findClass_of_methodNamed B0.named
  have hlocks := B0.notSynchronized
  obtain ⟨hC, hP, hD, hsz⟩ := wC_init hv
  subst hsz
  generalize hAe : va_A [] s.heap.size = A at hC hD ⊢
  have hS : va_S A s.heap s.heap [] := va_S.rf
  have hl := lv_entry ([.int v, .int lo, .int hi]) (n := 3) (Nat.le_of_ble_eq_true rfl)
  rw [lg_entry_eq]
  generalize (lg_sl ([.int v, .int lo, .int hi]) ++ List.replicate (3 - (lg_sl ([.int v, .int lo, .int hi])).length) Slot.unset).toArray = ls at hl ⊢
  have hl : lv_has ls 3 [(0, .int v), (1, .int lo), (2, .int hi)] := hl
  refine lv_iload_n hx hb d_Ptm_in_0 rfl (lv_at hl 0 rfl) ?_
  refine lv_iload_n hx hb d_Ptm_in_1 rfl (lv_at hl 1 rfl) ?_
  refine lv_icmp_lt (tgt := 14) hx hb d_Ptm_in_2 (by decide) (fun c_611 => absurd c_611 h1) (fun c_611 => ?_)
  refine lv_iload_n hx hb d_Ptm_in_5 rfl (lv_at hl 0 rfl) ?_
  refine lv_iload_n hx hb d_Ptm_in_6 rfl (lv_at hl 2 rfl) ?_
  refine lv_icmp_gt (tgt := 14) hx hb d_Ptm_in_7 (by decide) (fun c_612 => absurd c_612 h2) (fun c_612 => ?_)
  refine lv_iconst (v := 1) hx hb d_Ptm_in_10 (by decide) ?_
  refine lv_goto (tgt := 15) hx hb d_Ptm_in_11 (by decide) ?_
  refine W.widen (k := 0) (n := 0) (Nat.le_of_ble_eq_true rfl) (Nat.le_of_ble_eq_true rfl) ?_
  have hP9 := hP.sub (ws' := []) [] rfl
  have hD9 := hD.sub (ws' := []) [] (by decide) rfl
  exact W.zret (v := 1) hx hb hr (by decide) (fun t ht hW => ⟨⟨1, (), rfl, rfl, by rw [ht]; exact hP9, va_K.moved hW.alike hC.1, hD9⟩, hS.F ht⟩) hS.2.2 d_Ptm_in_15

theorem d_Mod_refuse_0 : decode prog_14_method_3_code 0 = .ok (.aload_n 0, 1) := by decide +kernel
theorem d_Mod_refuse_1 : decode prog_14_method_3_code 1 = .ok (.iload_n 1, 1) := by decide +kernel
theorem d_Mod_refuse_2 : decode prog_14_method_3_code 2 = .ok (.ifCond .eq 7, 3) := by decide +kernel
theorem d_Mod_refuse_9 : decode prog_14_method_3_code 9 = .ok (.iload_n 2, 1) := by decide +kernel
theorem d_Mod_refuse_10 : decode prog_14_method_3_code 10 = .ok (.ifCond .eq 7, 3) := by decide +kernel
theorem d_Mod_refuse_17 : decode prog_14_method_3_code 17 = .ok (.iconst 0, 1) := by decide +kernel
theorem d_Mod_refuse_18 : decode prog_14_method_3_code 18 = .ok (.putfield 85, 3) := by decide +kernel
theorem d_Mod_refuse_21 : decode prog_14_method_3_code 21 = .ok (.aload_n 0, 1) := by decide +kernel
theorem d_Mod_refuse_22 : decode prog_14_method_3_code 22 = .ok (.getfield 85, 3) := by decide +kernel
theorem d_Mod_refuse_25 : decode prog_14_method_3_code 25 = .ok (.ifCond .le 7, 3) := by decide +kernel
theorem d_Mod_refuse_32 : decode prog_14_method_3_code 32 = .ok (.iconst 0, 1) := by decide +kernel
theorem d_Mod_refuse_33 : decode prog_14_method_3_code 33 = .ok (.ireturn, 1) := by decide +kernel
set_option maxHeartbeats 4000000 in
set_option maxRecDepth 100000 in
theorem c_Mref_00 (l : Launch) (D : va_G) (cI cL : ClassId) (B sz : Nat) (h0 : Nat) (q562 : Nat) (q571 : Nat) (q574 : Nat) (q577 : Nat) (q580 : Nat) (q583 : Nat) (q586 : Nat) (q599 : Nat) (q600 : Nat) (q601 : Nat) (q602 : Nat) : Met l y_Mod_refuse ((Cond.code y_Mod_refuse prog_14_method_3_code 3 (some .boolean)) :: tw) ({ frames := 20, cells := 0, slots := 0, locals := 2000 }) (va_Pc [.ref h0, .int 0, .int 0] (wP D cI cL B sz [(h0, .inr (12, [.int 0, .int 1, .int 1, .ref q562, .ref q571, .ref q574, .ref q577, .ref q580, .ref q583, .ref q586, .int 0, .int (-1), .int 0, .int 0, .long 0, .ref q599, .ref q600, .ref q601, .ref q602]))])) (va_Qi (S := Unit) (fun r u => r = 0) (fun u => wB D cI cL (va_A [(h0, .inr (12, [.int 0, .int 1, .int 1, .ref q562, .ref q571, .ref q574, .ref q577, .ref q580, .ref q583, .ref q586, .int 0, .int (-1), .int 0, .int 0, .long 0, .ref q599, .ref q600, .ref q601, .ref q602]))] sz) ((fun _ : Unit => [(h0, .inr (12, [.int 0, .int 1, .int 1, .ref q562, .ref q571, .ref q574, .ref q577, .ref q580, .ref q583, .ref q586, .int 0, .int (-1), .int 0, .int 0, .long 0, .ref q599, .ref q600, .ref q601, .ref q602]))]) u)) (va_A [(h0, .inr (12, [.int 0, .int 1, .int 1, .ref q562, .ref q571, .ref q574, .ref q577, .ref q580, .ref q583, .ref q586, .int 0, .int (-1), .int 0, .int 0, .long 0, .ref q599, .ref q600, .ref q601, .ref q602]))] sz)) 0 0 (va_A [(h0, .inr (12, [.int 0, .int 1, .int 1, .ref q562, .ref q571, .ref q574, .ref q577, .ref q580, .ref q583, .ref q586, .int 0, .int (-1), .int 0, .int 0, .long 0, .ref q599, .ref q600, .ref q601, .ref q602]))] sz) := by
  refine Met.ofW (cc := prog_14_method_3_code) (maxL := 3) (ret := (some .boolean)) (by decide) rfl ?_
  intro p e s m args below meth c s₁ B0 hml hv
  obtain ⟨rfl, hv⟩ := hv
  have hx := B0.exec
  have hb := B0.bytes
  have hr := B0.returns
  have hts := atoms_spec (ws := (Cond.code y_Mod_refuse prog_14_method_3_code 3 (some .boolean)) :: tw) B0.pre
  have htw : ∀ w ∈ tw, w.before _ s = true := fun w hw => hts w (List.mem_cons_of_mem _ hw)
  have hown : s.vm.findClass "DrawingMachineModel" = some m.cls := findClass_of_methodNamed B0.named
  have hlocks := B0.notSynchronized
  obtain ⟨hC, hP, hD, hsz⟩ := wC_init hv
  subst hsz
  generalize hAe : va_A [(h0, .inr (12, [.int 0, .int 1, .int 1, .ref q562, .ref q571, .ref q574, .ref q577, .ref q580, .ref q583, .ref q586, .int 0, .int (-1), .int 0, .int 0, .long 0, .ref q599, .ref q600, .ref q601, .ref q602]))] s.heap.size = A at hC hD ⊢
  have hS : va_S A s.heap s.heap [] := va_S.rf
  have hl := lv_entry ([.ref h0, .int 0, .int 0]) (n := 3) (Nat.le_of_ble_eq_true rfl)
  rw [lg_entry_eq]
  generalize (lg_sl ([.ref h0, .int 0, .int 0]) ++ List.replicate (3 - (lg_sl ([.ref h0, .int 0, .int 0])).length) Slot.unset).toArray = ls at hl ⊢
  have hl : lv_has ls 3 [(0, .ref h0), (1, .int 0), (2, .int 0)] := hl
  refine lv_aload_n hx hb d_Mod_refuse_0 rfl (lv_at hl 0 rfl) ?_
  refine lv_iload_n hx hb d_Mod_refuse_1 rfl (lv_at hl 1 rfl) ?_
  refine lv_if_eq (tgt := 9) hx hb d_Mod_refuse_2 (by decide) (fun c_613 => ?_) (fun c_613 => absurd c_613 (by decide))
  refine lv_iload_n hx hb d_Mod_refuse_9 rfl (lv_at hl 2 rfl) ?_
  refine lv_if_eq (tgt := 17) hx hb d_Mod_refuse_10 (by decide) (fun c_614 => ?_) (fun c_614 => absurd c_614 (by decide))
  refine lv_iconst (v := 0) hx hb d_Mod_refuse_17 (by decide) ?_
  refine va_put (D := D) (ci := 12) (v := .int 0) (ty := .int) (C := R_Mod) (T := F_Mod) (N := 19) hx hb htw i_Mod t_Mod t_Mod_ok n_Mod hown hC.1 hP hD hS 0 rfl rfl 0 (by decide) (htw _ k626) (fun _ h9 => h9) rfl (by decide +kernel) rfl rfl (Nat.le_of_ble_eq_true rfl) d_Mod_refuse_18 (fun H locs hP hD hS => ?_)
  have hP : va_P D classes [(h0, .inr (12, [.int 0, .int 1, .int 1, .ref q562, .ref q571, .ref q574, .ref q577, .ref q580, .ref q583, .ref q586, .int 0, .int (-1), .int 0, .int 0, .long 0, .ref q599, .ref q600, .ref q601, .ref q602]))] H := hP
  have hD : va_D A [(h0, .inr (12, [.int 0, .int 1, .int 1, .ref q562, .ref q571, .ref q574, .ref q577, .ref q580, .ref q583, .ref q586, .int 0, .int (-1), .int 0, .int 0, .long 0, .ref q599, .ref q600, .ref q601, .ref q602]))] := hD
  refine lv_aload_n hx hb d_Mod_refuse_21 rfl (lv_at hl 0 rfl) ?_
  refine va_get (D := D) (ci := 12) (v := .int 0) (C := R_Mod) (T := F_Mod) (N := 19) hx hb htw i_Mod hown hC.1 hP 0 rfl rfl 0 (by decide) (htw _ k626) (fun _ h9 => h9) rfl d_Mod_refuse_22 ?_
  refine lv_if_le (tgt := 32) hx hb d_Mod_refuse_25 (by decide) (fun c_615 => ?_) (fun c_615 => absurd c_615 (by decide))
  refine lv_iconst (v := 0) hx hb d_Mod_refuse_32 (by decide) ?_
  refine W.widen (k := 0) (n := 0) (Nat.le_of_ble_eq_true rfl) (Nat.le_of_ble_eq_true rfl) ?_
  have hP9 := hP.sub (ws' := [(h0, .inr (12, [.int 0, .int 1, .int 1, .ref q562, .ref q571, .ref q574, .ref q577, .ref q580, .ref q583, .ref q586, .int 0, .int (-1), .int 0, .int 0, .long 0, .ref q599, .ref q600, .ref q601, .ref q602]))]) [0] rfl
  have hD9 := hD.sub (ws' := [(h0, .inr (12, [.int 0, .int 1, .int 1, .ref q562, .ref q571, .ref q574, .ref q577, .ref q580, .ref q583, .ref q586, .int 0, .int (-1), .int 0, .int 0, .long 0, .ref q599, .ref q600, .ref q601, .ref q602]))]) [0] (by decide) rfl
  exact W.zret (v := 0) hx hb hr (by decide) (fun t ht hW => ⟨⟨0, (), rfl, rfl, by rw [ht]; exact hP9, va_K.moved hW.alike hC.1, hD9⟩, hS.F ht⟩) hS.2.2 d_Mod_refuse_33

theorem d_Mod_refuse_5 : decode prog_14_method_3_code 5 = .ok (.iconst 1, 1) := by decide +kernel
theorem d_Mod_refuse_6 : decode prog_14_method_3_code 6 = .ok (.goto 12, 3) := by decide +kernel
theorem d_Mod_refuse_28 : decode prog_14_method_3_code 28 = .ok (.iconst 1, 1) := by decide +kernel
theorem d_Mod_refuse_29 : decode prog_14_method_3_code 29 = .ok (.goto 4, 3) := by decide +kernel
set_option maxHeartbeats 4000000 in
set_option maxRecDepth 100000 in
theorem c_Mref_10 (l : Launch) (D : va_G) (cI cL : ClassId) (B sz : Nat) (h0 : Nat) (q562 : Nat) (q571 : Nat) (q574 : Nat) (q577 : Nat) (q580 : Nat) (q583 : Nat) (q586 : Nat) (q599 : Nat) (q600 : Nat) (q601 : Nat) (q602 : Nat) : Met l y_Mod_refuse ((Cond.code y_Mod_refuse prog_14_method_3_code 3 (some .boolean)) :: tw) ({ frames := 20, cells := 0, slots := 0, locals := 2000 }) (va_Pc [.ref h0, .int 1, .int 0] (wP D cI cL B sz [(h0, .inr (12, [.int 0, .int 1, .int 1, .ref q562, .ref q571, .ref q574, .ref q577, .ref q580, .ref q583, .ref q586, .int 0, .int (-1), .int 0, .int 0, .long 0, .ref q599, .ref q600, .ref q601, .ref q602]))])) (va_Qi (S := Unit) (fun r u => r = 1) (fun u => wB D cI cL (va_A [(h0, .inr (12, [.int 0, .int 1, .int 1, .ref q562, .ref q571, .ref q574, .ref q577, .ref q580, .ref q583, .ref q586, .int 0, .int (-1), .int 0, .int 0, .long 0, .ref q599, .ref q600, .ref q601, .ref q602]))] sz) ((fun _ : Unit => [(h0, .inr (12, [.int 1, .int 1, .int 1, .ref q562, .ref q571, .ref q574, .ref q577, .ref q580, .ref q583, .ref q586, .int 0, .int (-1), .int 0, .int 0, .long 0, .ref q599, .ref q600, .ref q601, .ref q602]))]) u)) (va_A [(h0, .inr (12, [.int 0, .int 1, .int 1, .ref q562, .ref q571, .ref q574, .ref q577, .ref q580, .ref q583, .ref q586, .int 0, .int (-1), .int 0, .int 0, .long 0, .ref q599, .ref q600, .ref q601, .ref q602]))] sz)) 0 0 (va_A [(h0, .inr (12, [.int 0, .int 1, .int 1, .ref q562, .ref q571, .ref q574, .ref q577, .ref q580, .ref q583, .ref q586, .int 0, .int (-1), .int 0, .int 0, .long 0, .ref q599, .ref q600, .ref q601, .ref q602]))] sz) := by
  refine Met.ofW (cc := prog_14_method_3_code) (maxL := 3) (ret := (some .boolean)) (by decide) rfl ?_
  intro p e s m args below meth c s₁ B0 hml hv
  obtain ⟨rfl, hv⟩ := hv
  have hx := B0.exec
  have hb := B0.bytes
  have hr := B0.returns
  have hts := atoms_spec (ws := (Cond.code y_Mod_refuse prog_14_method_3_code 3 (some .boolean)) :: tw) B0.pre
  have htw : ∀ w ∈ tw, w.before _ s = true := fun w hw => hts w (List.mem_cons_of_mem _ hw)
  have hown : s.vm.findClass "DrawingMachineModel" = some m.cls := findClass_of_methodNamed B0.named
  have hlocks := B0.notSynchronized
  obtain ⟨hC, hP, hD, hsz⟩ := wC_init hv
  subst hsz
  generalize hAe : va_A [(h0, .inr (12, [.int 0, .int 1, .int 1, .ref q562, .ref q571, .ref q574, .ref q577, .ref q580, .ref q583, .ref q586, .int 0, .int (-1), .int 0, .int 0, .long 0, .ref q599, .ref q600, .ref q601, .ref q602]))] s.heap.size = A at hC hD ⊢
  have hS : va_S A s.heap s.heap [] := va_S.rf
  have hl := lv_entry ([.ref h0, .int 1, .int 0]) (n := 3) (Nat.le_of_ble_eq_true rfl)
  rw [lg_entry_eq]
  generalize (lg_sl ([.ref h0, .int 1, .int 0]) ++ List.replicate (3 - (lg_sl ([.ref h0, .int 1, .int 0])).length) Slot.unset).toArray = ls at hl ⊢
  have hl : lv_has ls 3 [(0, .ref h0), (1, .int 1), (2, .int 0)] := hl
  refine lv_aload_n hx hb d_Mod_refuse_0 rfl (lv_at hl 0 rfl) ?_
  refine lv_iload_n hx hb d_Mod_refuse_1 rfl (lv_at hl 1 rfl) ?_
  refine lv_if_eq (tgt := 9) hx hb d_Mod_refuse_2 (by decide) (fun c_616 => absurd c_616 (by decide)) (fun c_616 => ?_)
  refine lv_iconst (v := 1) hx hb d_Mod_refuse_5 (by decide) ?_
  refine lv_goto (tgt := 18) hx hb d_Mod_refuse_6 (by decide) ?_
  refine va_put (D := D) (ci := 12) (v := .int 1) (ty := .int) (C := R_Mod) (T := F_Mod) (N := 19) hx hb htw i_Mod t_Mod t_Mod_ok n_Mod hown hC.1 hP hD hS 0 rfl rfl 0 (by decide) (htw _ k626) (fun _ h9 => h9) rfl (by decide +kernel) rfl rfl (Nat.le_of_ble_eq_true rfl) d_Mod_refuse_18 (fun H locs hP hD hS => ?_)
  have hP : va_P D classes [(h0, .inr (12, [.int 1, .int 1, .int 1, .ref q562, .ref q571, .ref q574, .ref q577, .ref q580, .ref q583, .ref q586, .int 0, .int (-1), .int 0, .int 0, .long 0, .ref q599, .ref q600, .ref q601, .ref q602]))] H := hP
  have hD : va_D A [(h0, .inr (12, [.int 1, .int 1, .int 1, .ref q562, .ref q571, .ref q574, .ref q577, .ref q580, .ref q583, .ref q586, .int 0, .int (-1), .int 0, .int 0, .long 0, .ref q599, .ref q600, .ref q601, .ref q602]))] := hD
  refine lv_aload_n hx hb d_Mod_refuse_21 rfl (lv_at hl 0 rfl) ?_
  refine va_get (D := D) (ci := 12) (v := .int 1) (C := R_Mod) (T := F_Mod) (N := 19) hx hb htw i_Mod hown hC.1 hP 0 rfl rfl 0 (by decide) (htw _ k626) (fun _ h9 => h9) rfl d_Mod_refuse_22 ?_
  refine lv_if_le (tgt := 32) hx hb d_Mod_refuse_25 (by decide) (fun c_617 => absurd c_617 (by decide)) (fun c_617 => ?_)
  refine lv_iconst (v := 1) hx hb d_Mod_refuse_28 (by decide) ?_
  refine lv_goto (tgt := 33) hx hb d_Mod_refuse_29 (by decide) ?_
  refine W.widen (k := 0) (n := 0) (Nat.le_of_ble_eq_true rfl) (Nat.le_of_ble_eq_true rfl) ?_
  have hP9 := hP.sub (ws' := [(h0, .inr (12, [.int 1, .int 1, .int 1, .ref q562, .ref q571, .ref q574, .ref q577, .ref q580, .ref q583, .ref q586, .int 0, .int (-1), .int 0, .int 0, .long 0, .ref q599, .ref q600, .ref q601, .ref q602]))]) [0] rfl
  have hD9 := hD.sub (ws' := [(h0, .inr (12, [.int 1, .int 1, .int 1, .ref q562, .ref q571, .ref q574, .ref q577, .ref q580, .ref q583, .ref q586, .int 0, .int (-1), .int 0, .int 0, .long 0, .ref q599, .ref q600, .ref q601, .ref q602]))]) [0] (by decide) rfl
  exact W.zret (v := 1) hx hb hr (by decide) (fun t ht hW => ⟨⟨1, (), rfl, rfl, by rw [ht]; exact hP9, va_K.moved hW.alike hC.1, hD9⟩, hS.F ht⟩) hS.2.2 d_Mod_refuse_33

theorem d_Mod_refuse_13 : decode prog_14_method_3_code 13 = .ok (.iconst 2, 1) := by decide +kernel
theorem d_Mod_refuse_14 : decode prog_14_method_3_code 14 = .ok (.goto 4, 3) := by decide +kernel
set_option maxHeartbeats 4000000 in
set_option maxRecDepth 100000 in
theorem c_Mref_01 (l : Launch) (D : va_G) (cI cL : ClassId) (B sz : Nat) (h0 : Nat) (q562 : Nat) (q571 : Nat) (q574 : Nat) (q577 : Nat) (q580 : Nat) (q583 : Nat) (q586 : Nat) (q599 : Nat) (q600 : Nat) (q601 : Nat) (q602 : Nat) : Met l y_Mod_refuse ((Cond.code y_Mod_refuse prog_14_method_3_code 3 (some .boolean)) :: tw) ({ frames := 20, cells := 0, slots := 0, locals := 2000 }) (va_Pc [.ref h0, .int 0, .int 1] (wP D cI cL B sz [(h0, .inr (12, [.int 0, .int 1, .int 1, .ref q562, .ref q571, .ref q574, .ref q577, .ref q580, .ref q583, .ref q586, .int 0, .int (-1), .int 0, .int 0, .long 0, .ref q599, .ref q600, .ref q601, .ref q602]))])) (va_Qi (S := Unit) (fun r u => r = 1) (fun u => wB D cI cL (va_A [(h0, .inr (12, [.int 0, .int 1, .int 1, .ref q562, .ref q571, .ref q574, .ref q577, .ref q580, .ref q583, .ref q586, .int 0, .int (-1), .int 0, .int 0, .long 0, .ref q599, .ref q600, .ref q601, .ref q602]))] sz) ((fun _ : Unit => [(h0, .inr (12, [.int 2, .int 1, .int 1, .ref q562, .ref q571, .ref q574, .ref q577, .ref q580, .ref q583, .ref q586, .int 0, .int (-1), .int 0, .int 0, .long 0, .ref q599, .ref q600, .ref q601, .ref q602]))]) u)) (va_A [(h0, .inr (12, [.int 0, .int 1, .int 1, .ref q562, .ref q571, .ref q574, .ref q577, .ref q580, .ref q583, .ref q586, .int 0, .int (-1), .int 0, .int 0, .long 0, .ref q599, .ref q600, .ref q601, .ref q602]))] sz)) 0 0 (va_A [(h0, .inr (12, [.int 0, .int 1, .int 1, .ref q562, .ref q571, .ref q574, .ref q577, .ref q580, .ref q583, .ref q586, .int 0, .int (-1), .int 0, .int 0, .long 0, .ref q599, .ref q600, .ref q601, .ref q602]))] sz) := by
  refine Met.ofW (cc := prog_14_method_3_code) (maxL := 3) (ret := (some .boolean)) (by decide) rfl ?_
  intro p e s m args below meth c s₁ B0 hml hv
  obtain ⟨rfl, hv⟩ := hv
  have hx := B0.exec
  have hb := B0.bytes
  have hr := B0.returns
  have hts := atoms_spec (ws := (Cond.code y_Mod_refuse prog_14_method_3_code 3 (some .boolean)) :: tw) B0.pre
  have htw : ∀ w ∈ tw, w.before _ s = true := fun w hw => hts w (List.mem_cons_of_mem _ hw)
  have hown : s.vm.findClass "DrawingMachineModel" = some m.cls := findClass_of_methodNamed B0.named
  have hlocks := B0.notSynchronized
  obtain ⟨hC, hP, hD, hsz⟩ := wC_init hv
  subst hsz
  generalize hAe : va_A [(h0, .inr (12, [.int 0, .int 1, .int 1, .ref q562, .ref q571, .ref q574, .ref q577, .ref q580, .ref q583, .ref q586, .int 0, .int (-1), .int 0, .int 0, .long 0, .ref q599, .ref q600, .ref q601, .ref q602]))] s.heap.size = A at hC hD ⊢
  have hS : va_S A s.heap s.heap [] := va_S.rf
  have hl := lv_entry ([.ref h0, .int 0, .int 1]) (n := 3) (Nat.le_of_ble_eq_true rfl)
  rw [lg_entry_eq]
  generalize (lg_sl ([.ref h0, .int 0, .int 1]) ++ List.replicate (3 - (lg_sl ([.ref h0, .int 0, .int 1])).length) Slot.unset).toArray = ls at hl ⊢
  have hl : lv_has ls 3 [(0, .ref h0), (1, .int 0), (2, .int 1)] := hl
  refine lv_aload_n hx hb d_Mod_refuse_0 rfl (lv_at hl 0 rfl) ?_
  refine lv_iload_n hx hb d_Mod_refuse_1 rfl (lv_at hl 1 rfl) ?_
  refine lv_if_eq (tgt := 9) hx hb d_Mod_refuse_2 (by decide) (fun c_618 => ?_) (fun c_618 => absurd c_618 (by decide))
  refine lv_iload_n hx hb d_Mod_refuse_9 rfl (lv_at hl 2 rfl) ?_
  refine lv_if_eq (tgt := 17) hx hb d_Mod_refuse_10 (by decide) (fun c_619 => absurd c_619 (by decide)) (fun c_619 => ?_)
  refine lv_iconst (v := 2) hx hb d_Mod_refuse_13 (by decide) ?_
  refine lv_goto (tgt := 18) hx hb d_Mod_refuse_14 (by decide) ?_
  refine va_put (D := D) (ci := 12) (v := .int 2) (ty := .int) (C := R_Mod) (T := F_Mod) (N := 19) hx hb htw i_Mod t_Mod t_Mod_ok n_Mod hown hC.1 hP hD hS 0 rfl rfl 0 (by decide) (htw _ k626) (fun _ h9 => h9) rfl (by decide +kernel) rfl rfl (Nat.le_of_ble_eq_true rfl) d_Mod_refuse_18 (fun H locs hP hD hS => ?_)
  have hP : va_P D classes [(h0, .inr (12, [.int 2, .int 1, .int 1, .ref q562, .ref q571, .ref q574, .ref q577, .ref q580, .ref q583, .ref q586, .int 0, .int (-1), .int 0, .int 0, .long 0, .ref q599, .ref q600, .ref q601, .ref q602]))] H := hP
  have hD : va_D A [(h0, .inr (12, [.int 2, .int 1, .int 1, .ref q562, .ref q571, .ref q574, .ref q577, .ref q580, .ref q583, .ref q586, .int 0, .int (-1), .int 0, .int 0, .long 0, .ref q599, .ref q600, .ref q601, .ref q602]))] := hD
  refine lv_aload_n hx hb d_Mod_refuse_21 rfl (lv_at hl 0 rfl) ?_
  refine va_get (D := D) (ci := 12) (v := .int 2) (C := R_Mod) (T := F_Mod) (N := 19) hx hb htw i_Mod hown hC.1 hP 0 rfl rfl 0 (by decide) (htw _ k626) (fun _ h9 => h9) rfl d_Mod_refuse_22 ?_
  refine lv_if_le (tgt := 32) hx hb d_Mod_refuse_25 (by decide) (fun c_620 => absurd c_620 (by decide)) (fun c_620 => ?_)
  refine lv_iconst (v := 1) hx hb d_Mod_refuse_28 (by decide) ?_
  refine lv_goto (tgt := 33) hx hb d_Mod_refuse_29 (by decide) ?_
  refine W.widen (k := 0) (n := 0) (Nat.le_of_ble_eq_true rfl) (Nat.le_of_ble_eq_true rfl) ?_
  have hP9 := hP.sub (ws' := [(h0, .inr (12, [.int 2, .int 1, .int 1, .ref q562, .ref q571, .ref q574, .ref q577, .ref q580, .ref q583, .ref q586, .int 0, .int (-1), .int 0, .int 0, .long 0, .ref q599, .ref q600, .ref q601, .ref q602]))]) [0] rfl
  have hD9 := hD.sub (ws' := [(h0, .inr (12, [.int 2, .int 1, .int 1, .ref q562, .ref q571, .ref q574, .ref q577, .ref q580, .ref q583, .ref q586, .int 0, .int (-1), .int 0, .int 0, .long 0, .ref q599, .ref q600, .ref q601, .ref q602]))]) [0] (by decide) rfl
  exact W.zret (v := 1) hx hb hr (by decide) (fun t ht hW => ⟨⟨1, (), rfl, rfl, by rw [ht]; exact hP9, va_K.moved hW.alike hC.1, hD9⟩, hS.F ht⟩) hS.2.2 d_Mod_refuse_33

theorem d_Cmd_refuse_0 : decode prog_15_method_2_code 0 = .ok (.aload_n 0, 1) := by decide +kernel
theorem d_Cmd_refuse_1 : decode prog_15_method_2_code 1 = .ok (.iload_n 1, 1) := by decide +kernel
theorem d_Cmd_refuse_2 : decode prog_15_method_2_code 2 = .ok (.ifCond .eq 7, 3) := by decide +kernel
theorem d_Cmd_refuse_9 : decode prog_15_method_2_code 9 = .ok (.iconst 0, 1) := by decide +kernel
theorem d_Cmd_refuse_10 : decode prog_15_method_2_code 10 = .ok (.putfield 44, 3) := by decide +kernel
theorem d_Cmd_refuse_13 : decode prog_15_method_2_code 13 = .ok (.iload_n 1, 1) := by decide +kernel
theorem d_Cmd_refuse_14 : decode prog_15_method_2_code 14 = .ok (.ireturn, 1) := by decide +kernel
set_option maxHeartbeats 4000000 in
set_option maxRecDepth 100000 in
theorem c_Cref_0 (l : Launch) (D : va_G) (cI cL : ClassId) (B sz : Nat) (q562 : Nat) (z565 : Nat) (z566 : Nat) (z567 : Nat) (z568 : Nat) (z569 : Nat) (y : Int32) : Met l y_Cmd_refuse ((Cond.code y_Cmd_refuse prog_15_method_2_code 2 (some .boolean)) :: tw) ({ frames := 20, cells := 0, slots := 0, locals := 2000 }) (va_Pc [.ref q562, .int 0] (wP D cI cL B sz [(q562, .inr (13, [.int 0, .ref z565, .int 1, .int 1, .ref z566, .int y, .int 0, .int 0, .ref z567, .int 0, .int 0, .int (-1), .int (-1), .int 0, .int (-1), .int 0, .ref z568, .ref z569]))])) (va_Qi (S := Unit) (fun r u => r = 0) (fun u => wB D cI cL (va_A [(q562, .inr (13, [.int 0, .ref z565, .int 1, .int 1, .ref z566, .int y, .int 0, .int 0, .ref z567, .int 0, .int 0, .int (-1), .int (-1), .int 0, .int (-1), .int 0, .ref z568, .ref z569]))] sz) ((fun _ : Unit => [(q562, .inr (13, [.int 0, .ref z565, .int 1, .int 1, .ref z566, .int y, .int 0, .int 0, .ref z567, .int 0, .int 0, .int (-1), .int (-1), .int 0, .int (-1), .int 0, .ref z568, .ref z569]))]) u)) (va_A [(q562, .inr (13, [.int 0, .ref z565, .int 1, .int 1, .ref z566, .int y, .int 0, .int 0, .ref z567, .int 0, .int 0, .int (-1), .int (-1), .int 0, .int (-1), .int 0, .ref z568, .ref z569]))] sz)) 0 0 (va_A [(q562, .inr (13, [.int 0, .ref z565, .int 1, .int 1, .ref z566, .int y, .int 0, .int 0, .ref z567, .int 0, .int 0, .int (-1), .int (-1), .int 0, .int (-1), .int 0, .ref z568, .ref z569]))] sz) := by
  refine Met.ofW (cc := prog_15_method_2_code) (maxL := 2) (ret := (some .boolean)) (by decide) rfl ?_
  intro p e s m args below meth c s₁ B0 hml hv
  obtain ⟨rfl, hv⟩ := hv
  have hx := B0.exec
  have hb := B0.bytes
  have hr := B0.returns
  have hts := atoms_spec (ws := (Cond.code y_Cmd_refuse prog_15_method_2_code 2 (some .boolean)) :: tw) B0.pre
  have htw : ∀ w ∈ tw, w.before _ s = true := fun w hw => hts w (List.mem_cons_of_mem _ hw)
  have hown : s.vm.findClass "DrawingMachineModel$DrawCommandsModel" = some m.cls := findClass_of_methodNamed B0.named
  have hlocks := B0.notSynchronized
  obtain ⟨hC, hP, hD, hsz⟩ := wC_init hv
  subst hsz
  generalize hAe : va_A [(q562, .inr (13, [.int 0, .ref z565, .int 1, .int 1, .ref z566, .int y, .int 0, .int 0, .ref z567, .int 0, .int 0, .int (-1), .int (-1), .int 0, .int (-1), .int 0, .ref z568, .ref z569]))] s.heap.size = A at hC hD ⊢
  have hS : va_S A s.heap s.heap [] := va_S.rf
  have hl := lv_entry ([.ref q562, .int 0]) (n := 2) (Nat.le_of_ble_eq_true rfl)
  rw [lg_entry_eq]
  generalize (lg_sl ([.ref q562, .int 0]) ++ List.replicate (2 - (lg_sl ([.ref q562, .int 0])).length) Slot.unset).toArray = ls at hl ⊢
  have hl : lv_has ls 2 [(0, .ref q562), (1, .int 0)] := hl
  refine lv_aload_n hx hb d_Cmd_refuse_0 rfl (lv_at hl 0 rfl) ?_
  refine lv_iload_n hx hb d_Cmd_refuse_1 rfl (lv_at hl 1 rfl) ?_
  refine lv_if_eq (tgt := 9) hx hb d_Cmd_refuse_2 (by decide) (fun c_621 => ?_) (fun c_621 => absurd c_621 (by decide))
  refine lv_iconst (v := 0) hx hb d_Cmd_refuse_9 (by decide) ?_
  refine va_put (D := D) (ci := 13) (v := .int 0) (ty := .int) (C := R_Cmd) (T := F_Cmd) (N := 18) hx hb htw i_Cmd t_Cmd t_Cmd_ok n_Cmd hown hC.1 hP hD hS 0 rfl rfl 0 (by decide) (htw _ k710) (fun _ h9 => h9) rfl (by decide +kernel) rfl rfl (Nat.le_of_ble_eq_true rfl) d_Cmd_refuse_10 (fun H locs hP hD hS => ?_)
  have hP : va_P D classes [(q562, .inr (13, [.int 0, .ref z565, .int 1, .int 1, .ref z566, .int y, .int 0, .int 0, .ref z567, .int 0, .int 0, .int (-1), .int (-1), .int 0, .int (-1), .int 0, .ref z568, .ref z569]))] H := hP
  have hD : va_D A [(q562, .inr (13, [.int 0, .ref z565, .int 1, .int 1, .ref z566, .int y, .int 0, .int 0, .ref z567, .int 0, .int 0, .int (-1), .int (-1), .int 0, .int (-1), .int 0, .ref z568, .ref z569]))] := hD
  refine lv_iload_n hx hb d_Cmd_refuse_13 rfl (lv_at hl 1 rfl) ?_
  refine W.widen (k := 0) (n := 0) (Nat.le_of_ble_eq_true rfl) (Nat.le_of_ble_eq_true rfl) ?_
  have hP9 := hP.sub (ws' := [(q562, .inr (13, [.int 0, .ref z565, .int 1, .int 1, .ref z566, .int y, .int 0, .int 0, .ref z567, .int 0, .int 0, .int (-1), .int (-1), .int 0, .int (-1), .int 0, .ref z568, .ref z569]))]) [0] rfl
  have hD9 := hD.sub (ws' := [(q562, .inr (13, [.int 0, .ref z565, .int 1, .int 1, .ref z566, .int y, .int 0, .int 0, .ref z567, .int 0, .int 0, .int (-1), .int (-1), .int 0, .int (-1), .int 0, .ref z568, .ref z569]))]) [0] (by decide) rfl
  exact W.zret (v := 0) hx hb hr (by decide) (fun t ht hW => ⟨⟨0, (), rfl, rfl, by rw [ht]; exact hP9, va_K.moved hW.alike hC.1, hD9⟩, hS.F ht⟩) hS.2.2 d_Cmd_refuse_14

theorem d_Ptm_refuse_0 : decode prog_17_method_2_code 0 = .ok (.aload_n 0, 1) := by decide +kernel
theorem d_Ptm_refuse_1 : decode prog_17_method_2_code 1 = .ok (.iload_n 1, 1) := by decide +kernel
theorem d_Ptm_refuse_2 : decode prog_17_method_2_code 2 = .ok (.ifCond .eq 7, 3) := by decide +kernel
theorem d_Ptm_refuse_9 : decode prog_17_method_2_code 9 = .ok (.iload_n 2, 1) := by decide +kernel
theorem d_Ptm_refuse_10 : decode prog_17_method_2_code 10 = .ok (.ifCond .eq 7, 3) := by decide +kernel
theorem d_Ptm_refuse_17 : decode prog_17_method_2_code 17 = .ok (.iconst 0, 1) := by decide +kernel
theorem d_Ptm_refuse_18 : decode prog_17_method_2_code 18 = .ok (.putfield 60, 3) := by decide +kernel
theorem d_Ptm_refuse_21 : decode prog_17_method_2_code 21 = .ok (.aload_n 0, 1) := by decide +kernel
theorem d_Ptm_refuse_22 : decode prog_17_method_2_code 22 = .ok (.getfield 60, 3) := by decide +kernel
theorem d_Ptm_refuse_25 : decode prog_17_method_2_code 25 = .ok (.ifCond .le 7, 3) := by decide +kernel
theorem d_Ptm_refuse_32 : decode prog_17_method_2_code 32 = .ok (.iconst 0, 1) := by decide +kernel
theorem d_Ptm_refuse_33 : decode prog_17_method_2_code 33 = .ok (.ireturn, 1) := by decide +kernel
set_option maxHeartbeats 4000000 in
set_option maxRecDepth 100000 in
theorem c_Pref_00 (l : Launch) (D : va_G) (cI cL : ClassId) (B sz : Nat) (q586 : Nat) (z589 : Nat) (z590 : Nat) (z591 : Nat) (z592 : Nat) (z593 : Nat) (z594 : Nat) (z595 : Nat) (z596 : Nat) (z597 : Nat) (z598 : Nat) : Met l y_Ptm_refuse ((Cond.code y_Ptm_refuse prog_17_method_2_code 3 (some .boolean)) :: tw) ({ frames := 20, cells := 0, slots := 0, locals := 2000 }) (va_Pc [.ref q586, .int 0, .int 0] (wP D cI cL B sz [(q586, .inr (18, [.int 0, .int 0, .int 0, .int 1, .int 1, .ref z589, .ref z590, .ref z591, .int 0, .ref z592, .int (-1), .int 0, .ref z593, .ref z594, .int (-1), .int 0, .ref z595, .int (-1), .int 15, .ref z596, .ref z597, .ref z598]))])) (va_Qi (S := Unit) (fun r u => r = 0) (fun u => wB D cI cL (va_A [(q586, .inr (18, [.int 0, .int 0, .int 0, .int 1, .int 1, .ref z589, .ref z590, .ref z591, .int 0, .ref z592, .int (-1), .int 0, .ref z593, .ref z594, .int (-1), .int 0, .ref z595, .int (-1), .int 15, .ref z596, .ref z597, .ref z598]))] sz) ((fun _ : Unit => [(q586, .inr (18, [.int 0, .int 0, .int 0, .int 1, .int 1, .ref z589, .ref z590, .ref z591, .int 0, .ref z592, .int (-1), .int 0, .ref z593, .ref z594, .int (-1), .int 0, .ref z595, .int (-1), .int 15, .ref z596, .ref z597, .ref z598]))]) u)) (va_A [(q586, .inr (18, [.int 0, .int 0, .int 0, .int 1, .int 1, .ref z589, .ref z590, .ref z591, .int 0, .ref z592, .int (-1), .int 0, .ref z593, .ref z594, .int (-1), .int 0, .ref z595, .int (-1), .int 15, .ref z596, .ref z597, .ref z598]))] sz)) 0 0 (va_A [(q586, .inr (18, [.int 0, .int 0, .int 0, .int 1, .int 1, .ref z589, .ref z590, .ref z591, .int 0, .ref z592, .int (-1), .int 0, .ref z593, .ref z594, .int (-1), .int 0, .ref z595, .int (-1), .int 15, .ref z596, .ref z597, .ref z598]))] sz) := by
  refine Met.ofW (cc := prog_17_method_2_code) (maxL := 3) (ret := (some .boolean)) (by decide) rfl ?_
  intro p e s m args below meth c s₁ B0 hml hv
  obtain ⟨rfl, hv⟩ := hv
  have hx := B0.exec
  have hb := B0.bytes
  have hr := B0.returns
  have hts := atoms_spec (ws := (Cond.code y_Ptm_refuse prog_17_method_2_code 3 (some .boolean)) :: tw) B0.pre
  have htw : ∀ w ∈ tw, w.before _ s = true := fun w hw => hts w (List.mem_cons_of_mem _ hw)
  have hown : s.vm.findClass "DrawingMachineModel$PlaceTestsModel" = some m.cls := findClass_of_methodNamed B0.named
  have hlocks := B0.notSynchronized
  obtain ⟨hC, hP, hD, hsz⟩ := wC_init hv
  subst hsz
  generalize hAe : va_A [(q586, .inr (18, [.int 0, .int 0, .int 0, .int 1, .int 1, .ref z589, .ref z590, .ref z591, .int 0, .ref z592, .int (-1), .int 0, .ref z593, .ref z594, .int (-1), .int 0, .ref z595, .int (-1), .int 15, .ref z596, .ref z597, .ref z598]))] s.heap.size = A at hC hD ⊢
  have hS : va_S A s.heap s.heap [] := va_S.rf
  have hl := lv_entry ([.ref q586, .int 0, .int 0]) (n := 3) (Nat.le_of_ble_eq_true rfl)
  rw [lg_entry_eq]
  generalize (lg_sl ([.ref q586, .int 0, .int 0]) ++ List.replicate (3 - (lg_sl ([.ref q586, .int 0, .int 0])).length) Slot.unset).toArray = ls at hl ⊢
  have hl : lv_has ls 3 [(0, .ref q586), (1, .int 0), (2, .int 0)] := hl
  refine lv_aload_n hx hb d_Ptm_refuse_0 rfl (lv_at hl 0 rfl) ?_
  refine lv_iload_n hx hb d_Ptm_refuse_1 rfl (lv_at hl 1 rfl) ?_
  refine lv_if_eq (tgt := 9) hx hb d_Ptm_refuse_2 (by decide) (fun c_622 => ?_) (fun c_622 => absurd c_622 (by decide))
  refine lv_iload_n hx hb d_Ptm_refuse_9 rfl (lv_at hl 2 rfl) ?_
  refine lv_if_eq (tgt := 17) hx hb d_Ptm_refuse_10 (by decide) (fun c_623 => ?_) (fun c_623 => absurd c_623 (by decide))
  refine lv_iconst (v := 0) hx hb d_Ptm_refuse_17 (by decide) ?_
  refine va_put (D := D) (ci := 18) (v := .int 0) (ty := .int) (C := R_Ptm) (T := F_Ptm) (N := 22) hx hb htw i_Ptm t_Ptm t_Ptm_ok n_Ptm hown hC.1 hP hD hS 0 rfl rfl 0 (by decide) (htw _ k744) (fun _ h9 => h9) rfl (by decide +kernel) rfl rfl (Nat.le_of_ble_eq_true rfl) d_Ptm_refuse_18 (fun H locs hP hD hS => ?_)
  have hP : va_P D classes [(q586, .inr (18, [.int 0, .int 0, .int 0, .int 1, .int 1, .ref z589, .ref z590, .ref z591, .int 0, .ref z592, .int (-1), .int 0, .ref z593, .ref z594, .int (-1), .int 0, .ref z595, .int (-1), .int 15, .ref z596, .ref z597, .ref z598]))] H := hP
  have hD : va_D A [(q586, .inr (18, [.int 0, .int 0, .int 0, .int 1, .int 1, .ref z589, .ref z590, .ref z591, .int 0, .ref z592, .int (-1), .int 0, .ref z593, .ref z594, .int (-1), .int 0, .ref z595, .int (-1), .int 15, .ref z596, .ref z597, .ref z598]))] := hD
  refine lv_aload_n hx hb d_Ptm_refuse_21 rfl (lv_at hl 0 rfl) ?_
  refine va_get (D := D) (ci := 18) (v := .int 0) (C := R_Ptm) (T := F_Ptm) (N := 22) hx hb htw i_Ptm hown hC.1 hP 0 rfl rfl 0 (by decide) (htw _ k744) (fun _ h9 => h9) rfl d_Ptm_refuse_22 ?_
  refine lv_if_le (tgt := 32) hx hb d_Ptm_refuse_25 (by decide) (fun c_624 => ?_) (fun c_624 => absurd c_624 (by decide))
  refine lv_iconst (v := 0) hx hb d_Ptm_refuse_32 (by decide) ?_
  refine W.widen (k := 0) (n := 0) (Nat.le_of_ble_eq_true rfl) (Nat.le_of_ble_eq_true rfl) ?_
  have hP9 := hP.sub (ws' := [(q586, .inr (18, [.int 0, .int 0, .int 0, .int 1, .int 1, .ref z589, .ref z590, .ref z591, .int 0, .ref z592, .int (-1), .int 0, .ref z593, .ref z594, .int (-1), .int 0, .ref z595, .int (-1), .int 15, .ref z596, .ref z597, .ref z598]))]) [0] rfl
  have hD9 := hD.sub (ws' := [(q586, .inr (18, [.int 0, .int 0, .int 0, .int 1, .int 1, .ref z589, .ref z590, .ref z591, .int 0, .ref z592, .int (-1), .int 0, .ref z593, .ref z594, .int (-1), .int 0, .ref z595, .int (-1), .int 15, .ref z596, .ref z597, .ref z598]))]) [0] (by decide) rfl
  exact W.zret (v := 0) hx hb hr (by decide) (fun t ht hW => ⟨⟨0, (), rfl, rfl, by rw [ht]; exact hP9, va_K.moved hW.alike hC.1, hD9⟩, hS.F ht⟩) hS.2.2 d_Ptm_refuse_33

theorem d_Mod_thrown_0 : decode prog_14_method_2_code 0 = .ok (.aload_n 0, 1) := by decide +kernel
theorem d_Mod_thrown_1 : decode prog_14_method_2_code 1 = .ok (.getfield 85, 3) := by decide +kernel
theorem d_Mod_thrown_4 : decode prog_14_method_2_code 4 = .ok (.ireturn, 1) := by decide +kernel
set_option maxHeartbeats 4000000 in
set_option maxRecDepth 100000 in
theorem c_thrown (l : Launch) (D : va_G) (cI cL : ClassId) (B sz : Nat) (h0 : Nat) (g0 : Int32) (g1 : Int32) (g2 : Int32) (g3 : Nat) (g4 : Nat) (g5 : Nat) (g6 : Nat) (g7 : Nat) (g8 : Nat) (g9 : Nat) (g10 : Int32) (g11 : Int32) (g12 : Int32) (g13 : Int32) (g14 : Int64) (g15 : Nat) (g16 : Nat) (g17 : Nat) (g18 : Nat) : Met l y_Mod_thrown ((Cond.code y_Mod_thrown prog_14_method_2_code 1 (some .int)) :: tw) ({ frames := 20, cells := 0, slots := 0, locals := 2000 }) (va_Pc [.ref h0] (wP D cI cL B sz [(h0, .inr (12, [.int g0, .int g1, .int g2, .ref g3, .ref g4, .ref g5, .ref g6, .ref g7, .ref g8, .ref g9, .int g10, .int g11, .int g12, .int g13, .long g14, .ref g15, .ref g16, .ref g17, .ref g18]))])) (va_Qi (S := Unit) (fun r u => r = g0) (fun u => wB D cI cL (va_A [(h0, .inr (12, [.int g0, .int g1, .int g2, .ref g3, .ref g4, .ref g5, .ref g6, .ref g7, .ref g8, .ref g9, .int g10, .int g11, .int g12, .int g13, .long g14, .ref g15, .ref g16, .ref g17, .ref g18]))] sz) ((fun _ : Unit => [(h0, .inr (12, [.int g0, .int g1, .int g2, .ref g3, .ref g4, .ref g5, .ref g6, .ref g7, .ref g8, .ref g9, .int g10, .int g11, .int g12, .int g13, .long g14, .ref g15, .ref g16, .ref g17, .ref g18]))]) u)) (va_A [(h0, .inr (12, [.int g0, .int g1, .int g2, .ref g3, .ref g4, .ref g5, .ref g6, .ref g7, .ref g8, .ref g9, .int g10, .int g11, .int g12, .int g13, .long g14, .ref g15, .ref g16, .ref g17, .ref g18]))] sz)) 0 0 (va_A [(h0, .inr (12, [.int g0, .int g1, .int g2, .ref g3, .ref g4, .ref g5, .ref g6, .ref g7, .ref g8, .ref g9, .int g10, .int g11, .int g12, .int g13, .long g14, .ref g15, .ref g16, .ref g17, .ref g18]))] sz) := by
  refine Met.ofW (cc := prog_14_method_2_code) (maxL := 1) (ret := (some .int)) (by decide) rfl ?_
  intro p e s m args below meth c s₁ B0 hml hv
  obtain ⟨rfl, hv⟩ := hv
  have hx := B0.exec
  have hb := B0.bytes
  have hr := B0.returns
  have hts := atoms_spec (ws := (Cond.code y_Mod_thrown prog_14_method_2_code 1 (some .int)) :: tw) B0.pre
  have htw : ∀ w ∈ tw, w.before _ s = true := fun w hw => hts w (List.mem_cons_of_mem _ hw)
  have hown : s.vm.findClass "DrawingMachineModel" = some m.cls := findClass_of_methodNamed B0.named
  have hlocks := B0.notSynchronized
  obtain ⟨hC, hP, hD, hsz⟩ := wC_init hv
  subst hsz
  generalize hAe : va_A [(h0, .inr (12, [.int g0, .int g1, .int g2, .ref g3, .ref g4, .ref g5, .ref g6, .ref g7, .ref g8, .ref g9, .int g10, .int g11, .int g12, .int g13, .long g14, .ref g15, .ref g16, .ref g17, .ref g18]))] s.heap.size = A at hC hD ⊢
  have hS : va_S A s.heap s.heap [] := va_S.rf
  have hl := lv_entry ([.ref h0]) (n := 1) (Nat.le_of_ble_eq_true rfl)
  rw [lg_entry_eq]
  generalize (lg_sl ([.ref h0]) ++ List.replicate (1 - (lg_sl ([.ref h0])).length) Slot.unset).toArray = ls at hl ⊢
  have hl : lv_has ls 1 [(0, .ref h0)] := hl
  refine lv_aload_n hx hb d_Mod_thrown_0 rfl (lv_at hl 0 rfl) ?_
  refine va_get (D := D) (ci := 12) (v := .int g0) (C := R_Mod) (T := F_Mod) (N := 19) hx hb htw i_Mod hown hC.1 hP 0 rfl rfl 0 (by decide) (htw _ k626) (fun _ h9 => h9) rfl d_Mod_thrown_1 ?_
  refine W.widen (k := 0) (n := 0) (Nat.le_of_ble_eq_true rfl) (Nat.le_of_ble_eq_true rfl) ?_
  have hP9 := hP.sub (ws' := [(h0, .inr (12, [.int g0, .int g1, .int g2, .ref g3, .ref g4, .ref g5, .ref g6, .ref g7, .ref g8, .ref g9, .int g10, .int g11, .int g12, .int g13, .long g14, .ref g15, .ref g16, .ref g17, .ref g18]))]) [0] rfl
  have hD9 := hD.sub (ws' := [(h0, .inr (12, [.int g0, .int g1, .int g2, .ref g3, .ref g4, .ref g5, .ref g6, .ref g7, .ref g8, .ref g9, .int g10, .int g11, .int g12, .int g13, .long g14, .ref g15, .ref g16, .ref g17, .ref g18]))]) [0] (by decide) rfl
  exact W.iret (v := g0) hx hb hr (fun t ht hW => ⟨⟨g0, (), rfl, rfl, by rw [ht]; exact hP9, va_K.moved hW.alike hC.1, hD9⟩, hS.F ht⟩) hS.2.2 d_Mod_thrown_4

theorem d_Cmd_word_0 : decode prog_15_method_13_code 0 = .ok (.aload_n 0, 1) := by decide +kernel
theorem d_Cmd_word_1 : decode prog_15_method_13_code 1 = .ok (.iload_n 1, 1) := by decide +kernel
theorem d_Cmd_word_2 : decode prog_15_method_13_code 2 = .ok (.i2l, 1) := by decide +kernel
theorem d_Cmd_word_3 : decode prog_15_method_13_code 3 = .ok (.lconst 0, 1) := by decide +kernel
theorem d_Cmd_word_4 : decode prog_15_method_13_code 4 = .ok (.ldc2_w 118, 3) := by decide +kernel
theorem d_Cmd_word_7 : decode prog_15_method_13_code 7 = .ok (.invokestatic 51, 3) := by decide +kernel
theorem d_Cmd_word_10 : decode prog_15_method_13_code 10 = .ok (.ifCond .ne 7, 3) := by decide +kernel
theorem d_Cmd_word_17 : decode prog_15_method_13_code 17 = .ok (.iconst 0, 1) := by decide +kernel
theorem d_Cmd_word_18 : decode prog_15_method_13_code 18 = .ok (.invokevirtual 120, 3) := by decide +kernel
theorem d_Cmd_word_21 : decode prog_15_method_13_code 21 = .ok (.ifCond .eq 5, 3) := by decide +kernel
theorem d_Cmd_word_26 : decode prog_15_method_13_code 26 = .ok (.aload_n 0, 1) := by decide +kernel
theorem d_Cmd_word_27 : decode prog_15_method_13_code 27 = .ok (.getfield 7, 3) := by decide +kernel
theorem d_Cmd_word_30 : decode prog_15_method_13_code 30 = .ok (.iload_n 1, 1) := by decide +kernel
theorem d_Cmd_word_31 : decode prog_15_method_13_code 31 = .ok (.iaload, 1) := by decide +kernel
theorem d_Cmd_word_32 : decode prog_15_method_13_code 32 = .ok (.istore_n 3, 1) := by decide +kernel
theorem d_Cmd_word_33 : decode prog_15_method_13_code 33 = .ok (.aload_n 0, 1) := by decide +kernel
theorem d_Cmd_word_34 : decode prog_15_method_13_code 34 = .ok (.getfield 7, 3) := by decide +kernel
theorem d_Cmd_word_37 : decode prog_15_method_13_code 37 = .ok (.iload_n 1, 1) := by decide +kernel
theorem d_Cmd_word_38 : decode prog_15_method_13_code 38 = .ok (.iload_n 2, 1) := by decide +kernel
theorem d_Cmd_word_39 : decode prog_15_method_13_code 39 = .ok (.iastore, 1) := by decide +kernel
theorem d_Cmd_word_40 : decode prog_15_method_13_code 40 = .ok (.iload_n 3, 1) := by decide +kernel
theorem d_Cmd_word_41 : decode prog_15_method_13_code 41 = .ok (.ireturn, 1) := by decide +kernel
theorem gS_Cmd_51 : GoodIn tw (va_wsS "DrawingMachineModel$DrawCommandsModel" 51 y_Cmd_in ((Cond.code y_Cmd_in prog_15_method_3_code 6 (some .boolean)) :: tw)) := tw_pre (fun _ h => h) (tw_good (fun _ h => h) k711) (List.forall_mem_cons.mpr ⟨k713, List.forall_mem_cons.mpr ⟨k714, List.forall_mem_cons.mpr ⟨k137, fun _ h => absurd h List.not_mem_nil⟩⟩⟩)
theorem gV_Cmd_120 : GoodIn tw (wsV "DrawingMachineModel$DrawCommandsModel" 120 "DrawingMachineModel$DrawCommandsModel" y_Cmd_refuse ((Cond.code y_Cmd_refuse prog_15_method_2_code 2 (some .boolean)) :: tw)) := tw_pre (fun _ h => h) (tw_good (fun _ h => h) k709) (List.forall_mem_cons.mpr ⟨k715, List.forall_mem_cons.mpr ⟨k716, List.forall_mem_cons.mpr ⟨k1013, List.forall_mem_cons.mpr ⟨k137, fun _ h => absurd h List.not_mem_nil⟩⟩⟩⟩)
set_option maxHeartbeats 4000000 in
set_option maxRecDepth 100000 in
theorem c_cword_g (l : Launch) (D : va_G) (cI cL : ClassId) (B sz : Nat) (q562 : Nat) (z565 : Nat) (z566 : Nat) (z567 : Nat) (z568 : Nat) (z569 : Nat) (j : Nat) (v : Int32) (hj : j < 4096) : Met l y_Cmd_word ((Cond.code y_Cmd_word prog_15_method_13_code 4 (some .int)) :: tw) ({ frames := 30, cells := 0, slots := 0, locals := 3000 }) (va_Pc [.ref q562, .int (nI j), .int v] (wP D cI cL B sz [(q562, .inr (13, [.int 0, .ref z565, .int 1, .int 1, .ref z566, .int 0, .int 0, .int 0, .ref z567, .int 0, .int 0, .int (-1), .int (-1), .int 0, .int (-1), .int 0, .ref z568, .ref z569])), (z565, .inl (cI, 4096, .inl (fun _ => 0)))])) (va_Qi (S := Unit) (fun r u => r = 0) (fun u => wB D cI cL (va_A [(q562, .inr (13, [.int 0, .ref z565, .int 1, .int 1, .ref z566, .int 0, .int 0, .int 0, .ref z567, .int 0, .int 0, .int (-1), .int (-1), .int 0, .int (-1), .int 0, .ref z568, .ref z569])), (z565, .inl (cI, 4096, .inl (fun _ => 0)))] sz) ((fun _ : Unit => []) u)) (va_A [(q562, .inr (13, [.int 0, .ref z565, .int 1, .int 1, .ref z566, .int 0, .int 0, .int 0, .ref z567, .int 0, .int 0, .int (-1), .int (-1), .int 0, .int (-1), .int 0, .ref z568, .ref z569])), (z565, .inl (cI, 4096, .inl (fun _ => 0)))] sz)) 0 0 (va_A [(q562, .inr (13, [.int 0, .ref z565, .int 1, .int 1, .ref z566, .int 0, .int 0, .int 0, .ref z567, .int 0, .int 0, .int (-1), .int (-1), .int 0, .int (-1), .int 0, .ref z568, .ref z569])), (z565, .inl (cI, 4096, .inl (fun _ => 0)))] sz) := by
  refine Met.ofW (cc := prog_15_method_13_code) (maxL := 4) (ret := (some .int)) (by decide) rfl ?_
  intro p e s m args below meth c s₁ B0 hml hv
  obtain ⟨rfl, hv⟩ := hv
  have hx := B0.exec
  have hb := B0.bytes
  have hr := B0.returns
  have hts := atoms_spec (ws := (Cond.code y_Cmd_word prog_15_method_13_code 4 (some .int)) :: tw) B0.pre
  have htw : ∀ w ∈ tw, w.before _ s = true := fun w hw => hts w (List.mem_cons_of_mem _ hw)
  have hown : s.vm.findClass "DrawingMachineModel$DrawCommandsModel" = some m.cls := findClass_of_methodNamed B0.named
  have hlocks := B0.notSynchronized
  obtain ⟨hC, hP, hD, hsz⟩ := wC_init hv
  subst hsz
  generalize hAe : va_A [(q562, .inr (13, [.int 0, .ref z565, .int 1, .int 1, .ref z566, .int 0, .int 0, .int 0, .ref z567, .int 0, .int 0, .int (-1), .int (-1), .int 0, .int (-1), .int 0, .ref z568, .ref z569])), (z565, .inl (cI, 4096, .inl (fun _ => 0)))] s.heap.size = A at hC hD ⊢
  have hS : va_S A s.heap s.heap [] := va_S.rf
  have hl := lv_entry ([.ref q562, .int (nI j), .int v]) (n := 4) (Nat.le_of_ble_eq_true rfl)
  rw [lg_entry_eq]
  generalize (lg_sl ([.ref q562, .int (nI j), .int v]) ++ List.replicate (4 - (lg_sl ([.ref q562, .int (nI j), .int v])).length) Slot.unset).toArray = ls at hl ⊢
  have hl : lv_has ls 4 [(0, .ref q562), (1, .int (nI j)), (2, .int v)] := hl
  refine lv_aload_n hx hb d_Cmd_word_0 rfl (lv_at hl 0 rfl) ?_
  refine lv_iload_n hx hb d_Cmd_word_1 rfl (lv_at hl 1 rfl) ?_
  refine lv_i2l (v := (nI j).toInt64) hx hb d_Cmd_word_2 rfl ?_
  refine lv_lconst (v := 0) hx hb d_Cmd_word_3 (by decide) ?_
  refine lv_ldc2 (v := 4095) hx hb hown (htw _ k712) d_Cmd_word_4 ?_
  refine wc_i (wr := [(q562, .inr (13, [.int 0, .ref z565, .int 1, .int 1, .ref z566, .int 0, .int 0, .int 0, .ref z567, .int 0, .int 0, .int (-1), .int (-1), .int 0, .int (-1), .int 0, .ref z568, .ref z569])), (z565, .inl (cI, 4096, .inl (fun _ => 0)))]) hC hP hD hS [] [0, 1] rfl rfl (by decide) (by decide) (va_runS (As := [.long ((nI j).toInt64), .long 0, .long 4095]) (rest := [.ref q562]) ⟨hx, hb, hml, hown, htw⟩ (c_Cmd_in_t l D cI cL B _ ((nI j).toInt64) 0 4095 (good_lo 0 (by decide) (nI_pos (by omega))) (good_hi 4095 (by decide) (nI_nlt (a := 4095) (b := j) (by omega) (by omega)))) (va_cwS 3 htw gS_Cmd_51 rfl rfl rfl (by decide +kernel) ⟨Nat.le_of_ble_eq_true rfl, Nat.le_of_ble_eq_true rfl⟩) (wC_pre hC hP hD hS [] (by decide) rfl) rfl rfl hl.1 rfl (lv_room (Nat.le_of_ble_eq_true rfl)) d_Cmd_word_7 ⟨Nat.le_of_ble_eq_true rfl, Nat.le_of_ble_eq_true rfl⟩) (fun r627 u625 H locs hw626 hP hD hS => ?_)
  obtain rfl : r627 = 1 := hw626
  have hP : va_P D classes [(q562, .inr (13, [.int 0, .ref z565, .int 1, .int 1, .ref z566, .int 0, .int 0, .int 0, .ref z567, .int 0, .int 0, .int (-1), .int (-1), .int 0, .int (-1), .int 0, .ref z568, .ref z569])), (z565, .inl (cI, 4096, .inl (fun _ => 0)))] H := hP
  have hD : va_D A [(q562, .inr (13, [.int 0, .ref z565, .int 1, .int 1, .ref z566, .int 0, .int 0, .int 0, .ref z567, .int 0, .int 0, .int (-1), .int (-1), .int 0, .int (-1), .int 0, .ref z568, .ref z569])), (z565, .inl (cI, 4096, .inl (fun _ => 0)))] := hD
  refine W.widen (k := 0) (n := 0) (by omega) (by omega) ?_
  refine lv_if_ne (tgt := 17) hx hb d_Cmd_word_10 (by decide) (fun c_628 => ?_) (fun c_628 => absurd c_628 (by decide))
  refine lv_iconst (v := 0) hx hb d_Cmd_word_17 (by decide) ?_
  refine wc_i (wr := [(z565, .inl (cI, 4096, .inl (fun _ => 0)))]) hC hP hD hS [0] [1] rfl rfl (by decide) (by decide) (va_runV (As := [.int 0]) (rest := []) ⟨hx, hb, hml, hown, htw⟩ (c_Cref_0 l D cI cL B _ q562 z565 z566 z567 z568 z569 0) (cwV 1 htw gV_Cmd_120 rfl rfl rfl (by decide +kernel) ⟨Nat.le_of_ble_eq_true rfl, Nat.le_of_ble_eq_true rfl⟩) (wC_preV (As := [.int 0]) hC hP hD hS [0] (by decide) rfl (q0 := 0) rfl rfl) rfl rfl hl.1 rfl (lv_room (Nat.le_of_ble_eq_true rfl)) d_Cmd_word_18 ⟨Nat.le_of_ble_eq_true rfl, Nat.le_of_ble_eq_true rfl⟩) (fun r631 u629 H locs hw630 hP hD hS => ?_)
  obtain rfl : r631 = 0 := hw630
  have hP : va_P D classes [(z565, .inl (cI, 4096, .inl (fun _ => 0))), (q562, .inr (13, [.int 0, .ref z565, .int 1, .int 1, .ref z566, .int 0, .int 0, .int 0, .ref z567, .int 0, .int 0, .int (-1), .int (-1), .int 0, .int (-1), .int 0, .ref z568, .ref z569]))] H := hP
  have hD : va_D A [(z565, .inl (cI, 4096, .inl (fun _ => 0))), (q562, .inr (13, [.int 0, .ref z565, .int 1, .int 1, .ref z566, .int 0, .int 0, .int 0, .ref z567, .int 0, .int 0, .int (-1), .int (-1), .int 0, .int (-1), .int 0, .ref z568, .ref z569]))] := hD
  refine W.widen (k := 0) (n := 0) (by omega) (by omega) ?_
  refine lv_if_eq (tgt := 26) hx hb d_Cmd_word_21 (by decide) (fun c_632 => ?_) (fun c_632 => absurd c_632 (by decide))
  refine lv_aload_n hx hb d_Cmd_word_26 rfl (lv_at hl 0 rfl) ?_
  refine va_get (D := D) (ci := 13) (v := .ref z565) (C := R_Cmd) (T := F_Cmd) (N := 18) hx hb htw i_Cmd hown hC.1 hP 1 rfl rfl 1 (by decide) (htw _ k554) (fun _ h9 => h9) rfl d_Cmd_word_27 ?_
  refine lv_iload_n hx hb d_Cmd_word_30 rfl (lv_at hl 1 rfl) ?_
  refine va_iald hx hb hC.1 hP 0 0 rfl rfl (vp_in_nI (by omega) (by omega)) d_Cmd_word_31 ?_
  refine wi_c (v := 0) rfl ?_
  refine lv_istore_n (lv' := [(3, .int 0), (0, .ref q562), (1, .int (nI j)), (2, .int v)]) hx hb d_Cmd_word_32 rfl hl (by decide) rfl (fun ls hl => ?_)
  refine lv_aload_n hx hb d_Cmd_word_33 rfl (lv_at hl 1 rfl) ?_
  refine va_get (D := D) (ci := 13) (v := .ref z565) (C := R_Cmd) (T := F_Cmd) (N := 18) hx hb htw i_Cmd hown hC.1 hP 1 rfl rfl 1 (by decide) (htw _ k554) (fun _ h9 => h9) rfl d_Cmd_word_34 ?_
  refine lv_iload_n hx hb d_Cmd_word_37 rfl (lv_at hl 2 rfl) ?_
  refine lv_iload_n hx hb d_Cmd_word_38 rfl (lv_at hl 3 rfl) ?_
  refine va_iast hx hb hC.1 hP hD hS 0 0 rfl rfl (vp_in_nI (by omega) (by omega)) d_Cmd_word_39 (fun H locs hP hD hS => ?_)
  have hP : va_P D classes [(z565, .inl (cI, 4096, .inl (upd (fun _ => 0) ((nI j) : Int32).toNatClampNeg v))), (q562, .inr (13, [.int 0, .ref z565, .int 1, .int 1, .ref z566, .int 0, .int 0, .int 0, .ref z567, .int 0, .int 0, .int (-1), .int (-1), .int 0, .int (-1), .int 0, .ref z568, .ref z569]))] H := hP
  have hD : va_D A [(z565, .inl (cI, 4096, .inl (upd (fun _ => 0) ((nI j) : Int32).toNatClampNeg v))), (q562, .inr (13, [.int 0, .ref z565, .int 1, .int 1, .ref z566, .int 0, .int 0, .int 0, .ref z567, .int 0, .int 0, .int (-1), .int (-1), .int 0, .int (-1), .int 0, .ref z568, .ref z569]))] := hD
  generalize upd (fun _ => 0) ((nI j) : Int32).toNatClampNeg v = f633 at hP hD
  refine lv_iload_n hx hb d_Cmd_word_40 rfl (lv_at hl 0 rfl) ?_
  refine W.widen (k := 0) (n := 0) (Nat.le_of_ble_eq_true rfl) (Nat.le_of_ble_eq_true rfl) ?_
  have hP9 := hP.sub (ws' := []) [] rfl
  have hD9 := hD.sub (ws' := []) [] (by decide) rfl
  exact W.iret (v := 0) hx hb hr (fun t ht hW => ⟨⟨0, (), rfl, rfl, by rw [ht]; exact hP9, va_K.moved hW.alike hC.1, hD9⟩, hS.F ht⟩) hS.2.2 d_Cmd_word_41

theorem d_Mod_word_0 : decode prog_14_method_6_code 0 = .ok (.aload_n 0, 1) := by decide +kernel
theorem d_Mod_word_1 : decode prog_14_method_6_code 1 = .ok (.iload_n 1, 1) := by decide +kernel
theorem d_Mod_word_2 : decode prog_14_method_6_code 2 = .ok (.i2l, 1) := by decide +kernel
theorem d_Mod_word_3 : decode prog_14_method_6_code 3 = .ok (.lconst 0, 1) := by decide +kernel
theorem d_Mod_word_4 : decode prog_14_method_6_code 4 = .ok (.ldc2_w 105, 3) := by decide +kernel
theorem d_Mod_word_7 : decode prog_14_method_6_code 7 = .ok (.invokestatic 90, 3) := by decide +kernel
theorem d_Mod_word_10 : decode prog_14_method_6_code 10 = .ok (.ifCond .ne 7, 3) := by decide +kernel
theorem d_Mod_word_17 : decode prog_14_method_6_code 17 = .ok (.iconst 0, 1) := by decide +kernel
theorem d_Mod_word_18 : decode prog_14_method_6_code 18 = .ok (.iconst 0, 1) := by decide +kernel
theorem d_Mod_word_19 : decode prog_14_method_6_code 19 = .ok (.invokevirtual 94, 3) := by decide +kernel
theorem d_Mod_word_22 : decode prog_14_method_6_code 22 = .ok (.ifCond .eq 5, 3) := by decide +kernel
theorem d_Mod_word_27 : decode prog_14_method_6_code 27 = .ok (.aload_n 0, 1) := by decide +kernel
theorem d_Mod_word_28 : decode prog_14_method_6_code 28 = .ok (.getfield 19, 3) := by decide +kernel
theorem d_Mod_word_31 : decode prog_14_method_6_code 31 = .ok (.iload_n 1, 1) := by decide +kernel
theorem d_Mod_word_32 : decode prog_14_method_6_code 32 = .ok (.iload_n 2, 1) := by decide +kernel
theorem d_Mod_word_33 : decode prog_14_method_6_code 33 = .ok (.invokevirtual 107, 3) := by decide +kernel
theorem d_Mod_word_36 : decode prog_14_method_6_code 36 = .ok (.ireturn, 1) := by decide +kernel
theorem gS_Mod_90 : GoodIn tw (va_wsS "DrawingMachineModel" 90 y_Mod_in ((Cond.code y_Mod_in prog_14_method_4_code 6 (some .boolean)) :: tw)) := tw_pre (fun _ h => h) (tw_good (fun _ h => h) k628) (List.forall_mem_cons.mpr ⟨k631, List.forall_mem_cons.mpr ⟨k632, List.forall_mem_cons.mpr ⟨k116, fun _ h => absurd h List.not_mem_nil⟩⟩⟩)
theorem gV_Mod_94 : GoodIn tw (wsV "DrawingMachineModel" 94 "DrawingMachineModel" y_Mod_refuse ((Cond.code y_Mod_refuse prog_14_method_3_code 3 (some .boolean)) :: tw)) := tw_pre (fun _ h => h) (tw_good (fun _ h => h) k627) (List.forall_mem_cons.mpr ⟨k633, List.forall_mem_cons.mpr ⟨k634, List.forall_mem_cons.mpr ⟨k1009, List.forall_mem_cons.mpr ⟨k116, fun _ h => absurd h List.not_mem_nil⟩⟩⟩⟩)
theorem gV_Mod_107 : GoodIn tw (wsV "DrawingMachineModel" 107 "DrawingMachineModel$DrawCommandsModel" y_Cmd_word ((Cond.code y_Cmd_word prog_15_method_13_code 4 (some .int)) :: tw)) := tw_pre (fun _ h => h) (tw_good (fun _ h => h) k648) (List.forall_mem_cons.mpr ⟨k645, List.forall_mem_cons.mpr ⟨k646, List.forall_mem_cons.mpr ⟨k647, List.forall_mem_cons.mpr ⟨k137, fun _ h => absurd h List.not_mem_nil⟩⟩⟩⟩)
set_option maxHeartbeats 4000000 in
set_option maxRecDepth 100000 in
theorem c_Mword_g (l : Launch) (D : va_G) (cI cL : ClassId) (B sz : Nat) (h0 : Nat) (q562 : Nat) (z565 : Nat) (z566 : Nat) (z567 : Nat) (z568 : Nat) (z569 : Nat) (q571 : Nat) (q574 : Nat) (q577 : Nat) (q580 : Nat) (q583 : Nat) (q586 : Nat) (q599 : Nat) (q600 : Nat) (q601 : Nat) (q602 : Nat) (j : Nat) (v : Int32) (hj : j < 4096) : Met l y_Mod_word ((Cond.code y_Mod_word prog_14_method_6_code 3 (some .int)) :: tw) ({ frames := 50, cells := 0, slots := 0, locals := 5000 }) (va_Pc [.ref h0, .int (nI j), .int v] (wP D cI cL B sz [(h0, .inr (12, [.int 0, .int 1, .int 1, .ref q562, .ref q571, .ref q574, .ref q577, .ref q580, .ref q583, .ref q586, .int 0, .int (-1), .int 0, .int 0, .long 0, .ref q599, .ref q600, .ref q601, .ref q602])), (q562, .inr (13, [.int 0, .ref z565, .int 1, .int 1, .ref z566, .int 0, .int 0, .int 0, .ref z567, .int 0, .int 0, .int (-1), .int (-1), .int 0, .int (-1), .int 0, .ref z568, .ref z569])), (z565, .inl (cI, 4096, .inl (fun _ => 0)))])) (va_Qi (S := Unit) (fun r u => r = 0) (fun u => wB D cI cL (va_A [(h0, .inr (12, [.int 0, .int 1, .int 1, .ref q562, .ref q571, .ref q574, .ref q577, .ref q580, .ref q583, .ref q586, .int 0, .int (-1), .int 0, .int 0, .long 0, .ref q599, .ref q600, .ref q601, .ref q602])), (q562, .inr (13, [.int 0, .ref z565, .int 1, .int 1, .ref z566, .int 0, .int 0, .int 0, .ref z567, .int 0, .int 0, .int (-1), .int (-1), .int 0, .int (-1), .int 0, .ref z568, .ref z569])), (z565, .inl (cI, 4096, .inl (fun _ => 0)))] sz) ((fun _ : Unit => [(h0, .inr (12, [.int 0, .int 1, .int 1, .ref q562, .ref q571, .ref q574, .ref q577, .ref q580, .ref q583, .ref q586, .int 0, .int (-1), .int 0, .int 0, .long 0, .ref q599, .ref q600, .ref q601, .ref q602]))]) u)) (va_A [(h0, .inr (12, [.int 0, .int 1, .int 1, .ref q562, .ref q571, .ref q574, .ref q577, .ref q580, .ref q583, .ref q586, .int 0, .int (-1), .int 0, .int 0, .long 0, .ref q599, .ref q600, .ref q601, .ref q602])), (q562, .inr (13, [.int 0, .ref z565, .int 1, .int 1, .ref z566, .int 0, .int 0, .int 0, .ref z567, .int 0, .int 0, .int (-1), .int (-1), .int 0, .int (-1), .int 0, .ref z568, .ref z569])), (z565, .inl (cI, 4096, .inl (fun _ => 0)))] sz)) 0 0 (va_A [(h0, .inr (12, [.int 0, .int 1, .int 1, .ref q562, .ref q571, .ref q574, .ref q577, .ref q580, .ref q583, .ref q586, .int 0, .int (-1), .int 0, .int 0, .long 0, .ref q599, .ref q600, .ref q601, .ref q602])), (q562, .inr (13, [.int 0, .ref z565, .int 1, .int 1, .ref z566, .int 0, .int 0, .int 0, .ref z567, .int 0, .int 0, .int (-1), .int (-1), .int 0, .int (-1), .int 0, .ref z568, .ref z569])), (z565, .inl (cI, 4096, .inl (fun _ => 0)))] sz) := by
  refine Met.ofW (cc := prog_14_method_6_code) (maxL := 3) (ret := (some .int)) (by decide) rfl ?_
  intro p e s m args below meth c s₁ B0 hml hv
  obtain ⟨rfl, hv⟩ := hv
  have hx := B0.exec
  have hb := B0.bytes
  have hr := B0.returns
  have hts := atoms_spec (ws := (Cond.code y_Mod_word prog_14_method_6_code 3 (some .int)) :: tw) B0.pre
  have htw : ∀ w ∈ tw, w.before _ s = true := fun w hw => hts w (List.mem_cons_of_mem _ hw)
  have hown : s.vm.findClass "DrawingMachineModel" = some m.cls := findClass_of_methodNamed B0.named
  have hlocks := B0.notSynchronized
  obtain ⟨hC, hP, hD, hsz⟩ := wC_init hv
  subst hsz
  generalize hAe : va_A [(h0, .inr (12, [.int 0, .int 1, .int 1, .ref q562, .ref q571, .ref q574, .ref q577, .ref q580, .ref q583, .ref q586, .int 0, .int (-1), .int 0, .int 0, .long 0, .ref q599, .ref q600, .ref q601, .ref q602])), (q562, .inr (13, [.int 0, .ref z565, .int 1, .int 1, .ref z566, .int 0, .int 0, .int 0, .ref z567, .int 0, .int 0, .int (-1), .int (-1), .int 0, .int (-1), .int 0, .ref z568, .ref z569])), (z565, .inl (cI, 4096, .inl (fun _ => 0)))] s.heap.size = A at hC hD ⊢
  have hS : va_S A s.heap s.heap [] := va_S.rf
  have hl := lv_entry ([.ref h0, .int (nI j), .int v]) (n := 3) (Nat.le_of_ble_eq_true rfl)
  rw [lg_entry_eq]
  generalize (lg_sl ([.ref h0, .int (nI j), .int v]) ++ List.replicate (3 - (lg_sl ([.ref h0, .int (nI j), .int v])).length) Slot.unset).toArray = ls at hl ⊢
  have hl : lv_has ls 3 [(0, .ref h0), (1, .int (nI j)), (2, .int v)] := hl
  refine lv_aload_n hx hb d_Mod_word_0 rfl (lv_at hl 0 rfl) ?_
  refine lv_iload_n hx hb d_Mod_word_1 rfl (lv_at hl 1 rfl) ?_
  refine lv_i2l (v := (nI j).toInt64) hx hb d_Mod_word_2 rfl ?_
  refine lv_lconst (v := 0) hx hb d_Mod_word_3 (by decide) ?_
  refine lv_ldc2 (v := 4095) hx hb hown (htw _ k644) d_Mod_word_4 ?_
  refine wc_i (wr := [(h0, .inr (12, [.int 0, .int 1, .int 1, .ref q562, .ref q571, .ref q574, .ref q577, .ref q580, .ref q583, .ref q586, .int 0, .int (-1), .int 0, .int 0, .long 0, .ref q599, .ref q600, .ref q601, .ref q602])), (q562, .inr (13, [.int 0, .ref z565, .int 1, .int 1, .ref z566, .int 0, .int 0, .int 0, .ref z567, .int 0, .int 0, .int (-1), .int (-1), .int 0, .int (-1), .int 0, .ref z568, .ref z569])), (z565, .inl (cI, 4096, .inl (fun _ => 0)))]) hC hP hD hS [] [0, 1, 2] rfl rfl (by decide) (by decide) (va_runS (As := [.long ((nI j).toInt64), .long 0, .long 4095]) (rest := [.ref h0]) ⟨hx, hb, hml, hown, htw⟩ (c_Mod_in_t l D cI cL B _ ((nI j).toInt64) 0 4095 (good_lo 0 (by decide) (nI_pos (by omega))) (good_hi 4095 (by decide) (nI_nlt (a := 4095) (b := j) (by omega) (by omega)))) (va_cwS 3 htw gS_Mod_90 rfl rfl rfl (by decide +kernel) ⟨Nat.le_of_ble_eq_true rfl, Nat.le_of_ble_eq_true rfl⟩) (wC_pre hC hP hD hS [] (by decide) rfl) rfl rfl hl.1 rfl (lv_room (Nat.le_of_ble_eq_true rfl)) d_Mod_word_7 ⟨Nat.le_of_ble_eq_true rfl, Nat.le_of_ble_eq_true rfl⟩) (fun r636 u634 H locs hw635 hP hD hS => ?_)
  obtain rfl : r636 = 1 := hw635
  have hP : va_P D classes [(h0, .inr (12, [.int 0, .int 1, .int 1, .ref q562, .ref q571, .ref q574, .ref q577, .ref q580, .ref q583, .ref q586, .int 0, .int (-1), .int 0, .int 0, .long 0, .ref q599, .ref q600, .ref q601, .ref q602])), (q562, .inr (13, [.int 0, .ref z565, .int 1, .int 1, .ref z566, .int 0, .int 0, .int 0, .ref z567, .int 0, .int 0, .int (-1), .int (-1), .int 0, .int (-1), .int 0, .ref z568, .ref z569])), (z565, .inl (cI, 4096, .inl (fun _ => 0)))] H := hP
  have hD : va_D A [(h0, .inr (12, [.int 0, .int 1, .int 1, .ref q562, .ref q571, .ref q574, .ref q577, .ref q580, .ref q583, .ref q586, .int 0, .int (-1), .int 0, .int 0, .long 0, .ref q599, .ref q600, .ref q601, .ref q602])), (q562, .inr (13, [.int 0, .ref z565, .int 1, .int 1, .ref z566, .int 0, .int 0, .int 0, .ref z567, .int 0, .int 0, .int (-1), .int (-1), .int 0, .int (-1), .int 0, .ref z568, .ref z569])), (z565, .inl (cI, 4096, .inl (fun _ => 0)))] := hD
  refine W.widen (k := 0) (n := 0) (by omega) (by omega) ?_
  refine lv_if_ne (tgt := 17) hx hb d_Mod_word_10 (by decide) (fun c_637 => ?_) (fun c_637 => absurd c_637 (by decide))
  refine lv_iconst (v := 0) hx hb d_Mod_word_17 (by decide) ?_
  refine lv_iconst (v := 0) hx hb d_Mod_word_18 (by decide) ?_
  refine wc_i (wr := [(q562, .inr (13, [.int 0, .ref z565, .int 1, .int 1, .ref z566, .int 0, .int 0, .int 0, .ref z567, .int 0, .int 0, .int (-1), .int (-1), .int 0, .int (-1), .int 0, .ref z568, .ref z569])), (z565, .inl (cI, 4096, .inl (fun _ => 0)))]) hC hP hD hS [0] [1, 2] rfl rfl (by decide) (by decide) (va_runV (As := [.int 0, .int 0]) (rest := []) ⟨hx, hb, hml, hown, htw⟩ (c_Mref_00 l D cI cL B _ h0 q562 q571 q574 q577 q580 q583 q586 q599 q600 q601 q602) (cwV 2 htw gV_Mod_94 rfl rfl rfl (by decide +kernel) ⟨Nat.le_of_ble_eq_true rfl, Nat.le_of_ble_eq_true rfl⟩) (wC_preV (As := [.int 0, .int 0]) hC hP hD hS [0] (by decide) rfl (q0 := 0) rfl rfl) rfl rfl hl.1 rfl (lv_room (Nat.le_of_ble_eq_true rfl)) d_Mod_word_19 ⟨Nat.le_of_ble_eq_true rfl, Nat.le_of_ble_eq_true rfl⟩) (fun r640 u638 H locs hw639 hP hD hS => ?_)
  obtain rfl : r640 = 0 := hw639
  have hP : va_P D classes [(q562, .inr (13, [.int 0, .ref z565, .int 1, .int 1, .ref z566, .int 0, .int 0, .int 0, .ref z567, .int 0, .int 0, .int (-1), .int (-1), .int 0, .int (-1), .int 0, .ref z568, .ref z569])), (z565, .inl (cI, 4096, .inl (fun _ => 0))), (h0, .inr (12, [.int 0, .int 1, .int 1, .ref q562, .ref q571, .ref q574, .ref q577, .ref q580, .ref q583, .ref q586, .int 0, .int (-1), .int 0, .int 0, .long 0, .ref q599, .ref q600, .ref q601, .ref q602]))] H := hP
  have hD : va_D A [(q562, .inr (13, [.int 0, .ref z565, .int 1, .int 1, .ref z566, .int 0, .int 0, .int 0, .ref z567, .int 0, .int 0, .int (-1), .int (-1), .int 0, .int (-1), .int 0, .ref z568, .ref z569])), (z565, .inl (cI, 4096, .inl (fun _ => 0))), (h0, .inr (12, [.int 0, .int 1, .int 1, .ref q562, .ref q571, .ref q574, .ref q577, .ref q580, .ref q583, .ref q586, .int 0, .int (-1), .int 0, .int 0, .long 0, .ref q599, .ref q600, .ref q601, .ref q602]))] := hD
  refine W.widen (k := 0) (n := 0) (by omega) (by omega) ?_
  refine lv_if_eq (tgt := 27) hx hb d_Mod_word_22 (by decide) (fun c_641 => ?_) (fun c_641 => absurd c_641 (by decide))
  refine lv_aload_n hx hb d_Mod_word_27 rfl (lv_at hl 0 rfl) ?_
  refine va_get (D := D) (ci := 12) (v := .ref q562) (C := R_Mod) (T := F_Mod) (N := 19) hx hb htw i_Mod hown hC.1 hP 2 rfl rfl 3 (by decide) (htw _ k521) (fun _ h9 => h9) rfl d_Mod_word_28 ?_
  refine lv_iload_n hx hb d_Mod_word_31 rfl (lv_at hl 1 rfl) ?_
  refine lv_iload_n hx hb d_Mod_word_32 rfl (lv_at hl 2 rfl) ?_
  refine wc_i (wr := [(h0, .inr (12, [.int 0, .int 1, .int 1, .ref q562, .ref q571, .ref q574, .ref q577, .ref q580, .ref q583, .ref q586, .int 0, .int (-1), .int 0, .int 0, .long 0, .ref q599, .ref q600, .ref q601, .ref q602]))]) hC hP hD hS [0, 1] [2] rfl rfl (by decide) (by decide) (va_runV (As := [.int (nI j), .int v]) (rest := []) ⟨hx, hb, hml, hown, htw⟩ (c_cword_g l D cI cL B _ q562 z565 z566 z567 z568 z569 j v (hj)) (cwV 2 htw gV_Mod_107 rfl rfl rfl (by decide +kernel) ⟨Nat.le_of_ble_eq_true rfl, Nat.le_of_ble_eq_true rfl⟩) (wC_preV (As := [.int (nI j), .int v]) hC hP hD hS [0, 1] (by decide) rfl (q0 := 0) rfl rfl) rfl rfl hl.1 rfl (lv_room (Nat.le_of_ble_eq_true rfl)) d_Mod_word_33 ⟨Nat.le_of_ble_eq_true rfl, Nat.le_of_ble_eq_true rfl⟩) (fun r644 u642 H locs hw643 hP hD hS => ?_)
  obtain rfl : r644 = 0 := hw643
  have hP : va_P D classes [(h0, .inr (12, [.int 0, .int 1, .int 1, .ref q562, .ref q571, .ref q574, .ref q577, .ref q580, .ref q583, .ref q586, .int 0, .int (-1), .int 0, .int 0, .long 0, .ref q599, .ref q600, .ref q601, .ref q602]))] H := hP
  have hD : va_D A [(h0, .inr (12, [.int 0, .int 1, .int 1, .ref q562, .ref q571, .ref q574, .ref q577, .ref q580, .ref q583, .ref q586, .int 0, .int (-1), .int 0, .int 0, .long 0, .ref q599, .ref q600, .ref q601, .ref q602]))] := hD
  refine W.widen (k := 0) (n := 0) (by omega) (by omega) ?_
  refine W.widen (k := 0) (n := 0) (Nat.le_of_ble_eq_true rfl) (Nat.le_of_ble_eq_true rfl) ?_
  have hP9 := hP.sub (ws' := [(h0, .inr (12, [.int 0, .int 1, .int 1, .ref q562, .ref q571, .ref q574, .ref q577, .ref q580, .ref q583, .ref q586, .int 0, .int (-1), .int 0, .int 0, .long 0, .ref q599, .ref q600, .ref q601, .ref q602]))]) [0] rfl
  have hD9 := hD.sub (ws' := [(h0, .inr (12, [.int 0, .int 1, .int 1, .ref q562, .ref q571, .ref q574, .ref q577, .ref q580, .ref q583, .ref q586, .int 0, .int (-1), .int 0, .int 0, .long 0, .ref q599, .ref q600, .ref q601, .ref q602]))]) [0] (by decide) rfl
  exact W.iret (v := 0) hx hb hr (fun t ht hW => ⟨⟨0, (), rfl, rfl, by rw [ht]; exact hP9, va_K.moved hW.alike hC.1, hD9⟩, hS.F ht⟩) hS.2.2 d_Mod_word_36

theorem d_Mod_word_13 : decode prog_14_method_6_code 13 = .ok (.iconst 1, 1) := by decide +kernel
theorem d_Mod_word_14 : decode prog_14_method_6_code 14 = .ok (.goto 4, 3) := by decide +kernel
theorem d_Mod_word_25 : decode prog_14_method_6_code 25 = .ok (.iconst 0, 1) := by decide +kernel
theorem d_Mod_word_26 : decode prog_14_method_6_code 26 = .ok (.ireturn, 1) := by decide +kernel
set_option maxHeartbeats 4000000 in
set_option maxRecDepth 100000 in
theorem c_Mword_b (l : Launch) (D : va_G) (cI cL : ClassId) (B sz : Nat) (h0 : Nat) (q562 : Nat) (q571 : Nat) (q574 : Nat) (q577 : Nat) (q580 : Nat) (q583 : Nat) (q586 : Nat) (q599 : Nat) (q600 : Nat) (q601 : Nat) (q602 : Nat) (x : Int32) (v : Int32) (hbd : x < 0 ∨ 4095 < x) : Met l y_Mod_word ((Cond.code y_Mod_word prog_14_method_6_code 3 (some .int)) :: tw) ({ frames := 50, cells := 0, slots := 0, locals := 5000 }) (va_Pc [.ref h0, .int x, .int v] (wP D cI cL B sz [(h0, .inr (12, [.int 0, .int 1, .int 1, .ref q562, .ref q571, .ref q574, .ref q577, .ref q580, .ref q583, .ref q586, .int 0, .int (-1), .int 0, .int 0, .long 0, .ref q599, .ref q600, .ref q601, .ref q602]))])) (va_Qi (S := Unit) (fun r u => r = 0) (fun u => wB D cI cL (va_A [(h0, .inr (12, [.int 0, .int 1, .int 1, .ref q562, .ref q571, .ref q574, .ref q577, .ref q580, .ref q583, .ref q586, .int 0, .int (-1), .int 0, .int 0, .long 0, .ref q599, .ref q600, .ref q601, .ref q602]))] sz) ((fun _ : Unit => [(h0, .inr (12, [.int 1, .int 1, .int 1, .ref q562, .ref q571, .ref q574, .ref q577, .ref q580, .ref q583, .ref q586, .int 0, .int (-1), .int 0, .int 0, .long 0, .ref q599, .ref q600, .ref q601, .ref q602]))]) u)) (va_A [(h0, .inr (12, [.int 0, .int 1, .int 1, .ref q562, .ref q571, .ref q574, .ref q577, .ref q580, .ref q583, .ref q586, .int 0, .int (-1), .int 0, .int 0, .long 0, .ref q599, .ref q600, .ref q601, .ref q602]))] sz)) 0 0 (va_A [(h0, .inr (12, [.int 0, .int 1, .int 1, .ref q562, .ref q571, .ref q574, .ref q577, .ref q580, .ref q583, .ref q586, .int 0, .int (-1), .int 0, .int 0, .long 0, .ref q599, .ref q600, .ref q601, .ref q602]))] sz) := by
  refine Met.ofW (cc := prog_14_method_6_code) (maxL := 3) (ret := (some .int)) (by decide) rfl ?_
  intro p e s m args below meth c s₁ B0 hml hv
  obtain ⟨rfl, hv⟩ := hv
  have hx := B0.exec
  have hb := B0.bytes
  have hr := B0.returns
  have hts := atoms_spec (ws := (Cond.code y_Mod_word prog_14_method_6_code 3 (some .int)) :: tw) B0.pre
  have htw : ∀ w ∈ tw, w.before _ s = true := fun w hw => hts w (List.mem_cons_of_mem _ hw)
  have hown : s.vm.findClass "DrawingMachineModel" = some m.cls := findClass_of_methodNamed B0.named
  have hlocks := B0.notSynchronized
  obtain ⟨hC, hP, hD, hsz⟩ := wC_init hv
  subst hsz
  generalize hAe : va_A [(h0, .inr (12, [.int 0, .int 1, .int 1, .ref q562, .ref q571, .ref q574, .ref q577, .ref q580, .ref q583, .ref q586, .int 0, .int (-1), .int 0, .int 0, .long 0, .ref q599, .ref q600, .ref q601, .ref q602]))] s.heap.size = A at hC hD ⊢
  have hS : va_S A s.heap s.heap [] := va_S.rf
  have hl := lv_entry ([.ref h0, .int x, .int v]) (n := 3) (Nat.le_of_ble_eq_true rfl)
  rw [lg_entry_eq]
  generalize (lg_sl ([.ref h0, .int x, .int v]) ++ List.replicate (3 - (lg_sl ([.ref h0, .int x, .int v])).length) Slot.unset).toArray = ls at hl ⊢
  have hl : lv_has ls 3 [(0, .ref h0), (1, .int x), (2, .int v)] := hl
  refine lv_aload_n hx hb d_Mod_word_0 rfl (lv_at hl 0 rfl) ?_
  refine lv_iload_n hx hb d_Mod_word_1 rfl (lv_at hl 1 rfl) ?_
  refine lv_i2l (v := x.toInt64) hx hb d_Mod_word_2 rfl ?_
  refine lv_lconst (v := 0) hx hb d_Mod_word_3 (by decide) ?_
  refine lv_ldc2 (v := 4095) hx hb hown (htw _ k644) d_Mod_word_4 ?_
  refine wc_i (wr := [(h0, .inr (12, [.int 0, .int 1, .int 1, .ref q562, .ref q571, .ref q574, .ref q577, .ref q580, .ref q583, .ref q586, .int 0, .int (-1), .int 0, .int 0, .long 0, .ref q599, .ref q600, .ref q601, .ref q602]))]) hC hP hD hS [] [0] rfl rfl (by decide) (by decide) (va_runS (As := [.long x.toInt64, .long 0, .long 4095]) (rest := [.ref h0]) ⟨hx, hb, hml, hown, htw⟩ (c_Mod_in_f l D cI cL B _ x.toInt64 0 4095 (bad_in 0 4095 (by decide) (by decide) hbd)) (va_cwS 3 htw gS_Mod_90 rfl rfl rfl (by decide +kernel) ⟨Nat.le_of_ble_eq_true rfl, Nat.le_of_ble_eq_true rfl⟩) (wC_pre hC hP hD hS [] (by decide) rfl) rfl rfl hl.1 rfl (lv_room (Nat.le_of_ble_eq_true rfl)) d_Mod_word_7 ⟨Nat.le_of_ble_eq_true rfl, Nat.le_of_ble_eq_true rfl⟩) (fun r647 u645 H locs hw646 hP hD hS => ?_)
  obtain rfl : r647 = 0 := hw646
  have hP : va_P D classes [(h0, .inr (12, [.int 0, .int 1, .int 1, .ref q562, .ref q571, .ref q574, .ref q577, .ref q580, .ref q583, .ref q586, .int 0, .int (-1), .int 0, .int 0, .long 0, .ref q599, .ref q600, .ref q601, .ref q602]))] H := hP
  have hD : va_D A [(h0, .inr (12, [.int 0, .int 1, .int 1, .ref q562, .ref q571, .ref q574, .ref q577, .ref q580, .ref q583, .ref q586, .int 0, .int (-1), .int 0, .int 0, .long 0, .ref q599, .ref q600, .ref q601, .ref q602]))] := hD
  refine W.widen (k := 0) (n := 0) (by omega) (by omega) ?_
  refine lv_if_ne (tgt := 17) hx hb d_Mod_word_10 (by decide) (fun c_648 => absurd c_648 (by decide)) (fun c_648 => ?_)
  refine lv_iconst (v := 1) hx hb d_Mod_word_13 (by decide) ?_
  refine lv_goto (tgt := 18) hx hb d_Mod_word_14 (by decide) ?_
  refine lv_iconst (v := 0) hx hb d_Mod_word_18 (by decide) ?_
  refine wc_i (wr := []) hC hP hD hS [0] [] rfl rfl (by decide) (by decide) (va_runV (As := [.int 1, .int 0]) (rest := []) ⟨hx, hb, hml, hown, htw⟩ (c_Mref_10 l D cI cL B _ h0 q562 q571 q574 q577 q580 q583 q586 q599 q600 q601 q602) (cwV 2 htw gV_Mod_94 rfl rfl rfl (by decide +kernel) ⟨Nat.le_of_ble_eq_true rfl, Nat.le_of_ble_eq_true rfl⟩) (wC_preV (As := [.int 1, .int 0]) hC hP hD hS [0] (by decide) rfl (q0 := 0) rfl rfl) rfl rfl hl.1 rfl (lv_room (Nat.le_of_ble_eq_true rfl)) d_Mod_word_19 ⟨Nat.le_of_ble_eq_true rfl, Nat.le_of_ble_eq_true rfl⟩) (fun r651 u649 H locs hw650 hP hD hS => ?_)
  obtain rfl : r651 = 1 := hw650
  have hP : va_P D classes [(h0, .inr (12, [.int 1, .int 1, .int 1, .ref q562, .ref q571, .ref q574, .ref q577, .ref q580, .ref q583, .ref q586, .int 0, .int (-1), .int 0, .int 0, .long 0, .ref q599, .ref q600, .ref q601, .ref q602]))] H := hP
  have hD : va_D A [(h0, .inr (12, [.int 1, .int 1, .int 1, .ref q562, .ref q571, .ref q574, .ref q577, .ref q580, .ref q583, .ref q586, .int 0, .int (-1), .int 0, .int 0, .long 0, .ref q599, .ref q600, .ref q601, .ref q602]))] := hD
  refine W.widen (k := 0) (n := 0) (by omega) (by omega) ?_
  refine lv_if_eq (tgt := 27) hx hb d_Mod_word_22 (by decide) (fun c_652 => absurd c_652 (by decide)) (fun c_652 => ?_)
  refine lv_iconst (v := 0) hx hb d_Mod_word_25 (by decide) ?_
  refine W.widen (k := 0) (n := 0) (Nat.le_of_ble_eq_true rfl) (Nat.le_of_ble_eq_true rfl) ?_
  have hP9 := hP.sub (ws' := [(h0, .inr (12, [.int 1, .int 1, .int 1, .ref q562, .ref q571, .ref q574, .ref q577, .ref q580, .ref q583, .ref q586, .int 0, .int (-1), .int 0, .int 0, .long 0, .ref q599, .ref q600, .ref q601, .ref q602]))]) [0] rfl
  have hD9 := hD.sub (ws' := [(h0, .inr (12, [.int 1, .int 1, .int 1, .ref q562, .ref q571, .ref q574, .ref q577, .ref q580, .ref q583, .ref q586, .int 0, .int (-1), .int 0, .int 0, .long 0, .ref q599, .ref q600, .ref q601, .ref q602]))]) [0] (by decide) rfl
  exact W.iret (v := 0) hx hb hr (fun t ht hW => ⟨⟨0, (), rfl, rfl, by rw [ht]; exact hP9, va_K.moved hW.alike hC.1, hD9⟩, hS.F ht⟩) hS.2.2 d_Mod_word_26

theorem d_Mod_look_0 : decode prog_14_method_7_code 0 = .ok (.aload_n 0, 1) := by decide +kernel
theorem d_Mod_look_1 : decode prog_14_method_7_code 1 = .ok (.iload_n 1, 1) := by decide +kernel
theorem d_Mod_look_2 : decode prog_14_method_7_code 2 = .ok (.i2l, 1) := by decide +kernel
theorem d_Mod_look_3 : decode prog_14_method_7_code 3 = .ok (.lconst 0, 1) := by decide +kernel
theorem d_Mod_look_4 : decode prog_14_method_7_code 4 = .ok (.ldc2_w 105, 3) := by decide +kernel
theorem d_Mod_look_7 : decode prog_14_method_7_code 7 = .ok (.invokestatic 90, 3) := by decide +kernel
theorem d_Mod_look_10 : decode prog_14_method_7_code 10 = .ok (.ifCond .ne 7, 3) := by decide +kernel
theorem d_Mod_look_17 : decode prog_14_method_7_code 17 = .ok (.iconst 0, 1) := by decide +kernel
theorem d_Mod_look_18 : decode prog_14_method_7_code 18 = .ok (.iconst 0, 1) := by decide +kernel
theorem d_Mod_look_19 : decode prog_14_method_7_code 19 = .ok (.invokevirtual 94, 3) := by decide +kernel
theorem d_Mod_look_22 : decode prog_14_method_7_code 22 = .ok (.ifCond .eq 5, 3) := by decide +kernel
theorem d_Mod_look_27 : decode prog_14_method_7_code 27 = .ok (.aload_n 0, 1) := by decide +kernel
theorem d_Mod_look_28 : decode prog_14_method_7_code 28 = .ok (.getfield 19, 3) := by decide +kernel
theorem d_Mod_look_31 : decode prog_14_method_7_code 31 = .ok (.getfield 25, 3) := by decide +kernel
theorem d_Mod_look_34 : decode prog_14_method_7_code 34 = .ok (.iload_n 1, 1) := by decide +kernel
theorem d_Mod_look_35 : decode prog_14_method_7_code 35 = .ok (.iaload, 1) := by decide +kernel
theorem d_Mod_look_36 : decode prog_14_method_7_code 36 = .ok (.ireturn, 1) := by decide +kernel
set_option maxHeartbeats 4000000 in
set_option maxRecDepth 100000 in
theorem c_Mlook_g (l : Launch) (D : va_G) (cI cL : ClassId) (B sz : Nat) (h0 : Nat) (q562 : Nat) (z565 : Nat) (z566 : Nat) (z567 : Nat) (z568 : Nat) (z569 : Nat) (q571 : Nat) (q574 : Nat) (q577 : Nat) (q580 : Nat) (q583 : Nat) (q586 : Nat) (q599 : Nat) (q600 : Nat) (q601 : Nat) (q602 : Nat) (j : Nat) (hj : j < 4096) : Met l y_Mod_look ((Cond.code y_Mod_look prog_14_method_7_code 2 (some .int)) :: tw) ({ frames := 50, cells := 0, slots := 0, locals := 5000 }) (va_Pc [.ref h0, .int (nI j)] (wP D cI cL B sz [(h0, .inr (12, [.int 0, .int 1, .int 1, .ref q562, .ref q571, .ref q574, .ref q577, .ref q580, .ref q583, .ref q586, .int 0, .int (-1), .int 0, .int 0, .long 0, .ref q599, .ref q600, .ref q601, .ref q602])), (q562, .inr (13, [.int 0, .ref z565, .int 1, .int 1, .ref z566, .int 0, .int 0, .int 0, .ref z567, .int 0, .int 0, .int (-1), .int (-1), .int 0, .int (-1), .int 0, .ref z568, .ref z569])), (z565, .inl (cI, 4096, .inl (fun _ => 0)))])) (va_Qi (S := Unit) (fun r u => r = 0) (fun u => wB D cI cL (va_A [(h0, .inr (12, [.int 0, .int 1, .int 1, .ref q562, .ref q571, .ref q574, .ref q577, .ref q580, .ref q583, .ref q586, .int 0, .int (-1), .int 0, .int 0, .long 0, .ref q599, .ref q600, .ref q601, .ref q602])), (q562, .inr (13, [.int 0, .ref z565, .int 1, .int 1, .ref z566, .int 0, .int 0, .int 0, .ref z567, .int 0, .int 0, .int (-1), .int (-1), .int 0, .int (-1), .int 0, .ref z568, .ref z569])), (z565, .inl (cI, 4096, .inl (fun _ => 0)))] sz) ((fun _ : Unit => [(h0, .inr (12, [.int 0, .int 1, .int 1, .ref q562, .ref q571, .ref q574, .ref q577, .ref q580, .ref q583, .ref q586, .int 0, .int (-1), .int 0, .int 0, .long 0, .ref q599, .ref q600, .ref q601, .ref q602]))]) u)) (va_A [(h0, .inr (12, [.int 0, .int 1, .int 1, .ref q562, .ref q571, .ref q574, .ref q577, .ref q580, .ref q583, .ref q586, .int 0, .int (-1), .int 0, .int 0, .long 0, .ref q599, .ref q600, .ref q601, .ref q602])), (q562, .inr (13, [.int 0, .ref z565, .int 1, .int 1, .ref z566, .int 0, .int 0, .int 0, .ref z567, .int 0, .int 0, .int (-1), .int (-1), .int 0, .int (-1), .int 0, .ref z568, .ref z569])), (z565, .inl (cI, 4096, .inl (fun _ => 0)))] sz)) 0 0 (va_A [(h0, .inr (12, [.int 0, .int 1, .int 1, .ref q562, .ref q571, .ref q574, .ref q577, .ref q580, .ref q583, .ref q586, .int 0, .int (-1), .int 0, .int 0, .long 0, .ref q599, .ref q600, .ref q601, .ref q602])), (q562, .inr (13, [.int 0, .ref z565, .int 1, .int 1, .ref z566, .int 0, .int 0, .int 0, .ref z567, .int 0, .int 0, .int (-1), .int (-1), .int 0, .int (-1), .int 0, .ref z568, .ref z569])), (z565, .inl (cI, 4096, .inl (fun _ => 0)))] sz) := by
  refine Met.ofW (cc := prog_14_method_7_code) (maxL := 2) (ret := (some .int)) (by decide) rfl ?_
  intro p e s m args below meth c s₁ B0 hml hv
  obtain ⟨rfl, hv⟩ := hv
  have hx := B0.exec
  have hb := B0.bytes
  have hr := B0.returns
  have hts := atoms_spec (ws := (Cond.code y_Mod_look prog_14_method_7_code 2 (some .int)) :: tw) B0.pre
  have htw : ∀ w ∈ tw, w.before _ s = true := fun w hw => hts w (List.mem_cons_of_mem _ hw)
  have hown : s.vm.findClass "DrawingMachineModel" = some m.cls := findClass_of_methodNamed B0.named
  have hlocks := B0.notSynchronized
  obtain ⟨hC, hP, hD, hsz⟩ := wC_init hv
  subst hsz
  generalize hAe : va_A [(h0, .inr (12, [.int 0, .int 1, .int 1, .ref q562, .ref q571, .ref q574, .ref q577, .ref q580, .ref q583, .ref q586, .int 0, .int (-1), .int 0, .int 0, .long 0, .ref q599, .ref q600, .ref q601, .ref q602])), (q562, .inr (13, [.int 0, .ref z565, .int 1, .int 1, .ref z566, .int 0, .int 0, .int 0, .ref z567, .int 0, .int 0, .int (-1), .int (-1), .int 0, .int (-1), .int 0, .ref z568, .ref z569])), (z565, .inl (cI, 4096, .inl (fun _ => 0)))] s.heap.size = A at hC hD ⊢
  have hS : va_S A s.heap s.heap [] := va_S.rf
  have hl := lv_entry ([.ref h0, .int (nI j)]) (n := 2) (Nat.le_of_ble_eq_true rfl)
  rw [lg_entry_eq]
  generalize (lg_sl ([.ref h0, .int (nI j)]) ++ List.replicate (2 - (lg_sl ([.ref h0, .int (nI j)])).length) Slot.unset).toArray = ls at hl ⊢
  have hl : lv_has ls 2 [(0, .ref h0), (1, .int (nI j))] := hl
  refine lv_aload_n hx hb d_Mod_look_0 rfl (lv_at hl 0 rfl) ?_
  refine lv_iload_n hx hb d_Mod_look_1 rfl (lv_at hl 1 rfl) ?_
  refine lv_i2l (v := (nI j).toInt64) hx hb d_Mod_look_2 rfl ?_
  refine lv_lconst (v := 0) hx hb d_Mod_look_3 (by decide) ?_
  refine lv_ldc2 (v := 4095) hx hb hown (htw _ k644) d_Mod_look_4 ?_
  refine wc_i (wr := [(h0, .inr (12, [.int 0, .int 1, .int 1, .ref q562, .ref q571, .ref q574, .ref q577, .ref q580, .ref q583, .ref q586, .int 0, .int (-1), .int 0, .int 0, .long 0, .ref q599, .ref q600, .ref q601, .ref q602])), (q562, .inr (13, [.int 0, .ref z565, .int 1, .int 1, .ref z566, .int 0, .int 0, .int 0, .ref z567, .int 0, .int 0, .int (-1), .int (-1), .int 0, .int (-1), .int 0, .ref z568, .ref z569])), (z565, .inl (cI, 4096, .inl (fun _ => 0)))]) hC hP hD hS [] [0, 1, 2] rfl rfl (by decide) (by decide) (va_runS (As := [.long ((nI j).toInt64), .long 0, .long 4095]) (rest := [.ref h0]) ⟨hx, hb, hml, hown, htw⟩ (c_Mod_in_t l D cI cL B _ ((nI j).toInt64) 0 4095 (good_lo 0 (by decide) (nI_pos (by omega))) (good_hi 4095 (by decide) (nI_nlt (a := 4095) (b := j) (by omega) (by omega)))) (va_cwS 3 htw gS_Mod_90 rfl rfl rfl (by decide +kernel) ⟨Nat.le_of_ble_eq_true rfl, Nat.le_of_ble_eq_true rfl⟩) (wC_pre hC hP hD hS [] (by decide) rfl) rfl rfl hl.1 rfl (lv_room (Nat.le_of_ble_eq_true rfl)) d_Mod_look_7 ⟨Nat.le_of_ble_eq_true rfl, Nat.le_of_ble_eq_true rfl⟩) (fun r655 u653 H locs hw654 hP hD hS => ?_)
  obtain rfl : r655 = 1 := hw654
  have hP : va_P D classes [(h0, .inr (12, [.int 0, .int 1, .int 1, .ref q562, .ref q571, .ref q574, .ref q577, .ref q580, .ref q583, .ref q586, .int 0, .int (-1), .int 0, .int 0, .long 0, .ref q599, .ref q600, .ref q601, .ref q602])), (q562, .inr (13, [.int 0, .ref z565, .int 1, .int 1, .ref z566, .int 0, .int 0, .int 0, .ref z567, .int 0, .int 0, .int (-1), .int (-1), .int 0, .int (-1), .int 0, .ref z568, .ref z569])), (z565, .inl (cI, 4096, .inl (fun _ => 0)))] H := hP
  have hD : va_D A [(h0, .inr (12, [.int 0, .int 1, .int 1, .ref q562, .ref q571, .ref q574, .ref q577, .ref q580, .ref q583, .ref q586, .int 0, .int (-1), .int 0, .int 0, .long 0, .ref q599, .ref q600, .ref q601, .ref q602])), (q562, .inr (13, [.int 0, .ref z565, .int 1, .int 1, .ref z566, .int 0, .int 0, .int 0, .ref z567, .int 0, .int 0, .int (-1), .int (-1), .int 0, .int (-1), .int 0, .ref z568, .ref z569])), (z565, .inl (cI, 4096, .inl (fun _ => 0)))] := hD
  refine W.widen (k := 0) (n := 0) (by omega) (by omega) ?_
  refine lv_if_ne (tgt := 17) hx hb d_Mod_look_10 (by decide) (fun c_656 => ?_) (fun c_656 => absurd c_656 (by decide))
  refine lv_iconst (v := 0) hx hb d_Mod_look_17 (by decide) ?_
  refine lv_iconst (v := 0) hx hb d_Mod_look_18 (by decide) ?_
  refine wc_i (wr := [(q562, .inr (13, [.int 0, .ref z565, .int 1, .int 1, .ref z566, .int 0, .int 0, .int 0, .ref z567, .int 0, .int 0, .int (-1), .int (-1), .int 0, .int (-1), .int 0, .ref z568, .ref z569])), (z565, .inl (cI, 4096, .inl (fun _ => 0)))]) hC hP hD hS [0] [1, 2] rfl rfl (by decide) (by decide) (va_runV (As := [.int 0, .int 0]) (rest := []) ⟨hx, hb, hml, hown, htw⟩ (c_Mref_00 l D cI cL B _ h0 q562 q571 q574 q577 q580 q583 q586 q599 q600 q601 q602) (cwV 2 htw gV_Mod_94 rfl rfl rfl (by decide +kernel) ⟨Nat.le_of_ble_eq_true rfl, Nat.le_of_ble_eq_true rfl⟩) (wC_preV (As := [.int 0, .int 0]) hC hP hD hS [0] (by decide) rfl (q0 := 0) rfl rfl) rfl rfl hl.1 rfl (lv_room (Nat.le_of_ble_eq_true rfl)) d_Mod_look_19 ⟨Nat.le_of_ble_eq_true rfl, Nat.le_of_ble_eq_true rfl⟩) (fun r659 u657 H locs hw658 hP hD hS => ?_)
  obtain rfl : r659 = 0 := hw658
  have hP : va_P D classes [(q562, .inr (13, [.int 0, .ref z565, .int 1, .int 1, .ref z566, .int 0, .int 0, .int 0, .ref z567, .int 0, .int 0, .int (-1), .int (-1), .int 0, .int (-1), .int 0, .ref z568, .ref z569])), (z565, .inl (cI, 4096, .inl (fun _ => 0))), (h0, .inr (12, [.int 0, .int 1, .int 1, .ref q562, .ref q571, .ref q574, .ref q577, .ref q580, .ref q583, .ref q586, .int 0, .int (-1), .int 0, .int 0, .long 0, .ref q599, .ref q600, .ref q601, .ref q602]))] H := hP
  have hD : va_D A [(q562, .inr (13, [.int 0, .ref z565, .int 1, .int 1, .ref z566, .int 0, .int 0, .int 0, .ref z567, .int 0, .int 0, .int (-1), .int (-1), .int 0, .int (-1), .int 0, .ref z568, .ref z569])), (z565, .inl (cI, 4096, .inl (fun _ => 0))), (h0, .inr (12, [.int 0, .int 1, .int 1, .ref q562, .ref q571, .ref q574, .ref q577, .ref q580, .ref q583, .ref q586, .int 0, .int (-1), .int 0, .int 0, .long 0, .ref q599, .ref q600, .ref q601, .ref q602]))] := hD
  refine W.widen (k := 0) (n := 0) (by omega) (by omega) ?_
  refine lv_if_eq (tgt := 27) hx hb d_Mod_look_22 (by decide) (fun c_660 => ?_) (fun c_660 => absurd c_660 (by decide))
  refine lv_aload_n hx hb d_Mod_look_27 rfl (lv_at hl 0 rfl) ?_
  refine va_get (D := D) (ci := 12) (v := .ref q562) (C := R_Mod) (T := F_Mod) (N := 19) hx hb htw i_Mod hown hC.1 hP 2 rfl rfl 3 (by decide) (htw _ k521) (fun _ h9 => h9) rfl d_Mod_look_28 ?_
  refine va_getN (D := D) (ci := 13) (v := .ref z565) (C := R_Cmd) (T := F_Cmd) (N := 18) hx hb htw i_Cmd hown hC.1 hP 0 rfl rfl 1 (by decide) (va_Nw.use rfl (hC.2.1.1 _ kn7)) (fun _ h9 => h9) rfl d_Mod_look_31 ?_
  refine lv_iload_n hx hb d_Mod_look_34 rfl (lv_at hl 1 rfl) ?_
  refine va_iald hx hb hC.1 hP 1 0 rfl rfl (vp_in_nI (by omega) (by omega)) d_Mod_look_35 ?_
  refine wi_c (v := 0) rfl ?_
  refine W.widen (k := 0) (n := 0) (Nat.le_of_ble_eq_true rfl) (Nat.le_of_ble_eq_true rfl) ?_
  have hP9 := hP.sub (ws' := [(h0, .inr (12, [.int 0, .int 1, .int 1, .ref q562, .ref q571, .ref q574, .ref q577, .ref q580, .ref q583, .ref q586, .int 0, .int (-1), .int 0, .int 0, .long 0, .ref q599, .ref q600, .ref q601, .ref q602]))]) [2] rfl
  have hD9 := hD.sub (ws' := [(h0, .inr (12, [.int 0, .int 1, .int 1, .ref q562, .ref q571, .ref q574, .ref q577, .ref q580, .ref q583, .ref q586, .int 0, .int (-1), .int 0, .int 0, .long 0, .ref q599, .ref q600, .ref q601, .ref q602]))]) [2] (by decide) rfl
  exact W.iret (v := 0) hx hb hr (fun t ht hW => ⟨⟨0, (), rfl, rfl, by rw [ht]; exact hP9, va_K.moved hW.alike hC.1, hD9⟩, hS.F ht⟩) hS.2.2 d_Mod_look_36

theorem d_Mod_look_13 : decode prog_14_method_7_code 13 = .ok (.iconst 1, 1) := by decide +kernel
theorem d_Mod_look_14 : decode prog_14_method_7_code 14 = .ok (.goto 4, 3) := by decide +kernel
theorem d_Mod_look_25 : decode prog_14_method_7_code 25 = .ok (.iconst 0, 1) := by decide +kernel
theorem d_Mod_look_26 : decode prog_14_method_7_code 26 = .ok (.ireturn, 1) := by decide +kernel
set_option maxHeartbeats 4000000 in
set_option maxRecDepth 100000 in
theorem c_Mlook_b (l : Launch) (D : va_G) (cI cL : ClassId) (B sz : Nat) (h0 : Nat) (q562 : Nat) (q571 : Nat) (q574 : Nat) (q577 : Nat) (q580 : Nat) (q583 : Nat) (q586 : Nat) (q599 : Nat) (q600 : Nat) (q601 : Nat) (q602 : Nat) (x : Int32) (hbd : x < 0 ∨ 4095 < x) : Met l y_Mod_look ((Cond.code y_Mod_look prog_14_method_7_code 2 (some .int)) :: tw) ({ frames := 50, cells := 0, slots := 0, locals := 5000 }) (va_Pc [.ref h0, .int x] (wP D cI cL B sz [(h0, .inr (12, [.int 0, .int 1, .int 1, .ref q562, .ref q571, .ref q574, .ref q577, .ref q580, .ref q583, .ref q586, .int 0, .int (-1), .int 0, .int 0, .long 0, .ref q599, .ref q600, .ref q601, .ref q602]))])) (va_Qi (S := Unit) (fun r u => r = 0) (fun u => wB D cI cL (va_A [(h0, .inr (12, [.int 0, .int 1, .int 1, .ref q562, .ref q571, .ref q574, .ref q577, .ref q580, .ref q583, .ref q586, .int 0, .int (-1), .int 0, .int 0, .long 0, .ref q599, .ref q600, .ref q601, .ref q602]))] sz) ((fun _ : Unit => [(h0, .inr (12, [.int 1, .int 1, .int 1, .ref q562, .ref q571, .ref q574, .ref q577, .ref q580, .ref q583, .ref q586, .int 0, .int (-1), .int 0, .int 0, .long 0, .ref q599, .ref q600, .ref q601, .ref q602]))]) u)) (va_A [(h0, .inr (12, [.int 0, .int 1, .int 1, .ref q562, .ref q571, .ref q574, .ref q577, .ref q580, .ref q583, .ref q586, .int 0, .int (-1), .int 0, .int 0, .long 0, .ref q599, .ref q600, .ref q601, .ref q602]))] sz)) 0 0 (va_A [(h0, .inr (12, [.int 0, .int 1, .int 1, .ref q562, .ref q571, .ref q574, .ref q577, .ref q580, .ref q583, .ref q586, .int 0, .int (-1), .int 0, .int 0, .long 0, .ref q599, .ref q600, .ref q601, .ref q602]))] sz) := by
  refine Met.ofW (cc := prog_14_method_7_code) (maxL := 2) (ret := (some .int)) (by decide) rfl ?_
  intro p e s m args below meth c s₁ B0 hml hv
  obtain ⟨rfl, hv⟩ := hv
  have hx := B0.exec
  have hb := B0.bytes
  have hr := B0.returns
  have hts := atoms_spec (ws := (Cond.code y_Mod_look prog_14_method_7_code 2 (some .int)) :: tw) B0.pre
  have htw : ∀ w ∈ tw, w.before _ s = true := fun w hw => hts w (List.mem_cons_of_mem _ hw)
  have hown : s.vm.findClass "DrawingMachineModel" = some m.cls := findClass_of_methodNamed B0.named
  have hlocks := B0.notSynchronized
  obtain ⟨hC, hP, hD, hsz⟩ := wC_init hv
  subst hsz
  generalize hAe : va_A [(h0, .inr (12, [.int 0, .int 1, .int 1, .ref q562, .ref q571, .ref q574, .ref q577, .ref q580, .ref q583, .ref q586, .int 0, .int (-1), .int 0, .int 0, .long 0, .ref q599, .ref q600, .ref q601, .ref q602]))] s.heap.size = A at hC hD ⊢
  have hS : va_S A s.heap s.heap [] := va_S.rf
  have hl := lv_entry ([.ref h0, .int x]) (n := 2) (Nat.le_of_ble_eq_true rfl)
  rw [lg_entry_eq]
  generalize (lg_sl ([.ref h0, .int x]) ++ List.replicate (2 - (lg_sl ([.ref h0, .int x])).length) Slot.unset).toArray = ls at hl ⊢
  have hl : lv_has ls 2 [(0, .ref h0), (1, .int x)] := hl
  refine lv_aload_n hx hb d_Mod_look_0 rfl (lv_at hl 0 rfl) ?_
  refine lv_iload_n hx hb d_Mod_look_1 rfl (lv_at hl 1 rfl) ?_
  refine lv_i2l (v := x.toInt64) hx hb d_Mod_look_2 rfl ?_
  refine lv_lconst (v := 0) hx hb d_Mod_look_3 (by decide) ?_
  refine lv_ldc2 (v := 4095) hx hb hown (htw _ k644) d_Mod_look_4 ?_
  refine wc_i (wr := [(h0, .inr (12, [.int 0, .int 1, .int 1, .ref q562, .ref q571, .ref q574, .ref q577, .ref q580, .ref q583, .ref q586, .int 0, .int (-1), .int 0, .int 0, .long 0, .ref q599, .ref q600, .ref q601, .ref q602]))]) hC hP hD hS [] [0] rfl rfl (by decide) (by decide) (va_runS (As := [.long x.toInt64, .long 0, .long 4095]) (rest := [.ref h0]) ⟨hx, hb, hml, hown, htw⟩ (c_Mod_in_f l D cI cL B _ x.toInt64 0 4095 (bad_in 0 4095 (by decide) (by decide) hbd)) (va_cwS 3 htw gS_Mod_90 rfl rfl rfl (by decide +kernel) ⟨Nat.le_of_ble_eq_true rfl, Nat.le_of_ble_eq_true rfl⟩) (wC_pre hC hP hD hS [] (by decide) rfl) rfl rfl hl.1 rfl (lv_room (Nat.le_of_ble_eq_true rfl)) d_Mod_look_7 ⟨Nat.le_of_ble_eq_true rfl, Nat.le_of_ble_eq_true rfl⟩) (fun r663 u661 H locs hw662 hP hD hS => ?_)
  obtain rfl : r663 = 0 := hw662
  have hP : va_P D classes [(h0, .inr (12, [.int 0, .int 1, .int 1, .ref q562, .ref q571, .ref q574, .ref q577, .ref q580, .ref q583, .ref q586, .int 0, .int (-1), .int 0, .int 0, .long 0, .ref q599, .ref q600, .ref q601, .ref q602]))] H := hP
  have hD : va_D A [(h0, .inr (12, [.int 0, .int 1, .int 1, .ref q562, .ref q571, .ref q574, .ref q577, .ref q580, .ref q583, .ref q586, .int 0, .int (-1), .int 0, .int 0, .long 0, .ref q599, .ref q600, .ref q601, .ref q602]))] := hD
  refine W.widen (k := 0) (n := 0) (by omega) (by omega) ?_
  refine lv_if_ne (tgt := 17) hx hb d_Mod_look_10 (by decide) (fun c_664 => absurd c_664 (by decide)) (fun c_664 => ?_)
  refine lv_iconst (v := 1) hx hb d_Mod_look_13 (by decide) ?_
  refine lv_goto (tgt := 18) hx hb d_Mod_look_14 (by decide) ?_
  refine lv_iconst (v := 0) hx hb d_Mod_look_18 (by decide) ?_
  refine wc_i (wr := []) hC hP hD hS [0] [] rfl rfl (by decide) (by decide) (va_runV (As := [.int 1, .int 0]) (rest := []) ⟨hx, hb, hml, hown, htw⟩ (c_Mref_10 l D cI cL B _ h0 q562 q571 q574 q577 q580 q583 q586 q599 q600 q601 q602) (cwV 2 htw gV_Mod_94 rfl rfl rfl (by decide +kernel) ⟨Nat.le_of_ble_eq_true rfl, Nat.le_of_ble_eq_true rfl⟩) (wC_preV (As := [.int 1, .int 0]) hC hP hD hS [0] (by decide) rfl (q0 := 0) rfl rfl) rfl rfl hl.1 rfl (lv_room (Nat.le_of_ble_eq_true rfl)) d_Mod_look_19 ⟨Nat.le_of_ble_eq_true rfl, Nat.le_of_ble_eq_true rfl⟩) (fun r667 u665 H locs hw666 hP hD hS => ?_)
  obtain rfl : r667 = 1 := hw666
  have hP : va_P D classes [(h0, .inr (12, [.int 1, .int 1, .int 1, .ref q562, .ref q571, .ref q574, .ref q577, .ref q580, .ref q583, .ref q586, .int 0, .int (-1), .int 0, .int 0, .long 0, .ref q599, .ref q600, .ref q601, .ref q602]))] H := hP
  have hD : va_D A [(h0, .inr (12, [.int 1, .int 1, .int 1, .ref q562, .ref q571, .ref q574, .ref q577, .ref q580, .ref q583, .ref q586, .int 0, .int (-1), .int 0, .int 0, .long 0, .ref q599, .ref q600, .ref q601, .ref q602]))] := hD
  refine W.widen (k := 0) (n := 0) (by omega) (by omega) ?_
  refine lv_if_eq (tgt := 27) hx hb d_Mod_look_22 (by decide) (fun c_668 => absurd c_668 (by decide)) (fun c_668 => ?_)
  refine lv_iconst (v := 0) hx hb d_Mod_look_25 (by decide) ?_
  refine W.widen (k := 0) (n := 0) (Nat.le_of_ble_eq_true rfl) (Nat.le_of_ble_eq_true rfl) ?_
  have hP9 := hP.sub (ws' := [(h0, .inr (12, [.int 1, .int 1, .int 1, .ref q562, .ref q571, .ref q574, .ref q577, .ref q580, .ref q583, .ref q586, .int 0, .int (-1), .int 0, .int 0, .long 0, .ref q599, .ref q600, .ref q601, .ref q602]))]) [0] rfl
  have hD9 := hD.sub (ws' := [(h0, .inr (12, [.int 1, .int 1, .int 1, .ref q562, .ref q571, .ref q574, .ref q577, .ref q580, .ref q583, .ref q586, .int 0, .int (-1), .int 0, .int 0, .long 0, .ref q599, .ref q600, .ref q601, .ref q602]))]) [0] (by decide) rfl
  exact W.iret (v := 0) hx hb hr (fun t ht hW => ⟨⟨0, (), rfl, rfl, by rw [ht]; exact hP9, va_K.moved hW.alike hC.1, hD9⟩, hS.F ht⟩) hS.2.2 d_Mod_look_26

theorem d_Cmd_put_0 : decode prog_15_method_15_code 0 = .ok (.aload_n 0, 1) := by decide +kernel
theorem d_Cmd_put_1 : decode prog_15_method_15_code 1 = .ok (.aload_n 0, 1) := by decide +kernel
theorem d_Cmd_put_2 : decode prog_15_method_15_code 2 = .ok (.getfield 124, 3) := by decide +kernel
theorem d_Cmd_put_5 : decode prog_15_method_15_code 5 = .ok (.sipush 4096, 3) := by decide +kernel
theorem d_Cmd_put_8 : decode prog_15_method_15_code 8 = .ok (.if_icmp .ne 7, 3) := by decide +kernel
theorem d_Cmd_put_15 : decode prog_15_method_15_code 15 = .ok (.iconst 0, 1) := by decide +kernel
theorem d_Cmd_put_16 : decode prog_15_method_15_code 16 = .ok (.invokevirtual 120, 3) := by decide +kernel
theorem d_Cmd_put_19 : decode prog_15_method_15_code 19 = .ok (.ifCond .eq 5, 3) := by decide +kernel
theorem d_Cmd_put_24 : decode prog_15_method_15_code 24 = .ok (.aload_n 0, 1) := by decide +kernel
theorem d_Cmd_put_25 : decode prog_15_method_15_code 25 = .ok (.getfield 20, 3) := by decide +kernel
theorem d_Cmd_put_28 : decode prog_15_method_15_code 28 = .ok (.aload_n 0, 1) := by decide +kernel
theorem d_Cmd_put_29 : decode prog_15_method_15_code 29 = .ok (.getfield 124, 3) := by decide +kernel
theorem d_Cmd_put_32 : decode prog_15_method_15_code 32 = .ok (.iload_n 1, 1) := by decide +kernel
theorem d_Cmd_put_33 : decode prog_15_method_15_code 33 = .ok (.iastore, 1) := by decide +kernel
theorem d_Cmd_put_34 : decode prog_15_method_15_code 34 = .ok (.aload_n 0, 1) := by decide +kernel
theorem d_Cmd_put_35 : decode prog_15_method_15_code 35 = .ok (.dup, 1) := by decide +kernel
theorem d_Cmd_put_36 : decode prog_15_method_15_code 36 = .ok (.getfield 124, 3) := by decide +kernel
theorem d_Cmd_put_39 : decode prog_15_method_15_code 39 = .ok (.iconst 1, 1) := by decide +kernel
theorem d_Cmd_put_40 : decode prog_15_method_15_code 40 = .ok (.iadd, 1) := by decide +kernel
theorem d_Cmd_put_41 : decode prog_15_method_15_code 41 = .ok (.putfield 124, 3) := by decide +kernel
theorem d_Cmd_put_44 : decode prog_15_method_15_code 44 = .ok (.aload_n 0, 1) := by decide +kernel
theorem d_Cmd_put_45 : decode prog_15_method_15_code 45 = .ok (.getfield 124, 3) := by decide +kernel
theorem d_Cmd_put_48 : decode prog_15_method_15_code 48 = .ok (.ireturn, 1) := by decide +kernel
set_option maxHeartbeats 4000000 in
set_option maxRecDepth 100000 in
theorem c_put_0 (l : Launch) (D : va_G) (cI cL : ClassId) (B sz : Nat) (q562 : Nat) (z565 : Nat) (z566 : Nat) (z567 : Nat) (z568 : Nat) (z569 : Nat) (f : Nat → Int32) (v : Int32) : Met l y_Cmd_put ((Cond.code y_Cmd_put prog_15_method_15_code 2 (some .int)) :: tw) ({ frames := 30, cells := 0, slots := 0, locals := 3000 }) (va_Pc [.ref q562, .int v] (wP D cI cL B sz [(q562, .inr (13, [.int 0, .ref z565, .int 1, .int 1, .ref z566, .int 0, .int 0, .int 0, .ref z567, .int 0, .int 0, .int (-1), .int (-1), .int 0, .int (-1), .int 0, .ref z568, .ref z569])), (z566, .inl (cI, 4096, .inl f))])) (va_Qi (S := Nat → Int32) (fun r u => r = 1) (fun u => wB D cI cL (va_A [(q562, .inr (13, [.int 0, .ref z565, .int 1, .int 1, .ref z566, .int 0, .int 0, .int 0, .ref z567, .int 0, .int 0, .int (-1), .int (-1), .int 0, .int (-1), .int 0, .ref z568, .ref z569])), (z566, .inl (cI, 4096, .inl f))] sz) ((fun f674 : Nat → Int32 => [(z566, .inl (cI, 4096, .inl f674)), (q562, .inr (13, [.int 0, .ref z565, .int 1, .int 1, .ref z566, .int 1, .int 0, .int 0, .ref z567, .int 0, .int 0, .int (-1), .int (-1), .int 0, .int (-1), .int 0, .ref z568, .ref z569]))]) u)) (va_A [(q562, .inr (13, [.int 0, .ref z565, .int 1, .int 1, .ref z566, .int 0, .int 0, .int 0, .ref z567, .int 0, .int 0, .int (-1), .int (-1), .int 0, .int (-1), .int 0, .ref z568, .ref z569])), (z566, .inl (cI, 4096, .inl f))] sz)) 0 0 (va_A [(q562, .inr (13, [.int 0, .ref z565, .int 1, .int 1, .ref z566, .int 0, .int 0, .int 0, .ref z567, .int 0, .int 0, .int (-1), .int (-1), .int 0, .int (-1), .int 0, .ref z568, .ref z569])), (z566, .inl (cI, 4096, .inl f))] sz) := by
  refine Met.ofW (cc := prog_15_method_15_code) (maxL := 2) (ret := (some .int)) (by decide) rfl ?_
  intro p e s m args below meth c s₁ B0 hml hv
  obtain ⟨rfl, hv⟩ := hv
  have hx := B0.exec
  have hb := B0.bytes
  have hr := B0.returns
  have hts := atoms_spec (ws := (Cond.code y_Cmd_put prog_15_method_15_code 2 (some .int)) :: tw) B0.pre
  have htw : ∀ w ∈ tw, w.before _ s = true := fun w hw => hts w (List.mem_cons_of_mem _ hw)
  have hown : s.vm.findClass "DrawingMachineModel$DrawCommandsModel" = some m.cls := findClass_of_methodNamed B0.named
  have hlocks := B0.notSynchronized
  obtain ⟨hC, hP, hD, hsz⟩ := wC_init hv
  subst hsz
  generalize hAe : va_A [(q562, .inr (13, [.int 0, .ref z565, .int 1, .int 1, .ref z566, .int 0, .int 0, .int 0, .ref z567, .int 0, .int 0, .int (-1), .int (-1), .int 0, .int (-1), .int 0, .ref z568, .ref z569])), (z566, .inl (cI, 4096, .inl f))] s.heap.size = A at hC hD ⊢
  have hS : va_S A s.heap s.heap [] := va_S.rf
  have hl := lv_entry ([.ref q562, .int v]) (n := 2) (Nat.le_of_ble_eq_true rfl)
  rw [lg_entry_eq]
  generalize (lg_sl ([.ref q562, .int v]) ++ List.replicate (2 - (lg_sl ([.ref q562, .int v])).length) Slot.unset).toArray = ls at hl ⊢
  have hl : lv_has ls 2 [(0, .ref q562), (1, .int v)] := hl
  refine lv_aload_n hx hb d_Cmd_put_0 rfl (lv_at hl 0 rfl) ?_
  refine lv_aload_n hx hb d_Cmd_put_1 rfl (lv_at hl 0 rfl) ?_
  refine va_get (D := D) (ci := 13) (v := .int 0) (C := R_Cmd) (T := F_Cmd) (N := 18) hx hb htw i_Cmd hown hC.1 hP 0 rfl rfl 5 (by decide) (htw _ k718) (fun _ h9 => h9) rfl d_Cmd_put_2 ?_
  refine lv_sipush (v := 4096) hx hb d_Cmd_put_5 (by decide) ?_
  refine lv_icmp_ne (tgt := 15) hx hb d_Cmd_put_8 (by decide) (fun c_669 => ?_) (fun c_669 => absurd c_669 (by decide))
  refine lv_iconst (v := 0) hx hb d_Cmd_put_15 (by decide) ?_
  refine wc_i (wr := [(z566, .inl (cI, 4096, .inl f))]) hC hP hD hS [0] [1] rfl rfl (by decide) (by decide) (va_runV (As := [.int 0]) (rest := []) ⟨hx, hb, hml, hown, htw⟩ (c_Cref_0 l D cI cL B _ q562 z565 z566 z567 z568 z569 0) (cwV 1 htw gV_Cmd_120 rfl rfl rfl (by decide +kernel) ⟨Nat.le_of_ble_eq_true rfl, Nat.le_of_ble_eq_true rfl⟩) (wC_preV (As := [.int 0]) hC hP hD hS [0] (by decide) rfl (q0 := 0) rfl rfl) rfl rfl hl.1 rfl (lv_room (Nat.le_of_ble_eq_true rfl)) d_Cmd_put_16 ⟨Nat.le_of_ble_eq_true rfl, Nat.le_of_ble_eq_true rfl⟩) (fun r672 u670 H locs hw671 hP hD hS => ?_)
  obtain rfl : r672 = 0 := hw671
  have hP : va_P D classes [(z566, .inl (cI, 4096, .inl f)), (q562, .inr (13, [.int 0, .ref z565, .int 1, .int 1, .ref z566, .int 0, .int 0, .int 0, .ref z567, .int 0, .int 0, .int (-1), .int (-1), .int 0, .int (-1), .int 0, .ref z568, .ref z569]))] H := hP
  have hD : va_D A [(z566, .inl (cI, 4096, .inl f)), (q562, .inr (13, [.int 0, .ref z565, .int 1, .int 1, .ref z566, .int 0, .int 0, .int 0, .ref z567, .int 0, .int 0, .int (-1), .int (-1), .int 0, .int (-1), .int 0, .ref z568, .ref z569]))] := hD
  refine W.widen (k := 0) (n := 0) (by omega) (by omega) ?_
  refine lv_if_eq (tgt := 24) hx hb d_Cmd_put_19 (by decide) (fun c_673 => ?_) (fun c_673 => absurd c_673 (by decide))
  refine lv_aload_n hx hb d_Cmd_put_24 rfl (lv_at hl 0 rfl) ?_
  refine va_get (D := D) (ci := 13) (v := .ref z566) (C := R_Cmd) (T := F_Cmd) (N := 18) hx hb htw i_Cmd hown hC.1 hP 1 rfl rfl 4 (by decide) (htw _ k557) (fun _ h9 => h9) rfl d_Cmd_put_25 ?_
  refine lv_aload_n hx hb d_Cmd_put_28 rfl (lv_at hl 0 rfl) ?_
  refine va_get (D := D) (ci := 13) (v := .int 0) (C := R_Cmd) (T := F_Cmd) (N := 18) hx hb htw i_Cmd hown hC.1 hP 1 rfl rfl 5 (by decide) (htw _ k718) (fun _ h9 => h9) rfl d_Cmd_put_29 ?_
  refine lv_iload_n hx hb d_Cmd_put_32 rfl (lv_at hl 1 rfl) ?_
  refine va_iast hx hb hC.1 hP hD hS 0 0 rfl rfl (by unfold vp_in; decide) d_Cmd_put_33 (fun H locs hP hD hS => ?_)
  have hP : va_P D classes [(z566, .inl (cI, 4096, .inl (upd f (0 : Int32).toNatClampNeg v))), (q562, .inr (13, [.int 0, .ref z565, .int 1, .int 1, .ref z566, .int 0, .int 0, .int 0, .ref z567, .int 0, .int 0, .int (-1), .int (-1), .int 0, .int (-1), .int 0, .ref z568, .ref z569]))] H := hP
  have hD : va_D A [(z566, .inl (cI, 4096, .inl (upd f (0 : Int32).toNatClampNeg v))), (q562, .inr (13, [.int 0, .ref z565, .int 1, .int 1, .ref z566, .int 0, .int 0, .int 0, .ref z567, .int 0, .int 0, .int (-1), .int (-1), .int 0, .int (-1), .int 0, .ref z568, .ref z569]))] := hD
  generalize upd f (0 : Int32).toNatClampNeg v = f674 at hP hD
  refine lv_aload_n hx hb d_Cmd_put_34 rfl (lv_at hl 0 rfl) ?_
  refine lv_dup hx hb d_Cmd_put_35 rfl ?_
  refine va_get (D := D) (ci := 13) (v := .int 0) (C := R_Cmd) (T := F_Cmd) (N := 18) hx hb htw i_Cmd hown hC.1 hP 1 rfl rfl 5 (by decide) (htw _ k718) (fun _ h9 => h9) rfl d_Cmd_put_36 ?_
  refine lv_iconst (v := 1) hx hb d_Cmd_put_39 (by decide) ?_
  refine lv_iadd hx hb d_Cmd_put_40 ?_
  refine wi_c (v := 1) (by decide) ?_
  refine va_put (D := D) (ci := 13) (v := .int 1) (ty := .int) (C := R_Cmd) (T := F_Cmd) (N := 18) hx hb htw i_Cmd t_Cmd t_Cmd_ok n_Cmd hown hC.1 hP hD hS 1 rfl rfl 5 (by decide) (htw _ k718) (fun _ h9 => h9) rfl (by decide +kernel) rfl rfl (Nat.le_of_ble_eq_true rfl) d_Cmd_put_41 (fun H locs hP hD hS => ?_)
  have hP : va_P D classes [(z566, .inl (cI, 4096, .inl f674)), (q562, .inr (13, [.int 0, .ref z565, .int 1, .int 1, .ref z566, .int 1, .int 0, .int 0, .ref z567, .int 0, .int 0, .int (-1), .int (-1), .int 0, .int (-1), .int 0, .ref z568, .ref z569]))] H := hP
  have hD : va_D A [(z566, .inl (cI, 4096, .inl f674)), (q562, .inr (13, [.int 0, .ref z565, .int 1, .int 1, .ref z566, .int 1, .int 0, .int 0, .ref z567, .int 0, .int 0, .int (-1), .int (-1), .int 0, .int (-1), .int 0, .ref z568, .ref z569]))] := hD
  refine lv_aload_n hx hb d_Cmd_put_44 rfl (lv_at hl 0 rfl) ?_
  refine va_get (D := D) (ci := 13) (v := .int 1) (C := R_Cmd) (T := F_Cmd) (N := 18) hx hb htw i_Cmd hown hC.1 hP 1 rfl rfl 5 (by decide) (htw _ k718) (fun _ h9 => h9) rfl d_Cmd_put_45 ?_
  refine W.widen (k := 0) (n := 0) (Nat.le_of_ble_eq_true rfl) (Nat.le_of_ble_eq_true rfl) ?_
  have hP9 := hP.sub (ws' := [(z566, .inl (cI, 4096, .inl f674)), (q562, .inr (13, [.int 0, .ref z565, .int 1, .int 1, .ref z566, .int 1, .int 0, .int 0, .ref z567, .int 0, .int 0, .int (-1), .int (-1), .int 0, .int (-1), .int 0, .ref z568, .ref z569]))]) [0, 1] rfl
  have hD9 := hD.sub (ws' := [(z566, .inl (cI, 4096, .inl f674)), (q562, .inr (13, [.int 0, .ref z565, .int 1, .int 1, .ref z566, .int 1, .int 0, .int 0, .ref z567, .int 0, .int 0, .int (-1), .int (-1), .int 0, .int (-1), .int 0, .ref z568, .ref z569]))]) [0, 1] (by decide) rfl
  exact W.iret (v := 1) hx hb hr (fun t ht hW => ⟨⟨1, f674, rfl, rfl, by rw [ht]; exact hP9, va_K.moved hW.alike hC.1, hD9⟩, hS.F ht⟩) hS.2.2 d_Cmd_put_48

set_option maxHeartbeats 4000000 in
set_option maxRecDepth 100000 in
theorem c_put_1 (l : Launch) (D : va_G) (cI cL : ClassId) (B sz : Nat) (q562 : Nat) (z565 : Nat) (z566 : Nat) (z567 : Nat) (z568 : Nat) (z569 : Nat) (f : Nat → Int32) (v : Int32) : Met l y_Cmd_put ((Cond.code y_Cmd_put prog_15_method_15_code 2 (some .int)) :: tw) ({ frames := 30, cells := 0, slots := 0, locals := 3000 }) (va_Pc [.ref q562, .int v] (wP D cI cL B sz [(q562, .inr (13, [.int 0, .ref z565, .int 1, .int 1, .ref z566, .int 1, .int 0, .int 0, .ref z567, .int 0, .int 0, .int (-1), .int (-1), .int 0, .int (-1), .int 0, .ref z568, .ref z569])), (z566, .inl (cI, 4096, .inl f))])) (va_Qi (S := Nat → Int32) (fun r u => r = 2) (fun u => wB D cI cL (va_A [(q562, .inr (13, [.int 0, .ref z565, .int 1, .int 1, .ref z566, .int 1, .int 0, .int 0, .ref z567, .int 0, .int 0, .int (-1), .int (-1), .int 0, .int (-1), .int 0, .ref z568, .ref z569])), (z566, .inl (cI, 4096, .inl f))] sz) ((fun f680 : Nat → Int32 => [(z566, .inl (cI, 4096, .inl f680)), (q562, .inr (13, [.int 0, .ref z565, .int 1, .int 1, .ref z566, .int 2, .int 0, .int 0, .ref z567, .int 0, .int 0, .int (-1), .int (-1), .int 0, .int (-1), .int 0, .ref z568, .ref z569]))]) u)) (va_A [(q562, .inr (13, [.int 0, .ref z565, .int 1, .int 1, .ref z566, .int 1, .int 0, .int 0, .ref z567, .int 0, .int 0, .int (-1), .int (-1), .int 0, .int (-1), .int 0, .ref z568, .ref z569])), (z566, .inl (cI, 4096, .inl f))] sz)) 0 0 (va_A [(q562, .inr (13, [.int 0, .ref z565, .int 1, .int 1, .ref z566, .int 1, .int 0, .int 0, .ref z567, .int 0, .int 0, .int (-1), .int (-1), .int 0, .int (-1), .int 0, .ref z568, .ref z569])), (z566, .inl (cI, 4096, .inl f))] sz) := by
  refine Met.ofW (cc := prog_15_method_15_code) (maxL := 2) (ret := (some .int)) (by decide) rfl ?_
  intro p e s m args below meth c s₁ B0 hml hv
  obtain ⟨rfl, hv⟩ := hv
  have hx := B0.exec
  have hb := B0.bytes
  have hr := B0.returns
  have hts := atoms_spec (ws := (Cond.code y_Cmd_put prog_15_method_15_code 2 (some .int)) :: tw) B0.pre
  have htw : ∀ w ∈ tw, w.before _ s = true := fun w hw => hts w (List.mem_cons_of_mem _ hw)
  have hown : s.vm.findClass "DrawingMachineModel$DrawCommandsModel" = some m.cls := findClass_of_methodNamed B0.named
  have hlocks := B0.notSynchronized
  obtain ⟨hC, hP, hD, hsz⟩ := wC_init hv
  subst hsz
  generalize hAe : va_A [(q562, .inr (13, [.int 0, .ref z565, .int 1, .int 1, .ref z566, .int 1, .int 0, .int 0, .ref z567, .int 0, .int 0, .int (-1), .int (-1), .int 0, .int (-1), .int 0, .ref z568, .ref z569])), (z566, .inl (cI, 4096, .inl f))] s.heap.size = A at hC hD ⊢
  have hS : va_S A s.heap s.heap [] := va_S.rf
  have hl := lv_entry ([.ref q562, .int v]) (n := 2) (Nat.le_of_ble_eq_true rfl)
  rw [lg_entry_eq]
  generalize (lg_sl ([.ref q562, .int v]) ++ List.replicate (2 - (lg_sl ([.ref q562, .int v])).length) Slot.unset).toArray = ls at hl ⊢
  have hl : lv_has ls 2 [(0, .ref q562), (1, .int v)] := hl
  refine lv_aload_n hx hb d_Cmd_put_0 rfl (lv_at hl 0 rfl) ?_
  refine lv_aload_n hx hb d_Cmd_put_1 rfl (lv_at hl 0 rfl) ?_
  refine va_get (D := D) (ci := 13) (v := .int 1) (C := R_Cmd) (T := F_Cmd) (N := 18) hx hb htw i_Cmd hown hC.1 hP 0 rfl rfl 5 (by decide) (htw _ k718) (fun _ h9 => h9) rfl d_Cmd_put_2 ?_
  refine lv_sipush (v := 4096) hx hb d_Cmd_put_5 (by decide) ?_
  refine lv_icmp_ne (tgt := 15) hx hb d_Cmd_put_8 (by decide) (fun c_675 => ?_) (fun c_675 => absurd c_675 (by decide))
  refine lv_iconst (v := 0) hx hb d_Cmd_put_15 (by decide) ?_
  refine wc_i (wr := [(z566, .inl (cI, 4096, .inl f))]) hC hP hD hS [0] [1] rfl rfl (by decide) (by decide) (va_runV (As := [.int 0]) (rest := []) ⟨hx, hb, hml, hown, htw⟩ (c_Cref_0 l D cI cL B _ q562 z565 z566 z567 z568 z569 1) (cwV 1 htw gV_Cmd_120 rfl rfl rfl (by decide +kernel) ⟨Nat.le_of_ble_eq_true rfl, Nat.le_of_ble_eq_true rfl⟩) (wC_preV (As := [.int 0]) hC hP hD hS [0] (by decide) rfl (q0 := 0) rfl rfl) rfl rfl hl.1 rfl (lv_room (Nat.le_of_ble_eq_true rfl)) d_Cmd_put_16 ⟨Nat.le_of_ble_eq_true rfl, Nat.le_of_ble_eq_true rfl⟩) (fun r678 u676 H locs hw677 hP hD hS => ?_)
  obtain rfl : r678 = 0 := hw677
  have hP : va_P D classes [(z566, .inl (cI, 4096, .inl f)), (q562, .inr (13, [.int 0, .ref z565, .int 1, .int 1, .ref z566, .int 1, .int 0, .int 0, .ref z567, .int 0, .int 0, .int (-1), .int (-1), .int 0, .int (-1), .int 0, .ref z568, .ref z569]))] H := hP
  have hD : va_D A [(z566, .inl (cI, 4096, .inl f)), (q562, .inr (13, [.int 0, .ref z565, .int 1, .int 1, .ref z566, .int 1, .int 0, .int 0, .ref z567, .int 0, .int 0, .int (-1), .int (-1), .int 0, .int (-1), .int 0, .ref z568, .ref z569]))] := hD
  refine W.widen (k := 0) (n := 0) (by omega) (by omega) ?_
  refine lv_if_eq (tgt := 24) hx hb d_Cmd_put_19 (by decide) (fun c_679 => ?_) (fun c_679 => absurd c_679 (by decide))
  refine lv_aload_n hx hb d_Cmd_put_24 rfl (lv_at hl 0 rfl) ?_
  refine va_get (D := D) (ci := 13) (v := .ref z566) (C := R_Cmd) (T := F_Cmd) (N := 18) hx hb htw i_Cmd hown hC.1 hP 1 rfl rfl 4 (by decide) (htw _ k557) (fun _ h9 => h9) rfl d_Cmd_put_25 ?_
  refine lv_aload_n hx hb d_Cmd_put_28 rfl (lv_at hl 0 rfl) ?_
  refine va_get (D := D) (ci := 13) (v := .int 1) (C := R_Cmd) (T := F_Cmd) (N := 18) hx hb htw i_Cmd hown hC.1 hP 1 rfl rfl 5 (by decide) (htw _ k718) (fun _ h9 => h9) rfl d_Cmd_put_29 ?_
  refine lv_iload_n hx hb d_Cmd_put_32 rfl (lv_at hl 1 rfl) ?_
  refine va_iast hx hb hC.1 hP hD hS 0 0 rfl rfl (by unfold vp_in; decide) d_Cmd_put_33 (fun H locs hP hD hS => ?_)
  have hP : va_P D classes [(z566, .inl (cI, 4096, .inl (upd f (1 : Int32).toNatClampNeg v))), (q562, .inr (13, [.int 0, .ref z565, .int 1, .int 1, .ref z566, .int 1, .int 0, .int 0, .ref z567, .int 0, .int 0, .int (-1), .int (-1), .int 0, .int (-1), .int 0, .ref z568, .ref z569]))] H := hP
  have hD : va_D A [(z566, .inl (cI, 4096, .inl (upd f (1 : Int32).toNatClampNeg v))), (q562, .inr (13, [.int 0, .ref z565, .int 1, .int 1, .ref z566, .int 1, .int 0, .int 0, .ref z567, .int 0, .int 0, .int (-1), .int (-1), .int 0, .int (-1), .int 0, .ref z568, .ref z569]))] := hD
  generalize upd f (1 : Int32).toNatClampNeg v = f680 at hP hD
  refine lv_aload_n hx hb d_Cmd_put_34 rfl (lv_at hl 0 rfl) ?_
  refine lv_dup hx hb d_Cmd_put_35 rfl ?_
  refine va_get (D := D) (ci := 13) (v := .int 1) (C := R_Cmd) (T := F_Cmd) (N := 18) hx hb htw i_Cmd hown hC.1 hP 1 rfl rfl 5 (by decide) (htw _ k718) (fun _ h9 => h9) rfl d_Cmd_put_36 ?_
  refine lv_iconst (v := 1) hx hb d_Cmd_put_39 (by decide) ?_
  refine lv_iadd hx hb d_Cmd_put_40 ?_
  refine wi_c (v := 2) (by decide) ?_
  refine va_put (D := D) (ci := 13) (v := .int 2) (ty := .int) (C := R_Cmd) (T := F_Cmd) (N := 18) hx hb htw i_Cmd t_Cmd t_Cmd_ok n_Cmd hown hC.1 hP hD hS 1 rfl rfl 5 (by decide) (htw _ k718) (fun _ h9 => h9) rfl (by decide +kernel) rfl rfl (Nat.le_of_ble_eq_true rfl) d_Cmd_put_41 (fun H locs hP hD hS => ?_)
  have hP : va_P D classes [(z566, .inl (cI, 4096, .inl f680)), (q562, .inr (13, [.int 0, .ref z565, .int 1, .int 1, .ref z566, .int 2, .int 0, .int 0, .ref z567, .int 0, .int 0, .int (-1), .int (-1), .int 0, .int (-1), .int 0, .ref z568, .ref z569]))] H := hP
  have hD : va_D A [(z566, .inl (cI, 4096, .inl f680)), (q562, .inr (13, [.int 0, .ref z565, .int 1, .int 1, .ref z566, .int 2, .int 0, .int 0, .ref z567, .int 0, .int 0, .int (-1), .int (-1), .int 0, .int (-1), .int 0, .ref z568, .ref z569]))] := hD
  refine lv_aload_n hx hb d_Cmd_put_44 rfl (lv_at hl 0 rfl) ?_
  refine va_get (D := D) (ci := 13) (v := .int 2) (C := R_Cmd) (T := F_Cmd) (N := 18) hx hb htw i_Cmd hown hC.1 hP 1 rfl rfl 5 (by decide) (htw _ k718) (fun _ h9 => h9) rfl d_Cmd_put_45 ?_
  refine W.widen (k := 0) (n := 0) (Nat.le_of_ble_eq_true rfl) (Nat.le_of_ble_eq_true rfl) ?_
  have hP9 := hP.sub (ws' := [(z566, .inl (cI, 4096, .inl f680)), (q562, .inr (13, [.int 0, .ref z565, .int 1, .int 1, .ref z566, .int 2, .int 0, .int 0, .ref z567, .int 0, .int 0, .int (-1), .int (-1), .int 0, .int (-1), .int 0, .ref z568, .ref z569]))]) [0, 1] rfl
  have hD9 := hD.sub (ws' := [(z566, .inl (cI, 4096, .inl f680)), (q562, .inr (13, [.int 0, .ref z565, .int 1, .int 1, .ref z566, .int 2, .int 0, .int 0, .ref z567, .int 0, .int 0, .int (-1), .int (-1), .int 0, .int (-1), .int 0, .ref z568, .ref z569]))]) [0, 1] (by decide) rfl
  exact W.iret (v := 2) hx hb hr (fun t ht hW => ⟨⟨2, f680, rfl, rfl, by rw [ht]; exact hP9, va_K.moved hW.alike hC.1, hD9⟩, hS.F ht⟩) hS.2.2 d_Cmd_put_48

set_option maxHeartbeats 4000000 in
set_option maxRecDepth 100000 in
theorem c_put_2 (l : Launch) (D : va_G) (cI cL : ClassId) (B sz : Nat) (q562 : Nat) (z565 : Nat) (z566 : Nat) (z567 : Nat) (z568 : Nat) (z569 : Nat) (f : Nat → Int32) (v : Int32) : Met l y_Cmd_put ((Cond.code y_Cmd_put prog_15_method_15_code 2 (some .int)) :: tw) ({ frames := 30, cells := 0, slots := 0, locals := 3000 }) (va_Pc [.ref q562, .int v] (wP D cI cL B sz [(q562, .inr (13, [.int 0, .ref z565, .int 1, .int 1, .ref z566, .int 2, .int 0, .int 0, .ref z567, .int 0, .int 0, .int (-1), .int (-1), .int 0, .int (-1), .int 0, .ref z568, .ref z569])), (z566, .inl (cI, 4096, .inl f))])) (va_Qi (S := Nat → Int32) (fun r u => r = 3) (fun u => wB D cI cL (va_A [(q562, .inr (13, [.int 0, .ref z565, .int 1, .int 1, .ref z566, .int 2, .int 0, .int 0, .ref z567, .int 0, .int 0, .int (-1), .int (-1), .int 0, .int (-1), .int 0, .ref z568, .ref z569])), (z566, .inl (cI, 4096, .inl f))] sz) ((fun f686 : Nat → Int32 => [(z566, .inl (cI, 4096, .inl f686)), (q562, .inr (13, [.int 0, .ref z565, .int 1, .int 1, .ref z566, .int 3, .int 0, .int 0, .ref z567, .int 0, .int 0, .int (-1), .int (-1), .int 0, .int (-1), .int 0, .ref z568, .ref z569]))]) u)) (va_A [(q562, .inr (13, [.int 0, .ref z565, .int 1, .int 1, .ref z566, .int 2, .int 0, .int 0, .ref z567, .int 0, .int 0, .int (-1), .int (-1), .int 0, .int (-1), .int 0, .ref z568, .ref z569])), (z566, .inl (cI, 4096, .inl f))] sz)) 0 0 (va_A [(q562, .inr (13, [.int 0, .ref z565, .int 1, .int 1, .ref z566, .int 2, .int 0, .int 0, .ref z567, .int 0, .int 0, .int (-1), .int (-1), .int 0, .int (-1), .int 0, .ref z568, .ref z569])), (z566, .inl (cI, 4096, .inl f))] sz) := by
  refine Met.ofW (cc := prog_15_method_15_code) (maxL := 2) (ret := (some .int)) (by decide) rfl ?_
  intro p e s m args below meth c s₁ B0 hml hv
  obtain ⟨rfl, hv⟩ := hv
  have hx := B0.exec
  have hb := B0.bytes
  have hr := B0.returns
  have hts := atoms_spec (ws := (Cond.code y_Cmd_put prog_15_method_15_code 2 (some .int)) :: tw) B0.pre
  have htw : ∀ w ∈ tw, w.before _ s = true := fun w hw => hts w (List.mem_cons_of_mem _ hw)
  have hown : s.vm.findClass "DrawingMachineModel$DrawCommandsModel" = some m.cls := findClass_of_methodNamed B0.named
  have hlocks := B0.notSynchronized
  obtain ⟨hC, hP, hD, hsz⟩ := wC_init hv
  subst hsz
  generalize hAe : va_A [(q562, .inr (13, [.int 0, .ref z565, .int 1, .int 1, .ref z566, .int 2, .int 0, .int 0, .ref z567, .int 0, .int 0, .int (-1), .int (-1), .int 0, .int (-1), .int 0, .ref z568, .ref z569])), (z566, .inl (cI, 4096, .inl f))] s.heap.size = A at hC hD ⊢
  have hS : va_S A s.heap s.heap [] := va_S.rf
  have hl := lv_entry ([.ref q562, .int v]) (n := 2) (Nat.le_of_ble_eq_true rfl)
  rw [lg_entry_eq]
  generalize (lg_sl ([.ref q562, .int v]) ++ List.replicate (2 - (lg_sl ([.ref q562, .int v])).length) Slot.unset).toArray = ls at hl ⊢
  have hl : lv_has ls 2 [(0, .ref q562), (1, .int v)] := hl
  refine lv_aload_n hx hb d_Cmd_put_0 rfl (lv_at hl 0 rfl) ?_
  refine lv_aload_n hx hb d_Cmd_put_1 rfl (lv_at hl 0 rfl) ?_
  refine va_get (D := D) (ci := 13) (v := .int 2) (C := R_Cmd) (T := F_Cmd) (N := 18) hx hb htw i_Cmd hown hC.1 hP 0 rfl rfl 5 (by decide) (htw _ k718) (fun _ h9 => h9) rfl d_Cmd_put_2 ?_
  refine lv_sipush (v := 4096) hx hb d_Cmd_put_5 (by decide) ?_
  refine lv_icmp_ne (tgt := 15) hx hb d_Cmd_put_8 (by decide) (fun c_681 => ?_) (fun c_681 => absurd c_681 (by decide))
  refine lv_iconst (v := 0) hx hb d_Cmd_put_15 (by decide) ?_
  refine wc_i (wr := [(z566, .inl (cI, 4096, .inl f))]) hC hP hD hS [0] [1] rfl rfl (by decide) (by decide) (va_runV (As := [.int 0]) (rest := []) ⟨hx, hb, hml, hown, htw⟩ (c_Cref_0 l D cI cL B _ q562 z565 z566 z567 z568 z569 2) (cwV 1 htw gV_Cmd_120 rfl rfl rfl (by decide +kernel) ⟨Nat.le_of_ble_eq_true rfl, Nat.le_of_ble_eq_true rfl⟩) (wC_preV (As := [.int 0]) hC hP hD hS [0] (by decide) rfl (q0 := 0) rfl rfl) rfl rfl hl.1 rfl (lv_room (Nat.le_of_ble_eq_true rfl)) d_Cmd_put_16 ⟨Nat.le_of_ble_eq_true rfl, Nat.le_of_ble_eq_true rfl⟩) (fun r684 u682 H locs hw683 hP hD hS => ?_)
  obtain rfl : r684 = 0 := hw683
  have hP : va_P D classes [(z566, .inl (cI, 4096, .inl f)), (q562, .inr (13, [.int 0, .ref z565, .int 1, .int 1, .ref z566, .int 2, .int 0, .int 0, .ref z567, .int 0, .int 0, .int (-1), .int (-1), .int 0, .int (-1), .int 0, .ref z568, .ref z569]))] H := hP
  have hD : va_D A [(z566, .inl (cI, 4096, .inl f)), (q562, .inr (13, [.int 0, .ref z565, .int 1, .int 1, .ref z566, .int 2, .int 0, .int 0, .ref z567, .int 0, .int 0, .int (-1), .int (-1), .int 0, .int (-1), .int 0, .ref z568, .ref z569]))] := hD
  refine W.widen (k := 0) (n := 0) (by omega) (by omega) ?_
  refine lv_if_eq (tgt := 24) hx hb d_Cmd_put_19 (by decide) (fun c_685 => ?_) (fun c_685 => absurd c_685 (by decide))
  refine lv_aload_n hx hb d_Cmd_put_24 rfl (lv_at hl 0 rfl) ?_
  refine va_get (D := D) (ci := 13) (v := .ref z566) (C := R_Cmd) (T := F_Cmd) (N := 18) hx hb htw i_Cmd hown hC.1 hP 1 rfl rfl 4 (by decide) (htw _ k557) (fun _ h9 => h9) rfl d_Cmd_put_25 ?_
  refine lv_aload_n hx hb d_Cmd_put_28 rfl (lv_at hl 0 rfl) ?_
  refine va_get (D := D) (ci := 13) (v := .int 2) (C := R_Cmd) (T := F_Cmd) (N := 18) hx hb htw i_Cmd hown hC.1 hP 1 rfl rfl 5 (by decide) (htw _ k718) (fun _ h9 => h9) rfl d_Cmd_put_29 ?_
  refine lv_iload_n hx hb d_Cmd_put_32 rfl (lv_at hl 1 rfl) ?_
  refine va_iast hx hb hC.1 hP hD hS 0 0 rfl rfl (by unfold vp_in; decide) d_Cmd_put_33 (fun H locs hP hD hS => ?_)
  have hP : va_P D classes [(z566, .inl (cI, 4096, .inl (upd f (2 : Int32).toNatClampNeg v))), (q562, .inr (13, [.int 0, .ref z565, .int 1, .int 1, .ref z566, .int 2, .int 0, .int 0, .ref z567, .int 0, .int 0, .int (-1), .int (-1), .int 0, .int (-1), .int 0, .ref z568, .ref z569]))] H := hP
  have hD : va_D A [(z566, .inl (cI, 4096, .inl (upd f (2 : Int32).toNatClampNeg v))), (q562, .inr (13, [.int 0, .ref z565, .int 1, .int 1, .ref z566, .int 2, .int 0, .int 0, .ref z567, .int 0, .int 0, .int (-1), .int (-1), .int 0, .int (-1), .int 0, .ref z568, .ref z569]))] := hD
  generalize upd f (2 : Int32).toNatClampNeg v = f686 at hP hD
  refine lv_aload_n hx hb d_Cmd_put_34 rfl (lv_at hl 0 rfl) ?_
  refine lv_dup hx hb d_Cmd_put_35 rfl ?_
  refine va_get (D := D) (ci := 13) (v := .int 2) (C := R_Cmd) (T := F_Cmd) (N := 18) hx hb htw i_Cmd hown hC.1 hP 1 rfl rfl 5 (by decide) (htw _ k718) (fun _ h9 => h9) rfl d_Cmd_put_36 ?_
  refine lv_iconst (v := 1) hx hb d_Cmd_put_39 (by decide) ?_
  refine lv_iadd hx hb d_Cmd_put_40 ?_
  refine wi_c (v := 3) (by decide) ?_
  refine va_put (D := D) (ci := 13) (v := .int 3) (ty := .int) (C := R_Cmd) (T := F_Cmd) (N := 18) hx hb htw i_Cmd t_Cmd t_Cmd_ok n_Cmd hown hC.1 hP hD hS 1 rfl rfl 5 (by decide) (htw _ k718) (fun _ h9 => h9) rfl (by decide +kernel) rfl rfl (Nat.le_of_ble_eq_true rfl) d_Cmd_put_41 (fun H locs hP hD hS => ?_)
  have hP : va_P D classes [(z566, .inl (cI, 4096, .inl f686)), (q562, .inr (13, [.int 0, .ref z565, .int 1, .int 1, .ref z566, .int 3, .int 0, .int 0, .ref z567, .int 0, .int 0, .int (-1), .int (-1), .int 0, .int (-1), .int 0, .ref z568, .ref z569]))] H := hP
  have hD : va_D A [(z566, .inl (cI, 4096, .inl f686)), (q562, .inr (13, [.int 0, .ref z565, .int 1, .int 1, .ref z566, .int 3, .int 0, .int 0, .ref z567, .int 0, .int 0, .int (-1), .int (-1), .int 0, .int (-1), .int 0, .ref z568, .ref z569]))] := hD
  refine lv_aload_n hx hb d_Cmd_put_44 rfl (lv_at hl 0 rfl) ?_
  refine va_get (D := D) (ci := 13) (v := .int 3) (C := R_Cmd) (T := F_Cmd) (N := 18) hx hb htw i_Cmd hown hC.1 hP 1 rfl rfl 5 (by decide) (htw _ k718) (fun _ h9 => h9) rfl d_Cmd_put_45 ?_
  refine W.widen (k := 0) (n := 0) (Nat.le_of_ble_eq_true rfl) (Nat.le_of_ble_eq_true rfl) ?_
  have hP9 := hP.sub (ws' := [(z566, .inl (cI, 4096, .inl f686)), (q562, .inr (13, [.int 0, .ref z565, .int 1, .int 1, .ref z566, .int 3, .int 0, .int 0, .ref z567, .int 0, .int 0, .int (-1), .int (-1), .int 0, .int (-1), .int 0, .ref z568, .ref z569]))]) [0, 1] rfl
  have hD9 := hD.sub (ws' := [(z566, .inl (cI, 4096, .inl f686)), (q562, .inr (13, [.int 0, .ref z565, .int 1, .int 1, .ref z566, .int 3, .int 0, .int 0, .ref z567, .int 0, .int 0, .int (-1), .int (-1), .int 0, .int (-1), .int 0, .ref z568, .ref z569]))]) [0, 1] (by decide) rfl
  exact W.iret (v := 3) hx hb hr (fun t ht hW => ⟨⟨3, f686, rfl, rfl, by rw [ht]; exact hP9, va_K.moved hW.alike hC.1, hD9⟩, hS.F ht⟩) hS.2.2 d_Cmd_put_48

set_option maxHeartbeats 4000000 in
set_option maxRecDepth 100000 in
theorem c_put_3 (l : Launch) (D : va_G) (cI cL : ClassId) (B sz : Nat) (q562 : Nat) (z565 : Nat) (z566 : Nat) (z567 : Nat) (z568 : Nat) (z569 : Nat) (f : Nat → Int32) (v : Int32) : Met l y_Cmd_put ((Cond.code y_Cmd_put prog_15_method_15_code 2 (some .int)) :: tw) ({ frames := 30, cells := 0, slots := 0, locals := 3000 }) (va_Pc [.ref q562, .int v] (wP D cI cL B sz [(q562, .inr (13, [.int 0, .ref z565, .int 1, .int 1, .ref z566, .int 3, .int 0, .int 0, .ref z567, .int 0, .int 0, .int (-1), .int (-1), .int 0, .int (-1), .int 0, .ref z568, .ref z569])), (z566, .inl (cI, 4096, .inl f))])) (va_Qi (S := Nat → Int32) (fun r u => r = 4) (fun u => wB D cI cL (va_A [(q562, .inr (13, [.int 0, .ref z565, .int 1, .int 1, .ref z566, .int 3, .int 0, .int 0, .ref z567, .int 0, .int 0, .int (-1), .int (-1), .int 0, .int (-1), .int 0, .ref z568, .ref z569])), (z566, .inl (cI, 4096, .inl f))] sz) ((fun f692 : Nat → Int32 => [(z566, .inl (cI, 4096, .inl f692)), (q562, .inr (13, [.int 0, .ref z565, .int 1, .int 1, .ref z566, .int 4, .int 0, .int 0, .ref z567, .int 0, .int 0, .int (-1), .int (-1), .int 0, .int (-1), .int 0, .ref z568, .ref z569]))]) u)) (va_A [(q562, .inr (13, [.int 0, .ref z565, .int 1, .int 1, .ref z566, .int 3, .int 0, .int 0, .ref z567, .int 0, .int 0, .int (-1), .int (-1), .int 0, .int (-1), .int 0, .ref z568, .ref z569])), (z566, .inl (cI, 4096, .inl f))] sz)) 0 0 (va_A [(q562, .inr (13, [.int 0, .ref z565, .int 1, .int 1, .ref z566, .int 3, .int 0, .int 0, .ref z567, .int 0, .int 0, .int (-1), .int (-1), .int 0, .int (-1), .int 0, .ref z568, .ref z569])), (z566, .inl (cI, 4096, .inl f))] sz) := by
  refine Met.ofW (cc := prog_15_method_15_code) (maxL := 2) (ret := (some .int)) (by decide) rfl ?_
  intro p e s m args below meth c s₁ B0 hml hv
  obtain ⟨rfl, hv⟩ := hv
  have hx := B0.exec
  have hb := B0.bytes
  have hr := B0.returns
  have hts := atoms_spec (ws := (Cond.code y_Cmd_put prog_15_method_15_code 2 (some .int)) :: tw) B0.pre
  have htw : ∀ w ∈ tw, w.before _ s = true := fun w hw => hts w (List.mem_cons_of_mem _ hw)
  have hown : s.vm.findClass "DrawingMachineModel$DrawCommandsModel" = some m.cls := findClass_of_methodNamed B0.named
  have hlocks := B0.notSynchronized
  obtain ⟨hC, hP, hD, hsz⟩ := wC_init hv
  subst hsz
  generalize hAe : va_A [(q562, .inr (13, [.int 0, .ref z565, .int 1, .int 1, .ref z566, .int 3, .int 0, .int 0, .ref z567, .int 0, .int 0, .int (-1), .int (-1), .int 0, .int (-1), .int 0, .ref z568, .ref z569])), (z566, .inl (cI, 4096, .inl f))] s.heap.size = A at hC hD ⊢
  have hS : va_S A s.heap s.heap [] := va_S.rf
  have hl := lv_entry ([.ref q562, .int v]) (n := 2) (Nat.le_of_ble_eq_true rfl)
  rw [lg_entry_eq]
  generalize (lg_sl ([.ref q562, .int v]) ++ List.replicate (2 - (lg_sl ([.ref q562, .int v])).length) Slot.unset).toArray = ls at hl ⊢
  have hl : lv_has ls 2 [(0, .ref q562), (1, .int v)] := hl
  refine lv_aload_n hx hb d_Cmd_put_0 rfl (lv_at hl 0 rfl) ?_
  refine lv_aload_n hx hb d_Cmd_put_1 rfl (lv_at hl 0 rfl) ?_
  refine va_get (D := D) (ci := 13) (v := .int 3) (C := R_Cmd) (T := F_Cmd) (N := 18) hx hb htw i_Cmd hown hC.1 hP 0 rfl rfl 5 (by decide) (htw _ k718) (fun _ h9 => h9) rfl d_Cmd_put_2 ?_
  refine lv_sipush (v := 4096) hx hb d_Cmd_put_5 (by decide) ?_
  refine lv_icmp_ne (tgt := 15) hx hb d_Cmd_put_8 (by decide) (fun c_687 => ?_) (fun c_687 => absurd c_687 (by decide))
  refine lv_iconst (v := 0) hx hb d_Cmd_put_15 (by decide) ?_
  refine wc_i (wr := [(z566, .inl (cI, 4096, .inl f))]) hC hP hD hS [0] [1] rfl rfl (by decide) (by decide) (va_runV (As := [.int 0]) (rest := []) ⟨hx, hb, hml, hown, htw⟩ (c_Cref_0 l D cI cL B _ q562 z565 z566 z567 z568 z569 3) (cwV 1 htw gV_Cmd_120 rfl rfl rfl (by decide +kernel) ⟨Nat.le_of_ble_eq_true rfl, Nat.le_of_ble_eq_true rfl⟩) (wC_preV (As := [.int 0]) hC hP hD hS [0] (by decide) rfl (q0 := 0) rfl rfl) rfl rfl hl.1 rfl (lv_room (Nat.le_of_ble_eq_true rfl)) d_Cmd_put_16 ⟨Nat.le_of_ble_eq_true rfl, Nat.le_of_ble_eq_true rfl⟩) (fun r690 u688 H locs hw689 hP hD hS => ?_)
  obtain rfl : r690 = 0 := hw689
  have hP : va_P D classes [(z566, .inl (cI, 4096, .inl f)), (q562, .inr (13, [.int 0, .ref z565, .int 1, .int 1, .ref z566, .int 3, .int 0, .int 0, .ref z567, .int 0, .int 0, .int (-1), .int (-1), .int 0, .int (-1), .int 0, .ref z568, .ref z569]))] H := hP
  have hD : va_D A [(z566, .inl (cI, 4096, .inl f)), (q562, .inr (13, [.int 0, .ref z565, .int 1, .int 1, .ref z566, .int 3, .int 0, .int 0, .ref z567, .int 0, .int 0, .int (-1), .int (-1), .int 0, .int (-1), .int 0, .ref z568, .ref z569]))] := hD
  refine W.widen (k := 0) (n := 0) (by omega) (by omega) ?_
  refine lv_if_eq (tgt := 24) hx hb d_Cmd_put_19 (by decide) (fun c_691 => ?_) (fun c_691 => absurd c_691 (by decide))
  refine lv_aload_n hx hb d_Cmd_put_24 rfl (lv_at hl 0 rfl) ?_
  refine va_get (D := D) (ci := 13) (v := .ref z566) (C := R_Cmd) (T := F_Cmd) (N := 18) hx hb htw i_Cmd hown hC.1 hP 1 rfl rfl 4 (by decide) (htw _ k557) (fun _ h9 => h9) rfl d_Cmd_put_25 ?_
  refine lv_aload_n hx hb d_Cmd_put_28 rfl (lv_at hl 0 rfl) ?_
  refine va_get (D := D) (ci := 13) (v := .int 3) (C := R_Cmd) (T := F_Cmd) (N := 18) hx hb htw i_Cmd hown hC.1 hP 1 rfl rfl 5 (by decide) (htw _ k718) (fun _ h9 => h9) rfl d_Cmd_put_29 ?_
  refine lv_iload_n hx hb d_Cmd_put_32 rfl (lv_at hl 1 rfl) ?_
  refine va_iast hx hb hC.1 hP hD hS 0 0 rfl rfl (by unfold vp_in; decide) d_Cmd_put_33 (fun H locs hP hD hS => ?_)
  have hP : va_P D classes [(z566, .inl (cI, 4096, .inl (upd f (3 : Int32).toNatClampNeg v))), (q562, .inr (13, [.int 0, .ref z565, .int 1, .int 1, .ref z566, .int 3, .int 0, .int 0, .ref z567, .int 0, .int 0, .int (-1), .int (-1), .int 0, .int (-1), .int 0, .ref z568, .ref z569]))] H := hP
  have hD : va_D A [(z566, .inl (cI, 4096, .inl (upd f (3 : Int32).toNatClampNeg v))), (q562, .inr (13, [.int 0, .ref z565, .int 1, .int 1, .ref z566, .int 3, .int 0, .int 0, .ref z567, .int 0, .int 0, .int (-1), .int (-1), .int 0, .int (-1), .int 0, .ref z568, .ref z569]))] := hD
  generalize upd f (3 : Int32).toNatClampNeg v = f692 at hP hD
  refine lv_aload_n hx hb d_Cmd_put_34 rfl (lv_at hl 0 rfl) ?_
  refine lv_dup hx hb d_Cmd_put_35 rfl ?_
  refine va_get (D := D) (ci := 13) (v := .int 3) (C := R_Cmd) (T := F_Cmd) (N := 18) hx hb htw i_Cmd hown hC.1 hP 1 rfl rfl 5 (by decide) (htw _ k718) (fun _ h9 => h9) rfl d_Cmd_put_36 ?_
  refine lv_iconst (v := 1) hx hb d_Cmd_put_39 (by decide) ?_
  refine lv_iadd hx hb d_Cmd_put_40 ?_
  refine wi_c (v := 4) (by decide) ?_
  refine va_put (D := D) (ci := 13) (v := .int 4) (ty := .int) (C := R_Cmd) (T := F_Cmd) (N := 18) hx hb htw i_Cmd t_Cmd t_Cmd_ok n_Cmd hown hC.1 hP hD hS 1 rfl rfl 5 (by decide) (htw _ k718) (fun _ h9 => h9) rfl (by decide +kernel) rfl rfl (Nat.le_of_ble_eq_true rfl) d_Cmd_put_41 (fun H locs hP hD hS => ?_)
  have hP : va_P D classes [(z566, .inl (cI, 4096, .inl f692)), (q562, .inr (13, [.int 0, .ref z565, .int 1, .int 1, .ref z566, .int 4, .int 0, .int 0, .ref z567, .int 0, .int 0, .int (-1), .int (-1), .int 0, .int (-1), .int 0, .ref z568, .ref z569]))] H := hP
  have hD : va_D A [(z566, .inl (cI, 4096, .inl f692)), (q562, .inr (13, [.int 0, .ref z565, .int 1, .int 1, .ref z566, .int 4, .int 0, .int 0, .ref z567, .int 0, .int 0, .int (-1), .int (-1), .int 0, .int (-1), .int 0, .ref z568, .ref z569]))] := hD
  refine lv_aload_n hx hb d_Cmd_put_44 rfl (lv_at hl 0 rfl) ?_
  refine va_get (D := D) (ci := 13) (v := .int 4) (C := R_Cmd) (T := F_Cmd) (N := 18) hx hb htw i_Cmd hown hC.1 hP 1 rfl rfl 5 (by decide) (htw _ k718) (fun _ h9 => h9) rfl d_Cmd_put_45 ?_
  refine W.widen (k := 0) (n := 0) (Nat.le_of_ble_eq_true rfl) (Nat.le_of_ble_eq_true rfl) ?_
  have hP9 := hP.sub (ws' := [(z566, .inl (cI, 4096, .inl f692)), (q562, .inr (13, [.int 0, .ref z565, .int 1, .int 1, .ref z566, .int 4, .int 0, .int 0, .ref z567, .int 0, .int 0, .int (-1), .int (-1), .int 0, .int (-1), .int 0, .ref z568, .ref z569]))]) [0, 1] rfl
  have hD9 := hD.sub (ws' := [(z566, .inl (cI, 4096, .inl f692)), (q562, .inr (13, [.int 0, .ref z565, .int 1, .int 1, .ref z566, .int 4, .int 0, .int 0, .ref z567, .int 0, .int 0, .int (-1), .int (-1), .int 0, .int (-1), .int 0, .ref z568, .ref z569]))]) [0, 1] (by decide) rfl
  exact W.iret (v := 4) hx hb hr (fun t ht hW => ⟨⟨4, f692, rfl, rfl, by rw [ht]; exact hP9, va_K.moved hW.alike hC.1, hD9⟩, hS.F ht⟩) hS.2.2 d_Cmd_put_48

set_option maxHeartbeats 4000000 in
set_option maxRecDepth 100000 in
theorem c_put_4 (l : Launch) (D : va_G) (cI cL : ClassId) (B sz : Nat) (q562 : Nat) (z565 : Nat) (z566 : Nat) (z567 : Nat) (z568 : Nat) (z569 : Nat) (f : Nat → Int32) (v : Int32) : Met l y_Cmd_put ((Cond.code y_Cmd_put prog_15_method_15_code 2 (some .int)) :: tw) ({ frames := 30, cells := 0, slots := 0, locals := 3000 }) (va_Pc [.ref q562, .int v] (wP D cI cL B sz [(q562, .inr (13, [.int 0, .ref z565, .int 1, .int 1, .ref z566, .int 4, .int 0, .int 0, .ref z567, .int 0, .int 0, .int (-1), .int (-1), .int 0, .int (-1), .int 0, .ref z568, .ref z569])), (z566, .inl (cI, 4096, .inl f))])) (va_Qi (S := Nat → Int32) (fun r u => r = 5) (fun u => wB D cI cL (va_A [(q562, .inr (13, [.int 0, .ref z565, .int 1, .int 1, .ref z566, .int 4, .int 0, .int 0, .ref z567, .int 0, .int 0, .int (-1), .int (-1), .int 0, .int (-1), .int 0, .ref z568, .ref z569])), (z566, .inl (cI, 4096, .inl f))] sz) ((fun f698 : Nat → Int32 => [(z566, .inl (cI, 4096, .inl f698)), (q562, .inr (13, [.int 0, .ref z565, .int 1, .int 1, .ref z566, .int 5, .int 0, .int 0, .ref z567, .int 0, .int 0, .int (-1), .int (-1), .int 0, .int (-1), .int 0, .ref z568, .ref z569]))]) u)) (va_A [(q562, .inr (13, [.int 0, .ref z565, .int 1, .int 1, .ref z566, .int 4, .int 0, .int 0, .ref z567, .int 0, .int 0, .int (-1), .int (-1), .int 0, .int (-1), .int 0, .ref z568, .ref z569])), (z566, .inl (cI, 4096, .inl f))] sz)) 0 0 (va_A [(q562, .inr (13, [.int 0, .ref z565, .int 1, .int 1, .ref z566, .int 4, .int 0, .int 0, .ref z567, .int 0, .int 0, .int (-1), .int (-1), .int 0, .int (-1), .int 0, .ref z568, .ref z569])), (z566, .inl (cI, 4096, .inl f))] sz) := by
  refine Met.ofW (cc := prog_15_method_15_code) (maxL := 2) (ret := (some .int)) (by decide) rfl ?_
  intro p e s m args below meth c s₁ B0 hml hv
  obtain ⟨rfl, hv⟩ := hv
  have hx := B0.exec
  have hb := B0.bytes
  have hr := B0.returns
  have hts := atoms_spec (ws := (Cond.code y_Cmd_put prog_15_method_15_code 2 (some .int)) :: tw) B0.pre
  have htw : ∀ w ∈ tw, w.before _ s = true := fun w hw => hts w (List.mem_cons_of_mem _ hw)
  have hown : s.vm.findClass "DrawingMachineModel$DrawCommandsModel" = some m.cls := findClass_of_methodNamed B0.named
  have hlocks := B0.notSynchronized
  obtain ⟨hC, hP, hD, hsz⟩ := wC_init hv
  subst hsz
  generalize hAe : va_A [(q562, .inr (13, [.int 0, .ref z565, .int 1, .int 1, .ref z566, .int 4, .int 0, .int 0, .ref z567, .int 0, .int 0, .int (-1), .int (-1), .int 0, .int (-1), .int 0, .ref z568, .ref z569])), (z566, .inl (cI, 4096, .inl f))] s.heap.size = A at hC hD ⊢
  have hS : va_S A s.heap s.heap [] := va_S.rf
  have hl := lv_entry ([.ref q562, .int v]) (n := 2) (Nat.le_of_ble_eq_true rfl)
  rw [lg_entry_eq]
  generalize (lg_sl ([.ref q562, .int v]) ++ List.replicate (2 - (lg_sl ([.ref q562, .int v])).length) Slot.unset).toArray = ls at hl ⊢
  have hl : lv_has ls 2 [(0, .ref q562), (1, .int v)] := hl
  refine lv_aload_n hx hb d_Cmd_put_0 rfl (lv_at hl 0 rfl) ?_
  refine lv_aload_n hx hb d_Cmd_put_1 rfl (lv_at hl 0 rfl) ?_
  refine va_get (D := D) (ci := 13) (v := .int 4) (C := R_Cmd) (T := F_Cmd) (N := 18) hx hb htw i_Cmd hown hC.1 hP 0 rfl rfl 5 (by decide) (htw _ k718) (fun _ h9 => h9) rfl d_Cmd_put_2 ?_
  refine lv_sipush (v := 4096) hx hb d_Cmd_put_5 (by decide) ?_
  refine lv_icmp_ne (tgt := 15) hx hb d_Cmd_put_8 (by decide) (fun c_693 => ?_) (fun c_693 => absurd c_693 (by decide))
  refine lv_iconst (v := 0) hx hb d_Cmd_put_15 (by decide) ?_
  refine wc_i (wr := [(z566, .inl (cI, 4096, .inl f))]) hC hP hD hS [0] [1] rfl rfl (by decide) (by decide) (va_runV (As := [.int 0]) (rest := []) ⟨hx, hb, hml, hown, htw⟩ (c_Cref_0 l D cI cL B _ q562 z565 z566 z567 z568 z569 4) (cwV 1 htw gV_Cmd_120 rfl rfl rfl (by decide +kernel) ⟨Nat.le_of_ble_eq_true rfl, Nat.le_of_ble_eq_true rfl⟩) (wC_preV (As := [.int 0]) hC hP hD hS [0] (by decide) rfl (q0 := 0) rfl rfl) rfl rfl hl.1 rfl (lv_room (Nat.le_of_ble_eq_true rfl)) d_Cmd_put_16 ⟨Nat.le_of_ble_eq_true rfl, Nat.le_of_ble_eq_true rfl⟩) (fun r696 u694 H locs hw695 hP hD hS => ?_)
  obtain rfl : r696 = 0 := hw695
  have hP : va_P D classes [(z566, .inl (cI, 4096, .inl f)), (q562, .inr (13, [.int 0, .ref z565, .int 1, .int 1, .ref z566, .int 4, .int 0, .int 0, .ref z567, .int 0, .int 0, .int (-1), .int (-1), .int 0, .int (-1), .int 0, .ref z568, .ref z569]))] H := hP
  have hD : va_D A [(z566, .inl (cI, 4096, .inl f)), (q562, .inr (13, [.int 0, .ref z565, .int 1, .int 1, .ref z566, .int 4, .int 0, .int 0, .ref z567, .int 0, .int 0, .int (-1), .int (-1), .int 0, .int (-1), .int 0, .ref z568, .ref z569]))] := hD
  refine W.widen (k := 0) (n := 0) (by omega) (by omega) ?_
  refine lv_if_eq (tgt := 24) hx hb d_Cmd_put_19 (by decide) (fun c_697 => ?_) (fun c_697 => absurd c_697 (by decide))
  refine lv_aload_n hx hb d_Cmd_put_24 rfl (lv_at hl 0 rfl) ?_
  refine va_get (D := D) (ci := 13) (v := .ref z566) (C := R_Cmd) (T := F_Cmd) (N := 18) hx hb htw i_Cmd hown hC.1 hP 1 rfl rfl 4 (by decide) (htw _ k557) (fun _ h9 => h9) rfl d_Cmd_put_25 ?_
  refine lv_aload_n hx hb d_Cmd_put_28 rfl (lv_at hl 0 rfl) ?_
  refine va_get (D := D) (ci := 13) (v := .int 4) (C := R_Cmd) (T := F_Cmd) (N := 18) hx hb htw i_Cmd hown hC.1 hP 1 rfl rfl 5 (by decide) (htw _ k718) (fun _ h9 => h9) rfl d_Cmd_put_29 ?_
  refine lv_iload_n hx hb d_Cmd_put_32 rfl (lv_at hl 1 rfl) ?_
  refine va_iast hx hb hC.1 hP hD hS 0 0 rfl rfl (by unfold vp_in; decide) d_Cmd_put_33 (fun H locs hP hD hS => ?_)
  have hP : va_P D classes [(z566, .inl (cI, 4096, .inl (upd f (4 : Int32).toNatClampNeg v))), (q562, .inr (13, [.int 0, .ref z565, .int 1, .int 1, .ref z566, .int 4, .int 0, .int 0, .ref z567, .int 0, .int 0, .int (-1), .int (-1), .int 0, .int (-1), .int 0, .ref z568, .ref z569]))] H := hP
  have hD : va_D A [(z566, .inl (cI, 4096, .inl (upd f (4 : Int32).toNatClampNeg v))), (q562, .inr (13, [.int 0, .ref z565, .int 1, .int 1, .ref z566, .int 4, .int 0, .int 0, .ref z567, .int 0, .int 0, .int (-1), .int (-1), .int 0, .int (-1), .int 0, .ref z568, .ref z569]))] := hD
  generalize upd f (4 : Int32).toNatClampNeg v = f698 at hP hD
  refine lv_aload_n hx hb d_Cmd_put_34 rfl (lv_at hl 0 rfl) ?_
  refine lv_dup hx hb d_Cmd_put_35 rfl ?_
  refine va_get (D := D) (ci := 13) (v := .int 4) (C := R_Cmd) (T := F_Cmd) (N := 18) hx hb htw i_Cmd hown hC.1 hP 1 rfl rfl 5 (by decide) (htw _ k718) (fun _ h9 => h9) rfl d_Cmd_put_36 ?_
  refine lv_iconst (v := 1) hx hb d_Cmd_put_39 (by decide) ?_
  refine lv_iadd hx hb d_Cmd_put_40 ?_
  refine wi_c (v := 5) (by decide) ?_
  refine va_put (D := D) (ci := 13) (v := .int 5) (ty := .int) (C := R_Cmd) (T := F_Cmd) (N := 18) hx hb htw i_Cmd t_Cmd t_Cmd_ok n_Cmd hown hC.1 hP hD hS 1 rfl rfl 5 (by decide) (htw _ k718) (fun _ h9 => h9) rfl (by decide +kernel) rfl rfl (Nat.le_of_ble_eq_true rfl) d_Cmd_put_41 (fun H locs hP hD hS => ?_)
  have hP : va_P D classes [(z566, .inl (cI, 4096, .inl f698)), (q562, .inr (13, [.int 0, .ref z565, .int 1, .int 1, .ref z566, .int 5, .int 0, .int 0, .ref z567, .int 0, .int 0, .int (-1), .int (-1), .int 0, .int (-1), .int 0, .ref z568, .ref z569]))] H := hP
  have hD : va_D A [(z566, .inl (cI, 4096, .inl f698)), (q562, .inr (13, [.int 0, .ref z565, .int 1, .int 1, .ref z566, .int 5, .int 0, .int 0, .ref z567, .int 0, .int 0, .int (-1), .int (-1), .int 0, .int (-1), .int 0, .ref z568, .ref z569]))] := hD
  refine lv_aload_n hx hb d_Cmd_put_44 rfl (lv_at hl 0 rfl) ?_
  refine va_get (D := D) (ci := 13) (v := .int 5) (C := R_Cmd) (T := F_Cmd) (N := 18) hx hb htw i_Cmd hown hC.1 hP 1 rfl rfl 5 (by decide) (htw _ k718) (fun _ h9 => h9) rfl d_Cmd_put_45 ?_
  refine W.widen (k := 0) (n := 0) (Nat.le_of_ble_eq_true rfl) (Nat.le_of_ble_eq_true rfl) ?_
  have hP9 := hP.sub (ws' := [(z566, .inl (cI, 4096, .inl f698)), (q562, .inr (13, [.int 0, .ref z565, .int 1, .int 1, .ref z566, .int 5, .int 0, .int 0, .ref z567, .int 0, .int 0, .int (-1), .int (-1), .int 0, .int (-1), .int 0, .ref z568, .ref z569]))]) [0, 1] rfl
  have hD9 := hD.sub (ws' := [(z566, .inl (cI, 4096, .inl f698)), (q562, .inr (13, [.int 0, .ref z565, .int 1, .int 1, .ref z566, .int 5, .int 0, .int 0, .ref z567, .int 0, .int 0, .int (-1), .int (-1), .int 0, .int (-1), .int 0, .ref z568, .ref z569]))]) [0, 1] (by decide) rfl
  exact W.iret (v := 5) hx hb hr (fun t ht hW => ⟨⟨5, f698, rfl, rfl, by rw [ht]; exact hP9, va_K.moved hW.alike hC.1, hD9⟩, hS.F ht⟩) hS.2.2 d_Cmd_put_48

theorem d_Mod_feed_0 : decode prog_14_method_8_code 0 = .ok (.aload_n 0, 1) := by decide +kernel
theorem d_Mod_feed_1 : decode prog_14_method_8_code 1 = .ok (.aload_n 0, 1) := by decide +kernel
theorem d_Mod_feed_2 : decode prog_14_method_8_code 2 = .ok (.getfield 19, 3) := by decide +kernel
theorem d_Mod_feed_5 : decode prog_14_method_8_code 5 = .ok (.getfield 111, 3) := by decide +kernel
theorem d_Mod_feed_8 : decode prog_14_method_8_code 8 = .ok (.sipush 4091, 3) := by decide +kernel
theorem d_Mod_feed_11 : decode prog_14_method_8_code 11 = .ok (.if_icmp .le 7, 3) := by decide +kernel
theorem d_Mod_feed_18 : decode prog_14_method_8_code 18 = .ok (.iconst 0, 1) := by decide +kernel
theorem d_Mod_feed_19 : decode prog_14_method_8_code 19 = .ok (.iconst 0, 1) := by decide +kernel
theorem d_Mod_feed_20 : decode prog_14_method_8_code 20 = .ok (.invokevirtual 94, 3) := by decide +kernel
theorem d_Mod_feed_23 : decode prog_14_method_8_code 23 = .ok (.ifCond .eq 5, 3) := by decide +kernel
theorem d_Mod_feed_28 : decode prog_14_method_8_code 28 = .ok (.aload_n 0, 1) := by decide +kernel
theorem d_Mod_feed_29 : decode prog_14_method_8_code 29 = .ok (.getfield 19, 3) := by decide +kernel
theorem d_Mod_feed_32 : decode prog_14_method_8_code 32 = .ok (.iload_n 1, 1) := by decide +kernel
theorem d_Mod_feed_33 : decode prog_14_method_8_code 33 = .ok (.invokevirtual 114, 3) := by decide +kernel
theorem d_Mod_feed_36 : decode prog_14_method_8_code 36 = .ok (.pop, 1) := by decide +kernel
theorem d_Mod_feed_37 : decode prog_14_method_8_code 37 = .ok (.aload_n 0, 1) := by decide +kernel
theorem d_Mod_feed_38 : decode prog_14_method_8_code 38 = .ok (.getfield 19, 3) := by decide +kernel
theorem d_Mod_feed_41 : decode prog_14_method_8_code 41 = .ok (.iload_n 2, 1) := by decide +kernel
theorem d_Mod_feed_42 : decode prog_14_method_8_code 42 = .ok (.invokevirtual 114, 3) := by decide +kernel
theorem d_Mod_feed_45 : decode prog_14_method_8_code 45 = .ok (.pop, 1) := by decide +kernel
theorem d_Mod_feed_46 : decode prog_14_method_8_code 46 = .ok (.aload_n 0, 1) := by decide +kernel
theorem d_Mod_feed_47 : decode prog_14_method_8_code 47 = .ok (.getfield 19, 3) := by decide +kernel
theorem d_Mod_feed_50 : decode prog_14_method_8_code 50 = .ok (.iload_n 3, 1) := by decide +kernel
theorem d_Mod_feed_51 : decode prog_14_method_8_code 51 = .ok (.invokevirtual 114, 3) := by decide +kernel
theorem d_Mod_feed_54 : decode prog_14_method_8_code 54 = .ok (.pop, 1) := by decide +kernel
theorem d_Mod_feed_55 : decode prog_14_method_8_code 55 = .ok (.aload_n 0, 1) := by decide +kernel
theorem d_Mod_feed_56 : decode prog_14_method_8_code 56 = .ok (.getfield 19, 3) := by decide +kernel
theorem d_Mod_feed_59 : decode prog_14_method_8_code 59 = .ok (.iload 4, 2) := by decide +kernel
theorem d_Mod_feed_61 : decode prog_14_method_8_code 61 = .ok (.invokevirtual 114, 3) := by decide +kernel
theorem d_Mod_feed_64 : decode prog_14_method_8_code 64 = .ok (.pop, 1) := by decide +kernel
theorem d_Mod_feed_65 : decode prog_14_method_8_code 65 = .ok (.aload_n 0, 1) := by decide +kernel
theorem d_Mod_feed_66 : decode prog_14_method_8_code 66 = .ok (.getfield 19, 3) := by decide +kernel
theorem d_Mod_feed_69 : decode prog_14_method_8_code 69 = .ok (.iload 5, 2) := by decide +kernel
theorem d_Mod_feed_71 : decode prog_14_method_8_code 71 = .ok (.invokevirtual 114, 3) := by decide +kernel
theorem d_Mod_feed_74 : decode prog_14_method_8_code 74 = .ok (.ireturn, 1) := by decide +kernel
theorem gV_Mod_114 : GoodIn tw (wsV "DrawingMachineModel" 114 "DrawingMachineModel$DrawCommandsModel" y_Cmd_put ((Cond.code y_Cmd_put prog_15_method_15_code 2 (some .int)) :: tw)) := tw_pre (fun _ h => h) (tw_good (fun _ h => h) k654) (List.forall_mem_cons.mpr ⟨k651, List.forall_mem_cons.mpr ⟨k652, List.forall_mem_cons.mpr ⟨k653, List.forall_mem_cons.mpr ⟨k137, fun _ h => absurd h List.not_mem_nil⟩⟩⟩⟩)
set_option maxHeartbeats 4000000 in
set_option maxRecDepth 100000 in
theorem c_Mfeed_g (l : Launch) (D : va_G) (cI cL : ClassId) (B sz : Nat) (h0 : Nat) (q562 : Nat) (z565 : Nat) (z566 : Nat) (z567 : Nat) (z568 : Nat) (z569 : Nat) (q571 : Nat) (q574 : Nat) (q577 : Nat) (q580 : Nat) (q583 : Nat) (q586 : Nat) (q599 : Nat) (q600 : Nat) (q601 : Nat) (q602 : Nat) (a1 : Int32) (a2 : Int32) (a3 : Int32) (a4 : Int32) (a5 : Int32) : Met l y_Mod_feed ((Cond.code y_Mod_feed prog_14_method_8_code 6 (some .int)) :: tw) ({ frames := 50, cells := 0, slots := 0, locals := 5000 }) (va_Pc [.ref h0, .int a1, .int a2, .int a3, .int a4, .int a5] (wP D cI cL B sz [(h0, .inr (12, [.int 0, .int 1, .int 1, .ref q562, .ref q571, .ref q574, .ref q577, .ref q580, .ref q583, .ref q586, .int 0, .int (-1), .int 0, .int 0, .long 0, .ref q599, .ref q600, .ref q601, .ref q602])), (q562, .inr (13, [.int 0, .ref z565, .int 1, .int 1, .ref z566, .int 0, .int 0, .int 0, .ref z567, .int 0, .int 0, .int (-1), .int (-1), .int 0, .int (-1), .int 0, .ref z568, .ref z569])), (z566, .inl (cI, 4096, .inl (fun _ => 0)))])) (va_Qi (S := Unit) (fun r u => r = 5) (fun u => wB D cI cL (va_A [(h0, .inr (12, [.int 0, .int 1, .int 1, .ref q562, .ref q571, .ref q574, .ref q577, .ref q580, .ref q583, .ref q586, .int 0, .int (-1), .int 0, .int 0, .long 0, .ref q599, .ref q600, .ref q601, .ref q602])), (q562, .inr (13, [.int 0, .ref z565, .int 1, .int 1, .ref z566, .int 0, .int 0, .int 0, .ref z567, .int 0, .int 0, .int (-1), .int (-1), .int 0, .int (-1), .int 0, .ref z568, .ref z569])), (z566, .inl (cI, 4096, .inl (fun _ => 0)))] sz) ((fun _ : Unit => [(h0, .inr (12, [.int 0, .int 1, .int 1, .ref q562, .ref q571, .ref q574, .ref q577, .ref q580, .ref q583, .ref q586, .int 0, .int (-1), .int 0, .int 0, .long 0, .ref q599, .ref q600, .ref q601, .ref q602]))]) u)) (va_A [(h0, .inr (12, [.int 0, .int 1, .int 1, .ref q562, .ref q571, .ref q574, .ref q577, .ref q580, .ref q583, .ref q586, .int 0, .int (-1), .int 0, .int 0, .long 0, .ref q599, .ref q600, .ref q601, .ref q602])), (q562, .inr (13, [.int 0, .ref z565, .int 1, .int 1, .ref z566, .int 0, .int 0, .int 0, .ref z567, .int 0, .int 0, .int (-1), .int (-1), .int 0, .int (-1), .int 0, .ref z568, .ref z569])), (z566, .inl (cI, 4096, .inl (fun _ => 0)))] sz)) 0 0 (va_A [(h0, .inr (12, [.int 0, .int 1, .int 1, .ref q562, .ref q571, .ref q574, .ref q577, .ref q580, .ref q583, .ref q586, .int 0, .int (-1), .int 0, .int 0, .long 0, .ref q599, .ref q600, .ref q601, .ref q602])), (q562, .inr (13, [.int 0, .ref z565, .int 1, .int 1, .ref z566, .int 0, .int 0, .int 0, .ref z567, .int 0, .int 0, .int (-1), .int (-1), .int 0, .int (-1), .int 0, .ref z568, .ref z569])), (z566, .inl (cI, 4096, .inl (fun _ => 0)))] sz) := by
  refine Met.ofW (cc := prog_14_method_8_code) (maxL := 6) (ret := (some .int)) (by decide) rfl ?_
  intro p e s m args below meth c s₁ B0 hml hv
  obtain ⟨rfl, hv⟩ := hv
  have hx := B0.exec
  have hb := B0.bytes
  have hr := B0.returns
  have hts := atoms_spec (ws := (Cond.code y_Mod_feed prog_14_method_8_code 6 (some .int)) :: tw) B0.pre
  have htw : ∀ w ∈ tw, w.before _ s = true := fun w hw => hts w (List.mem_cons_of_mem _ hw)
  have hown : s.vm.findClass "DrawingMachineModel" = some m.cls := findClass_of_methodNamed B0.named
  have hlocks := B0.notSynchronized
  obtain ⟨hC, hP, hD, hsz⟩ := wC_init hv
  subst hsz
  generalize hAe : va_A [(h0, .inr (12, [.int 0, .int 1, .int 1, .ref q562, .ref q571, .ref q574, .ref q577, .ref q580, .ref q583, .ref q586, .int 0, .int (-1), .int 0, .int 0, .long 0, .ref q599, .ref q600, .ref q601, .ref q602])), (q562, .inr (13, [.int 0, .ref z565, .int 1, .int 1, .ref z566, .int 0, .int 0, .int 0, .ref z567, .int 0, .int 0, .int (-1), .int (-1), .int 0, .int (-1), .int 0, .ref z568, .ref z569])), (z566, .inl (cI, 4096, .inl (fun _ => 0)))] s.heap.size = A at hC hD ⊢
  have hS : va_S A s.heap s.heap [] := va_S.rf
  have hl := lv_entry ([.ref h0, .int a1, .int a2, .int a3, .int a4, .int a5]) (n := 6) (Nat.le_of_ble_eq_true rfl)
  rw [lg_entry_eq]
  generalize (lg_sl ([.ref h0, .int a1, .int a2, .int a3, .int a4, .int a5]) ++ List.replicate (6 - (lg_sl ([.ref h0, .int a1, .int a2, .int a3, .int a4, .int a5])).length) Slot.unset).toArray = ls at hl ⊢
  have hl : lv_has ls 6 [(0, .ref h0), (1, .int a1), (2, .int a2), (3, .int a3), (4, .int a4), (5, .int a5)] := hl
  refine lv_aload_n hx hb d_Mod_feed_0 rfl (lv_at hl 0 rfl) ?_
  refine lv_aload_n hx hb d_Mod_feed_1 rfl (lv_at hl 0 rfl) ?_
  refine va_get (D := D) (ci := 12) (v := .ref q562) (C := R_Mod) (T := F_Mod) (N := 19) hx hb htw i_Mod hown hC.1 hP 0 rfl rfl 3 (by decide) (htw _ k521) (fun _ h9 => h9) rfl d_Mod_feed_2 ?_
  refine va_getN (D := D) (ci := 13) (v := .int 0) (C := R_Cmd) (T := F_Cmd) (N := 18) hx hb htw i_Cmd hown hC.1 hP 1 rfl rfl 5 (by decide) (va_Nw.use rfl (hC.2.1.1 _ kn8)) (fun _ h9 => h9) rfl d_Mod_feed_5 ?_
  refine lv_sipush (v := 4091) hx hb d_Mod_feed_8 (by decide) ?_
  refine lv_icmp_le (tgt := 18) hx hb d_Mod_feed_11 (by decide) (fun c_699 => ?_) (fun c_699 => absurd c_699 (by decide))
  refine lv_iconst (v := 0) hx hb d_Mod_feed_18 (by decide) ?_
  refine lv_iconst (v := 0) hx hb d_Mod_feed_19 (by decide) ?_
  refine wc_i (wr := [(q562, .inr (13, [.int 0, .ref z565, .int 1, .int 1, .ref z566, .int 0, .int 0, .int 0, .ref z567, .int 0, .int 0, .int (-1), .int (-1), .int 0, .int (-1), .int 0, .ref z568, .ref z569])), (z566, .inl (cI, 4096, .inl (fun _ => 0)))]) hC hP hD hS [0] [1, 2] rfl rfl (by decide) (by decide) (va_runV (As := [.int 0, .int 0]) (rest := []) ⟨hx, hb, hml, hown, htw⟩ (c_Mref_00 l D cI cL B _ h0 q562 q571 q574 q577 q580 q583 q586 q599 q600 q601 q602) (cwV 2 htw gV_Mod_94 rfl rfl rfl (by decide +kernel) ⟨Nat.le_of_ble_eq_true rfl, Nat.le_of_ble_eq_true rfl⟩) (wC_preV (As := [.int 0, .int 0]) hC hP hD hS [0] (by decide) rfl (q0 := 0) rfl rfl) rfl rfl hl.1 rfl (lv_room (Nat.le_of_ble_eq_true rfl)) d_Mod_feed_20 ⟨Nat.le_of_ble_eq_true rfl, Nat.le_of_ble_eq_true rfl⟩) (fun r702 u700 H locs hw701 hP hD hS => ?_)
  obtain rfl : r702 = 0 := hw701
  have hP : va_P D classes [(q562, .inr (13, [.int 0, .ref z565, .int 1, .int 1, .ref z566, .int 0, .int 0, .int 0, .ref z567, .int 0, .int 0, .int (-1), .int (-1), .int 0, .int (-1), .int 0, .ref z568, .ref z569])), (z566, .inl (cI, 4096, .inl (fun _ => 0))), (h0, .inr (12, [.int 0, .int 1, .int 1, .ref q562, .ref q571, .ref q574, .ref q577, .ref q580, .ref q583, .ref q586, .int 0, .int (-1), .int 0, .int 0, .long 0, .ref q599, .ref q600, .ref q601, .ref q602]))] H := hP
  have hD : va_D A [(q562, .inr (13, [.int 0, .ref z565, .int 1, .int 1, .ref z566, .int 0, .int 0, .int 0, .ref z567, .int 0, .int 0, .int (-1), .int (-1), .int 0, .int (-1), .int 0, .ref z568, .ref z569])), (z566, .inl (cI, 4096, .inl (fun _ => 0))), (h0, .inr (12, [.int 0, .int 1, .int 1, .ref q562, .ref q571, .ref q574, .ref q577, .ref q580, .ref q583, .ref q586, .int 0, .int (-1), .int 0, .int 0, .long 0, .ref q599, .ref q600, .ref q601, .ref q602]))] := hD
  refine W.widen (k := 0) (n := 0) (by omega) (by omega) ?_
  refine lv_if_eq (tgt := 28) hx hb d_Mod_feed_23 (by decide) (fun c_703 => ?_) (fun c_703 => absurd c_703 (by decide))
  refine lv_aload_n hx hb d_Mod_feed_28 rfl (lv_at hl 0 rfl) ?_
  refine va_get (D := D) (ci := 12) (v := .ref q562) (C := R_Mod) (T := F_Mod) (N := 19) hx hb htw i_Mod hown hC.1 hP 2 rfl rfl 3 (by decide) (htw _ k521) (fun _ h9 => h9) rfl d_Mod_feed_29 ?_
  refine lv_iload_n hx hb d_Mod_feed_32 rfl (lv_at hl 1 rfl) ?_
  refine wc_i (wr := [(h0, .inr (12, [.int 0, .int 1, .int 1, .ref q562, .ref q571, .ref q574, .ref q577, .ref q580, .ref q583, .ref q586, .int 0, .int (-1), .int 0, .int 0, .long 0, .ref q599, .ref q600, .ref q601, .ref q602]))]) hC hP hD hS [0, 1] [2] rfl rfl (by decide) (by decide) (va_runV (As := [.int a1]) (rest := []) ⟨hx, hb, hml, hown, htw⟩ (c_put_0 l D cI cL B _ q562 z565 z566 z567 z568 z569 (fun _ => 0) a1) (cwV 1 htw gV_Mod_114 rfl rfl rfl (by decide +kernel) ⟨Nat.le_of_ble_eq_true rfl, Nat.le_of_ble_eq_true rfl⟩) (wC_preV (As := [.int a1]) hC hP hD hS [0, 1] (by decide) rfl (q0 := 0) rfl rfl) rfl rfl hl.1 rfl (lv_room (Nat.le_of_ble_eq_true rfl)) d_Mod_feed_33 ⟨Nat.le_of_ble_eq_true rfl, Nat.le_of_ble_eq_true rfl⟩) (fun r706 u704 H locs hw705 hP hD hS => ?_)
  obtain ⟨z707, rfl⟩ : ∃ z, z = u704 := ⟨_, rfl⟩
  obtain rfl : r706 = 1 := hw705
  have hP : va_P D classes [(h0, .inr (12, [.int 0, .int 1, .int 1, .ref q562, .ref q571, .ref q574, .ref q577, .ref q580, .ref q583, .ref q586, .int 0, .int (-1), .int 0, .int 0, .long 0, .ref q599, .ref q600, .ref q601, .ref q602])), (z566, .inl (cI, 4096, .inl z707)), (q562, .inr (13, [.int 0, .ref z565, .int 1, .int 1, .ref z566, .int 1, .int 0, .int 0, .ref z567, .int 0, .int 0, .int (-1), .int (-1), .int 0, .int (-1), .int 0, .ref z568, .ref z569]))] H := hP
  have hD : va_D A [(h0, .inr (12, [.int 0, .int 1, .int 1, .ref q562, .ref q571, .ref q574, .ref q577, .ref q580, .ref q583, .ref q586, .int 0, .int (-1), .int 0, .int 0, .long 0, .ref q599, .ref q600, .ref q601, .ref q602])), (z566, .inl (cI, 4096, .inl z707)), (q562, .inr (13, [.int 0, .ref z565, .int 1, .int 1, .ref z566, .int 1, .int 0, .int 0, .ref z567, .int 0, .int 0, .int (-1), .int (-1), .int 0, .int (-1), .int 0, .ref z568, .ref z569]))] := hD
  refine W.widen (k := 0) (n := 0) (by omega) (by omega) ?_
  refine lv_pop hx hb d_Mod_feed_36 rfl ?_
  refine lv_aload_n hx hb d_Mod_feed_37 rfl (lv_at hl 0 rfl) ?_
  refine va_get (D := D) (ci := 12) (v := .ref q562) (C := R_Mod) (T := F_Mod) (N := 19) hx hb htw i_Mod hown hC.1 hP 0 rfl rfl 3 (by decide) (htw _ k521) (fun _ h9 => h9) rfl d_Mod_feed_38 ?_
  refine lv_iload_n hx hb d_Mod_feed_41 rfl (lv_at hl 2 rfl) ?_
  refine wc_i (wr := [(h0, .inr (12, [.int 0, .int 1, .int 1, .ref q562, .ref q571, .ref q574, .ref q577, .ref q580, .ref q583, .ref q586, .int 0, .int (-1), .int 0, .int 0, .long 0, .ref q599, .ref q600, .ref q601, .ref q602]))]) hC hP hD hS [2, 1] [0] rfl rfl (by decide) (by decide) (va_runV (As := [.int a2]) (rest := []) ⟨hx, hb, hml, hown, htw⟩ (c_put_1 l D cI cL B _ q562 z565 z566 z567 z568 z569 z707 a2) (cwV 1 htw gV_Mod_114 rfl rfl rfl (by decide +kernel) ⟨Nat.le_of_ble_eq_true rfl, Nat.le_of_ble_eq_true rfl⟩) (wC_preV (As := [.int a2]) hC hP hD hS [2, 1] (by decide) rfl (q0 := 2) rfl rfl) rfl rfl hl.1 rfl (lv_room (Nat.le_of_ble_eq_true rfl)) d_Mod_feed_42 ⟨Nat.le_of_ble_eq_true rfl, Nat.le_of_ble_eq_true rfl⟩) (fun r710 u708 H locs hw709 hP hD hS => ?_)
  obtain ⟨z711, rfl⟩ : ∃ z, z = u708 := ⟨_, rfl⟩
  obtain rfl : r710 = 2 := hw709
  have hP : va_P D classes [(h0, .inr (12, [.int 0, .int 1, .int 1, .ref q562, .ref q571, .ref q574, .ref q577, .ref q580, .ref q583, .ref q586, .int 0, .int (-1), .int 0, .int 0, .long 0, .ref q599, .ref q600, .ref q601, .ref q602])), (z566, .inl (cI, 4096, .inl z711)), (q562, .inr (13, [.int 0, .ref z565, .int 1, .int 1, .ref z566, .int 2, .int 0, .int 0, .ref z567, .int 0, .int 0, .int (-1), .int (-1), .int 0, .int (-1), .int 0, .ref z568, .ref z569]))] H := hP
  have hD : va_D A [(h0, .inr (12, [.int 0, .int 1, .int 1, .ref q562, .ref q571, .ref q574, .ref q577, .ref q580, .ref q583, .ref q586, .int 0, .int (-1), .int 0, .int 0, .long 0, .ref q599, .ref q600, .ref q601, .ref q602])), (z566, .inl (cI, 4096, .inl z711)), (q562, .inr (13, [.int 0, .ref z565, .int 1, .int 1, .ref z566, .int 2, .int 0, .int 0, .ref z567, .int 0, .int 0, .int (-1), .int (-1), .int 0, .int (-1), .int 0, .ref z568, .ref z569]))] := hD
  refine W.widen (k := 0) (n := 0) (by omega) (by omega) ?_
  refine lv_pop hx hb d_Mod_feed_45 rfl ?_
  refine lv_aload_n hx hb d_Mod_feed_46 rfl (lv_at hl 0 rfl) ?_
  refine va_get (D := D) (ci := 12) (v := .ref q562) (C := R_Mod) (T := F_Mod) (N := 19) hx hb htw i_Mod hown hC.1 hP 0 rfl rfl 3 (by decide) (htw _ k521) (fun _ h9 => h9) rfl d_Mod_feed_47 ?_
  refine lv_iload_n hx hb d_Mod_feed_50 rfl (lv_at hl 3 rfl) ?_
  refine wc_i (wr := [(h0, .inr (12, [.int 0, .int 1, .int 1, .ref q562, .ref q571, .ref q574, .ref q577, .ref q580, .ref q583, .ref q586, .int 0, .int (-1), .int 0, .int 0, .long 0, .ref q599, .ref q600, .ref q601, .ref q602]))]) hC hP hD hS [2, 1] [0] rfl rfl (by decide) (by decide) (va_runV (As := [.int a3]) (rest := []) ⟨hx, hb, hml, hown, htw⟩ (c_put_2 l D cI cL B _ q562 z565 z566 z567 z568 z569 z711 a3) (cwV 1 htw gV_Mod_114 rfl rfl rfl (by decide +kernel) ⟨Nat.le_of_ble_eq_true rfl, Nat.le_of_ble_eq_true rfl⟩) (wC_preV (As := [.int a3]) hC hP hD hS [2, 1] (by decide) rfl (q0 := 2) rfl rfl) rfl rfl hl.1 rfl (lv_room (Nat.le_of_ble_eq_true rfl)) d_Mod_feed_51 ⟨Nat.le_of_ble_eq_true rfl, Nat.le_of_ble_eq_true rfl⟩) (fun r714 u712 H locs hw713 hP hD hS => ?_)
  obtain ⟨z715, rfl⟩ : ∃ z, z = u712 := ⟨_, rfl⟩
  obtain rfl : r714 = 3 := hw713
  have hP : va_P D classes [(h0, .inr (12, [.int 0, .int 1, .int 1, .ref q562, .ref q571, .ref q574, .ref q577, .ref q580, .ref q583, .ref q586, .int 0, .int (-1), .int 0, .int 0, .long 0, .ref q599, .ref q600, .ref q601, .ref q602])), (z566, .inl (cI, 4096, .inl z715)), (q562, .inr (13, [.int 0, .ref z565, .int 1, .int 1, .ref z566, .int 3, .int 0, .int 0, .ref z567, .int 0, .int 0, .int (-1), .int (-1), .int 0, .int (-1), .int 0, .ref z568, .ref z569]))] H := hP
  have hD : va_D A [(h0, .inr (12, [.int 0, .int 1, .int 1, .ref q562, .ref q571, .ref q574, .ref q577, .ref q580, .ref q583, .ref q586, .int 0, .int (-1), .int 0, .int 0, .long 0, .ref q599, .ref q600, .ref q601, .ref q602])), (z566, .inl (cI, 4096, .inl z715)), (q562, .inr (13, [.int 0, .ref z565, .int 1, .int 1, .ref z566, .int 3, .int 0, .int 0, .ref z567, .int 0, .int 0, .int (-1), .int (-1), .int 0, .int (-1), .int 0, .ref z568, .ref z569]))] := hD
  refine W.widen (k := 0) (n := 0) (by omega) (by omega) ?_
  refine lv_pop hx hb d_Mod_feed_54 rfl ?_
  refine lv_aload_n hx hb d_Mod_feed_55 rfl (lv_at hl 0 rfl) ?_
  refine va_get (D := D) (ci := 12) (v := .ref q562) (C := R_Mod) (T := F_Mod) (N := 19) hx hb htw i_Mod hown hC.1 hP 0 rfl rfl 3 (by decide) (htw _ k521) (fun _ h9 => h9) rfl d_Mod_feed_56 ?_
  refine lv_iload hx hb d_Mod_feed_59 (lv_at hl 4 rfl) ?_
  refine wc_i (wr := [(h0, .inr (12, [.int 0, .int 1, .int 1, .ref q562, .ref q571, .ref q574, .ref q577, .ref q580, .ref q583, .ref q586, .int 0, .int (-1), .int 0, .int 0, .long 0, .ref q599, .ref q600, .ref q601, .ref q602]))]) hC hP hD hS [2, 1] [0] rfl rfl (by decide) (by decide) (va_runV (As := [.int a4]) (rest := []) ⟨hx, hb, hml, hown, htw⟩ (c_put_3 l D cI cL B _ q562 z565 z566 z567 z568 z569 z715 a4) (cwV 1 htw gV_Mod_114 rfl rfl rfl (by decide +kernel) ⟨Nat.le_of_ble_eq_true rfl, Nat.le_of_ble_eq_true rfl⟩) (wC_preV (As := [.int a4]) hC hP hD hS [2, 1] (by decide) rfl (q0 := 2) rfl rfl) rfl rfl hl.1 rfl (lv_room (Nat.le_of_ble_eq_true rfl)) d_Mod_feed_61 ⟨Nat.le_of_ble_eq_true rfl, Nat.le_of_ble_eq_true rfl⟩) (fun r718 u716 H locs hw717 hP hD hS => ?_)
  obtain ⟨z719, rfl⟩ : ∃ z, z = u716 := ⟨_, rfl⟩
  obtain rfl : r718 = 4 := hw717
  have hP : va_P D classes [(h0, .inr (12, [.int 0, .int 1, .int 1, .ref q562, .ref q571, .ref q574, .ref q577, .ref q580, .ref q583, .ref q586, .int 0, .int (-1), .int 0, .int 0, .long 0, .ref q599, .ref q600, .ref q601, .ref q602])), (z566, .inl (cI, 4096, .inl z719)), (q562, .inr (13, [.int 0, .ref z565, .int 1, .int 1, .ref z566, .int 4, .int 0, .int 0, .ref z567, .int 0, .int 0, .int (-1), .int (-1), .int 0, .int (-1), .int 0, .ref z568, .ref z569]))] H := hP
  have hD : va_D A [(h0, .inr (12, [.int 0, .int 1, .int 1, .ref q562, .ref q571, .ref q574, .ref q577, .ref q580, .ref q583, .ref q586, .int 0, .int (-1), .int 0, .int 0, .long 0, .ref q599, .ref q600, .ref q601, .ref q602])), (z566, .inl (cI, 4096, .inl z719)), (q562, .inr (13, [.int 0, .ref z565, .int 1, .int 1, .ref z566, .int 4, .int 0, .int 0, .ref z567, .int 0, .int 0, .int (-1), .int (-1), .int 0, .int (-1), .int 0, .ref z568, .ref z569]))] := hD
  refine W.widen (k := 0) (n := 0) (by omega) (by omega) ?_
  refine lv_pop hx hb d_Mod_feed_64 rfl ?_
  refine lv_aload_n hx hb d_Mod_feed_65 rfl (lv_at hl 0 rfl) ?_
  refine va_get (D := D) (ci := 12) (v := .ref q562) (C := R_Mod) (T := F_Mod) (N := 19) hx hb htw i_Mod hown hC.1 hP 0 rfl rfl 3 (by decide) (htw _ k521) (fun _ h9 => h9) rfl d_Mod_feed_66 ?_
  refine lv_iload hx hb d_Mod_feed_69 (lv_at hl 5 rfl) ?_
  refine wc_i (wr := [(h0, .inr (12, [.int 0, .int 1, .int 1, .ref q562, .ref q571, .ref q574, .ref q577, .ref q580, .ref q583, .ref q586, .int 0, .int (-1), .int 0, .int 0, .long 0, .ref q599, .ref q600, .ref q601, .ref q602]))]) hC hP hD hS [2, 1] [0] rfl rfl (by decide) (by decide) (va_runV (As := [.int a5]) (rest := []) ⟨hx, hb, hml, hown, htw⟩ (c_put_4 l D cI cL B _ q562 z565 z566 z567 z568 z569 z719 a5) (cwV 1 htw gV_Mod_114 rfl rfl rfl (by decide +kernel) ⟨Nat.le_of_ble_eq_true rfl, Nat.le_of_ble_eq_true rfl⟩) (wC_preV (As := [.int a5]) hC hP hD hS [2, 1] (by decide) rfl (q0 := 2) rfl rfl) rfl rfl hl.1 rfl (lv_room (Nat.le_of_ble_eq_true rfl)) d_Mod_feed_71 ⟨Nat.le_of_ble_eq_true rfl, Nat.le_of_ble_eq_true rfl⟩) (fun r722 u720 H locs hw721 hP hD hS => ?_)
  obtain ⟨z723, rfl⟩ : ∃ z, z = u720 := ⟨_, rfl⟩
  obtain rfl : r722 = 5 := hw721
  have hP : va_P D classes [(h0, .inr (12, [.int 0, .int 1, .int 1, .ref q562, .ref q571, .ref q574, .ref q577, .ref q580, .ref q583, .ref q586, .int 0, .int (-1), .int 0, .int 0, .long 0, .ref q599, .ref q600, .ref q601, .ref q602])), (z566, .inl (cI, 4096, .inl z723)), (q562, .inr (13, [.int 0, .ref z565, .int 1, .int 1, .ref z566, .int 5, .int 0, .int 0, .ref z567, .int 0, .int 0, .int (-1), .int (-1), .int 0, .int (-1), .int 0, .ref z568, .ref z569]))] H := hP
  have hD : va_D A [(h0, .inr (12, [.int 0, .int 1, .int 1, .ref q562, .ref q571, .ref q574, .ref q577, .ref q580, .ref q583, .ref q586, .int 0, .int (-1), .int 0, .int 0, .long 0, .ref q599, .ref q600, .ref q601, .ref q602])), (z566, .inl (cI, 4096, .inl z723)), (q562, .inr (13, [.int 0, .ref z565, .int 1, .int 1, .ref z566, .int 5, .int 0, .int 0, .ref z567, .int 0, .int 0, .int (-1), .int (-1), .int 0, .int (-1), .int 0, .ref z568, .ref z569]))] := hD
  refine W.widen (k := 0) (n := 0) (by omega) (by omega) ?_
  refine W.widen (k := 0) (n := 0) (Nat.le_of_ble_eq_true rfl) (Nat.le_of_ble_eq_true rfl) ?_
  have hP9 := hP.sub (ws' := [(h0, .inr (12, [.int 0, .int 1, .int 1, .ref q562, .ref q571, .ref q574, .ref q577, .ref q580, .ref q583, .ref q586, .int 0, .int (-1), .int 0, .int 0, .long 0, .ref q599, .ref q600, .ref q601, .ref q602]))]) [0] rfl
  have hD9 := hD.sub (ws' := [(h0, .inr (12, [.int 0, .int 1, .int 1, .ref q562, .ref q571, .ref q574, .ref q577, .ref q580, .ref q583, .ref q586, .int 0, .int (-1), .int 0, .int 0, .long 0, .ref q599, .ref q600, .ref q601, .ref q602]))]) [0] (by decide) rfl
  exact W.iret (v := 5) hx hb hr (fun t ht hW => ⟨⟨5, (), rfl, rfl, by rw [ht]; exact hP9, va_K.moved hW.alike hC.1, hD9⟩, hS.F ht⟩) hS.2.2 d_Mod_feed_74

theorem d_Cmd_anew_0 : decode prog_15_method_16_code 0 = .ok (.aload_n 0, 1) := by decide +kernel
theorem d_Cmd_anew_1 : decode prog_15_method_16_code 1 = .ok (.iconst 0, 1) := by decide +kernel
theorem d_Cmd_anew_2 : decode prog_15_method_16_code 2 = .ok (.putfield 127, 3) := by decide +kernel
theorem d_Cmd_anew_5 : decode prog_15_method_16_code 5 = .ok (.aload_n 0, 1) := by decide +kernel
theorem d_Cmd_anew_6 : decode prog_15_method_16_code 6 = .ok (.iconst 0, 1) := by decide +kernel
theorem d_Cmd_anew_7 : decode prog_15_method_16_code 7 = .ok (.putfield 130, 3) := by decide +kernel
theorem d_Cmd_anew_10 : decode prog_15_method_16_code 10 = .ok (.aload_n 0, 1) := by decide +kernel
theorem d_Cmd_anew_11 : decode prog_15_method_16_code 11 = .ok (.iconst 0, 1) := by decide +kernel
theorem d_Cmd_anew_12 : decode prog_15_method_16_code 12 = .ok (.putfield 133, 3) := by decide +kernel
theorem d_Cmd_anew_15 : decode prog_15_method_16_code 15 = .ok (.aload_n 0, 1) := by decide +kernel
theorem d_Cmd_anew_16 : decode prog_15_method_16_code 16 = .ok (.iconst 0, 1) := by decide +kernel
theorem d_Cmd_anew_17 : decode prog_15_method_16_code 17 = .ok (.putfield 137, 3) := by decide +kernel
theorem d_Cmd_anew_20 : decode prog_15_method_16_code 20 = .ok (.aload_n 0, 1) := by decide +kernel
theorem d_Cmd_anew_21 : decode prog_15_method_16_code 21 = .ok (.iconst (-1), 1) := by decide +kernel
theorem d_Cmd_anew_22 : decode prog_15_method_16_code 22 = .ok (.putfield 26, 3) := by decide +kernel
theorem d_Cmd_anew_25 : decode prog_15_method_16_code 25 = .ok (.aload_n 0, 1) := by decide +kernel
theorem d_Cmd_anew_26 : decode prog_15_method_16_code 26 = .ok (.iconst (-1), 1) := by decide +kernel
theorem d_Cmd_anew_27 : decode prog_15_method_16_code 27 = .ok (.putfield 29, 3) := by decide +kernel
theorem d_Cmd_anew_30 : decode prog_15_method_16_code 30 = .ok (.aload_n 0, 1) := by decide +kernel
theorem d_Cmd_anew_31 : decode prog_15_method_16_code 31 = .ok (.iconst 0, 1) := by decide +kernel
theorem d_Cmd_anew_32 : decode prog_15_method_16_code 32 = .ok (.putfield 140, 3) := by decide +kernel
theorem d_Cmd_anew_35 : decode prog_15_method_16_code 35 = .ok (.aload_n 0, 1) := by decide +kernel
theorem d_Cmd_anew_36 : decode prog_15_method_16_code 36 = .ok (.iconst (-1), 1) := by decide +kernel
theorem d_Cmd_anew_37 : decode prog_15_method_16_code 37 = .ok (.putfield 32, 3) := by decide +kernel
theorem d_Cmd_anew_40 : decode prog_15_method_16_code 40 = .ok (.aload_n 0, 1) := by decide +kernel
theorem d_Cmd_anew_41 : decode prog_15_method_16_code 41 = .ok (.iconst 0, 1) := by decide +kernel
theorem d_Cmd_anew_42 : decode prog_15_method_16_code 42 = .ok (.putfield 143, 3) := by decide +kernel
theorem d_Cmd_anew_45 : decode prog_15_method_16_code 45 = .ok (.return_, 1) := by decide +kernel
set_option maxHeartbeats 4000000 in
set_option maxRecDepth 100000 in
theorem c_Canew (l : Launch) (D : va_G) (cI cL : ClassId) (B sz : Nat) (q562 : Nat) (z565 : Nat) (z566 : Nat) (z567 : Nat) (z568 : Nat) (z569 : Nat) : Met l y_Cmd_anew ((Cond.code y_Cmd_anew prog_15_method_16_code 1 none) :: tw) ({ frames := 20, cells := 0, slots := 0, locals := 2000 }) (va_Pc [.ref q562] (wP D cI cL B sz [(q562, .inr (13, [.int 0, .ref z565, .int 1, .int 1, .ref z566, .int 0, .int 0, .int 0, .ref z567, .int 0, .int 0, .int (-1), .int (-1), .int 0, .int (-1), .int 0, .ref z568, .ref z569]))])) (va_Qv (S := Unit) (fun _ => True) (fun u => wB D cI cL (va_A [(q562, .inr (13, [.int 0, .ref z565, .int 1, .int 1, .ref z566, .int 0, .int 0, .int 0, .ref z567, .int 0, .int 0, .int (-1), .int (-1), .int 0, .int (-1), .int 0, .ref z568, .ref z569]))] sz) ((fun _ : Unit => [(q562, .inr (13, [.int 0, .ref z565, .int 1, .int 1, .ref z566, .int 0, .int 0, .int 0, .ref z567, .int 0, .int 0, .int (-1), .int (-1), .int 0, .int (-1), .int 0, .ref z568, .ref z569]))]) u)) (va_A [(q562, .inr (13, [.int 0, .ref z565, .int 1, .int 1, .ref z566, .int 0, .int 0, .int 0, .ref z567, .int 0, .int 0, .int (-1), .int (-1), .int 0, .int (-1), .int 0, .ref z568, .ref z569]))] sz)) 0 0 (va_A [(q562, .inr (13, [.int 0, .ref z565, .int 1, .int 1, .ref z566, .int 0, .int 0, .int 0, .ref z567, .int 0, .int 0, .int (-1), .int (-1), .int 0, .int (-1), .int 0, .ref z568, .ref z569]))] sz) := by
  refine Met.ofW (cc := prog_15_method_16_code) (maxL := 1) (ret := none) (by decide) rfl ?_
  intro p e s m args below meth c s₁ B0 hml hv
  obtain ⟨rfl, hv⟩ := hv
  have hx := B0.exec
  have hb := B0.bytes
  have hr := B0.returns
  have hts := atoms_spec (ws := (Cond.code y_Cmd_anew prog_15_method_16_code 1 none) :: tw) B0.pre
  have htw : ∀ w ∈ tw, w.before _ s = true := fun w hw => hts w (List.mem_cons_of_mem _ hw)
  have hown : s.vm.findClass "DrawingMachineModel$DrawCommandsModel" = some m.cls := findClass_of_methodNamed B0.named
  have hlocks := B0.notSynchronized
  obtain ⟨hC, hP, hD, hsz⟩ := wC_init hv
  subst hsz
  generalize hAe : va_A [(q562, .inr (13, [.int 0, .ref z565, .int 1, .int 1, .ref z566, .int 0, .int 0, .int 0, .ref z567, .int 0, .int 0, .int (-1), .int (-1), .int 0, .int (-1), .int 0, .ref z568, .ref z569]))] s.heap.size = A at hC hD ⊢
  have hS : va_S A s.heap s.heap [] := va_S.rf
  have hl := lv_entry ([.ref q562]) (n := 1) (Nat.le_of_ble_eq_true rfl)
  rw [lg_entry_eq]
  generalize (lg_sl ([.ref q562]) ++ List.replicate (1 - (lg_sl ([.ref q562])).length) Slot.unset).toArray = ls at hl ⊢
  have hl : lv_has ls 1 [(0, .ref q562)] := hl
  refine lv_aload_n hx hb d_Cmd_anew_0 rfl (lv_at hl 0 rfl) ?_
  refine lv_iconst (v := 0) hx hb d_Cmd_anew_1 (by decide) ?_
  refine va_put (D := D) (ci := 13) (v := .int 0) (ty := .int) (C := R_Cmd) (T := F_Cmd) (N := 18) hx hb htw i_Cmd t_Cmd t_Cmd_ok n_Cmd hown hC.1 hP hD hS 0 rfl rfl 6 (by decide) (htw _ k720) (fun _ h9 => h9) rfl (by decide +kernel) rfl rfl (Nat.le_of_ble_eq_true rfl) d_Cmd_anew_2 (fun H locs hP hD hS => ?_)
  have hP : va_P D classes [(q562, .inr (13, [.int 0, .ref z565, .int 1, .int 1, .ref z566, .int 0, .int 0, .int 0, .ref z567, .int 0, .int 0, .int (-1), .int (-1), .int 0, .int (-1), .int 0, .ref z568, .ref z569]))] H := hP
  have hD : va_D A [(q562, .inr (13, [.int 0, .ref z565, .int 1, .int 1, .ref z566, .int 0, .int 0, .int 0, .ref z567, .int 0, .int 0, .int (-1), .int (-1), .int 0, .int (-1), .int 0, .ref z568, .ref z569]))] := hD
  refine lv_aload_n hx hb d_Cmd_anew_5 rfl (lv_at hl 0 rfl) ?_
  refine lv_iconst (v := 0) hx hb d_Cmd_anew_6 (by decide) ?_
  refine va_put (D := D) (ci := 13) (v := .int 0) (ty := .int) (C := R_Cmd) (T := F_Cmd) (N := 18) hx hb htw i_Cmd t_Cmd t_Cmd_ok n_Cmd hown hC.1 hP hD hS 0 rfl rfl 7 (by decide) (htw _ k721) (fun _ h9 => h9) rfl (by decide +kernel) rfl rfl (Nat.le_of_ble_eq_true rfl) d_Cmd_anew_7 (fun H locs hP hD hS => ?_)
  have hP : va_P D classes [(q562, .inr (13, [.int 0, .ref z565, .int 1, .int 1, .ref z566, .int 0, .int 0, .int 0, .ref z567, .int 0, .int 0, .int (-1), .int (-1), .int 0, .int (-1), .int 0, .ref z568, .ref z569]))] H := hP
  have hD : va_D A [(q562, .inr (13, [.int 0, .ref z565, .int 1, .int 1, .ref z566, .int 0, .int 0, .int 0, .ref z567, .int 0, .int 0, .int (-1), .int (-1), .int 0, .int (-1), .int 0, .ref z568, .ref z569]))] := hD
  refine lv_aload_n hx hb d_Cmd_anew_10 rfl (lv_at hl 0 rfl) ?_
  refine lv_iconst (v := 0) hx hb d_Cmd_anew_11 (by decide) ?_
  refine va_put (D := D) (ci := 13) (v := .int 0) (ty := .boolean) (C := R_Cmd) (T := F_Cmd) (N := 18) hx hb htw i_Cmd t_Cmd t_Cmd_ok n_Cmd hown hC.1 hP hD hS 0 rfl rfl 9 (by decide) (htw _ k722) (fun _ h9 => h9) rfl (by decide +kernel) (by decide) rfl (Nat.le_of_ble_eq_true rfl) d_Cmd_anew_12 (fun H locs hP hD hS => ?_)
  have hP : va_P D classes [(q562, .inr (13, [.int 0, .ref z565, .int 1, .int 1, .ref z566, .int 0, .int 0, .int 0, .ref z567, .int 0, .int 0, .int (-1), .int (-1), .int 0, .int (-1), .int 0, .ref z568, .ref z569]))] H := hP
  have hD : va_D A [(q562, .inr (13, [.int 0, .ref z565, .int 1, .int 1, .ref z566, .int 0, .int 0, .int 0, .ref z567, .int 0, .int 0, .int (-1), .int (-1), .int 0, .int (-1), .int 0, .ref z568, .ref z569]))] := hD
  refine lv_aload_n hx hb d_Cmd_anew_15 rfl (lv_at hl 0 rfl) ?_
  refine lv_iconst (v := 0) hx hb d_Cmd_anew_16 (by decide) ?_
  refine va_put (D := D) (ci := 13) (v := .int 0) (ty := .int) (C := R_Cmd) (T := F_Cmd) (N := 18) hx hb htw i_Cmd t_Cmd t_Cmd_ok n_Cmd hown hC.1 hP hD hS 0 rfl rfl 10 (by decide) (htw _ k723) (fun _ h9 => h9) rfl (by decide +kernel) rfl rfl (Nat.le_of_ble_eq_true rfl) d_Cmd_anew_17 (fun H locs hP hD hS => ?_)
  have hP : va_P D classes [(q562, .inr (13, [.int 0, .ref z565, .int 1, .int 1, .ref z566, .int 0, .int 0, .int 0, .ref z567, .int 0, .int 0, .int (-1), .int (-1), .int 0, .int (-1), .int 0, .ref z568, .ref z569]))] H := hP
  have hD : va_D A [(q562, .inr (13, [.int 0, .ref z565, .int 1, .int 1, .ref z566, .int 0, .int 0, .int 0, .ref z567, .int 0, .int 0, .int (-1), .int (-1), .int 0, .int (-1), .int 0, .ref z568, .ref z569]))] := hD
  refine lv_aload_n hx hb d_Cmd_anew_20 rfl (lv_at hl 0 rfl) ?_
  refine lv_iconst (v := (-1)) hx hb d_Cmd_anew_21 (by decide) ?_
  refine va_put (D := D) (ci := 13) (v := .int (-1)) (ty := .int) (C := R_Cmd) (T := F_Cmd) (N := 18) hx hb htw i_Cmd t_Cmd t_Cmd_ok n_Cmd hown hC.1 hP hD hS 0 rfl rfl 11 (by decide) (htw _ k559) (fun _ h9 => h9) rfl (by decide +kernel) rfl rfl (Nat.le_of_ble_eq_true rfl) d_Cmd_anew_22 (fun H locs hP hD hS => ?_)
  have hP : va_P D classes [(q562, .inr (13, [.int 0, .ref z565, .int 1, .int 1, .ref z566, .int 0, .int 0, .int 0, .ref z567, .int 0, .int 0, .int (-1), .int (-1), .int 0, .int (-1), .int 0, .ref z568, .ref z569]))] H := hP
  have hD : va_D A [(q562, .inr (13, [.int 0, .ref z565, .int 1, .int 1, .ref z566, .int 0, .int 0, .int 0, .ref z567, .int 0, .int 0, .int (-1), .int (-1), .int 0, .int (-1), .int 0, .ref z568, .ref z569]))] := hD
  refine lv_aload_n hx hb d_Cmd_anew_25 rfl (lv_at hl 0 rfl) ?_
  refine lv_iconst (v := (-1)) hx hb d_Cmd_anew_26 (by decide) ?_
  refine va_put (D := D) (ci := 13) (v := .int (-1)) (ty := .int) (C := R_Cmd) (T := F_Cmd) (N := 18) hx hb htw i_Cmd t_Cmd t_Cmd_ok n_Cmd hown hC.1 hP hD hS 0 rfl rfl 12 (by decide) (htw _ k560) (fun _ h9 => h9) rfl (by decide +kernel) rfl rfl (Nat.le_of_ble_eq_true rfl) d_Cmd_anew_27 (fun H locs hP hD hS => ?_)
  have hP : va_P D classes [(q562, .inr (13, [.int 0, .ref z565, .int 1, .int 1, .ref z566, .int 0, .int 0, .int 0, .ref z567, .int 0, .int 0, .int (-1), .int (-1), .int 0, .int (-1), .int 0, .ref z568, .ref z569]))] H := hP
  have hD : va_D A [(q562, .inr (13, [.int 0, .ref z565, .int 1, .int 1, .ref z566, .int 0, .int 0, .int 0, .ref z567, .int 0, .int 0, .int (-1), .int (-1), .int 0, .int (-1), .int 0, .ref z568, .ref z569]))] := hD
  refine lv_aload_n hx hb d_Cmd_anew_30 rfl (lv_at hl 0 rfl) ?_
  refine lv_iconst (v := 0) hx hb d_Cmd_anew_31 (by decide) ?_
  refine va_put (D := D) (ci := 13) (v := .int 0) (ty := .int) (C := R_Cmd) (T := F_Cmd) (N := 18) hx hb htw i_Cmd t_Cmd t_Cmd_ok n_Cmd hown hC.1 hP hD hS 0 rfl rfl 13 (by decide) (htw _ k724) (fun _ h9 => h9) rfl (by decide +kernel) rfl rfl (Nat.le_of_ble_eq_true rfl) d_Cmd_anew_32 (fun H locs hP hD hS => ?_)
  have hP : va_P D classes [(q562, .inr (13, [.int 0, .ref z565, .int 1, .int 1, .ref z566, .int 0, .int 0, .int 0, .ref z567, .int 0, .int 0, .int (-1), .int (-1), .int 0, .int (-1), .int 0, .ref z568, .ref z569]))] H := hP
  have hD : va_D A [(q562, .inr (13, [.int 0, .ref z565, .int 1, .int 1, .ref z566, .int 0, .int 0, .int 0, .ref z567, .int 0, .int 0, .int (-1), .int (-1), .int 0, .int (-1), .int 0, .ref z568, .ref z569]))] := hD
  refine lv_aload_n hx hb d_Cmd_anew_35 rfl (lv_at hl 0 rfl) ?_
  refine lv_iconst (v := (-1)) hx hb d_Cmd_anew_36 (by decide) ?_
  refine va_put (D := D) (ci := 13) (v := .int (-1)) (ty := .int) (C := R_Cmd) (T := F_Cmd) (N := 18) hx hb htw i_Cmd t_Cmd t_Cmd_ok n_Cmd hown hC.1 hP hD hS 0 rfl rfl 14 (by decide) (htw _ k561) (fun _ h9 => h9) rfl (by decide +kernel) rfl rfl (Nat.le_of_ble_eq_true rfl) d_Cmd_anew_37 (fun H locs hP hD hS => ?_)
  have hP : va_P D classes [(q562, .inr (13, [.int 0, .ref z565, .int 1, .int 1, .ref z566, .int 0, .int 0, .int 0, .ref z567, .int 0, .int 0, .int (-1), .int (-1), .int 0, .int (-1), .int 0, .ref z568, .ref z569]))] H := hP
  have hD : va_D A [(q562, .inr (13, [.int 0, .ref z565, .int 1, .int 1, .ref z566, .int 0, .int 0, .int 0, .ref z567, .int 0, .int 0, .int (-1), .int (-1), .int 0, .int (-1), .int 0, .ref z568, .ref z569]))] := hD
  refine lv_aload_n hx hb d_Cmd_anew_40 rfl (lv_at hl 0 rfl) ?_
  refine lv_iconst (v := 0) hx hb d_Cmd_anew_41 (by decide) ?_
  refine va_put (D := D) (ci := 13) (v := .int 0) (ty := .int) (C := R_Cmd) (T := F_Cmd) (N := 18) hx hb htw i_Cmd t_Cmd t_Cmd_ok n_Cmd hown hC.1 hP hD hS 0 rfl rfl 15 (by decide) (htw _ k725) (fun _ h9 => h9) rfl (by decide +kernel) rfl rfl (Nat.le_of_ble_eq_true rfl) d_Cmd_anew_42 (fun H locs hP hD hS => ?_)
  have hP : va_P D classes [(q562, .inr (13, [.int 0, .ref z565, .int 1, .int 1, .ref z566, .int 0, .int 0, .int 0, .ref z567, .int 0, .int 0, .int (-1), .int (-1), .int 0, .int (-1), .int 0, .ref z568, .ref z569]))] H := hP
  have hD : va_D A [(q562, .inr (13, [.int 0, .ref z565, .int 1, .int 1, .ref z566, .int 0, .int 0, .int 0, .ref z567, .int 0, .int 0, .int (-1), .int (-1), .int 0, .int (-1), .int 0, .ref z568, .ref z569]))] := hD
  refine W.widen (k := 0) (n := 0) (Nat.le_of_ble_eq_true rfl) (Nat.le_of_ble_eq_true rfl) ?_
  have hP9 := hP.sub (ws' := [(q562, .inr (13, [.int 0, .ref z565, .int 1, .int 1, .ref z566, .int 0, .int 0, .int 0, .ref z567, .int 0, .int 0, .int (-1), .int (-1), .int 0, .int (-1), .int 0, .ref z568, .ref z569]))]) [0] rfl
  have hD9 := hD.sub (ws' := [(q562, .inr (13, [.int 0, .ref z565, .int 1, .int 1, .ref z566, .int 0, .int 0, .int 0, .ref z567, .int 0, .int 0, .int (-1), .int (-1), .int 0, .int (-1), .int 0, .ref z568, .ref z569]))]) [0] (by decide) rfl
  exact W.vret hx hb hr (fun t ht hW => ⟨⟨(), rfl, trivial, by rw [ht]; exact hP9, va_K.moved hW.alike hC.1, hD9⟩, hS.F ht⟩) hS.2.2 d_Cmd_anew_45

theorem d_Cmd_begin_0 : decode prog_15_method_18_code 0 = .ok (.aload_n 0, 1) := by decide +kernel
theorem d_Cmd_begin_1 : decode prog_15_method_18_code 1 = .ok (.iconst 0, 1) := by decide +kernel
theorem d_Cmd_begin_2 : decode prog_15_method_18_code 2 = .ok (.putfield 44, 3) := by decide +kernel
theorem d_Cmd_begin_5 : decode prog_15_method_18_code 5 = .ok (.aload_n 0, 1) := by decide +kernel
theorem d_Cmd_begin_6 : decode prog_15_method_18_code 6 = .ok (.invokevirtual 146, 3) := by decide +kernel
theorem d_Cmd_begin_9 : decode prog_15_method_18_code 9 = .ok (.iload_n 1, 1) := by decide +kernel
theorem d_Cmd_begin_10 : decode prog_15_method_18_code 10 = .ok (.ifCond .ne 7, 3) := by decide +kernel
theorem d_Cmd_begin_17 : decode prog_15_method_18_code 17 = .ok (.return_, 1) := by decide +kernel
theorem gV_Cmd_146 : GoodIn tw (wsV "DrawingMachineModel$DrawCommandsModel" 146 "DrawingMachineModel$DrawCommandsModel" y_Cmd_anew ((Cond.code y_Cmd_anew prog_15_method_16_code 1 none) :: tw)) := tw_pre (fun _ h => h) (tw_good (fun _ h => h) k719) (List.forall_mem_cons.mpr ⟨k726, List.forall_mem_cons.mpr ⟨k727, List.forall_mem_cons.mpr ⟨k1014, List.forall_mem_cons.mpr ⟨k137, fun _ h => absurd h List.not_mem_nil⟩⟩⟩⟩)
set_option maxHeartbeats 4000000 in
set_option maxRecDepth 100000 in
theorem c_Cbegin_1 (l : Launch) (D : va_G) (cI cL : ClassId) (B sz : Nat) (q562 : Nat) (z565 : Nat) (z566 : Nat) (z567 : Nat) (z568 : Nat) (z569 : Nat) : Met l y_Cmd_begin ((Cond.code y_Cmd_begin prog_15_method_18_code 2 none) :: tw) ({ frames := 30, cells := 0, slots := 0, locals := 3000 }) (va_Pc [.ref q562, .int 1] (wP D cI cL B sz [(q562, .inr (13, [.int 0, .ref z565, .int 1, .int 1, .ref z566, .int 0, .int 0, .int 0, .ref z567, .int 0, .int 0, .int (-1), .int (-1), .int 0, .int (-1), .int 0, .ref z568, .ref z569]))])) (va_Qv (S := Unit) (fun _ => True) (fun u => wB D cI cL (va_A [(q562, .inr (13, [.int 0, .ref z565, .int 1, .int 1, .ref z566, .int 0, .int 0, .int 0, .ref z567, .int 0, .int 0, .int (-1), .int (-1), .int 0, .int (-1), .int 0, .ref z568, .ref z569]))] sz) ((fun _ : Unit => [(q562, .inr (13, [.int 0, .ref z565, .int 1, .int 1, .ref z566, .int 0, .int 0, .int 0, .ref z567, .int 0, .int 0, .int (-1), .int (-1), .int 0, .int (-1), .int 0, .ref z568, .ref z569]))]) u)) (va_A [(q562, .inr (13, [.int 0, .ref z565, .int 1, .int 1, .ref z566, .int 0, .int 0, .int 0, .ref z567, .int 0, .int 0, .int (-1), .int (-1), .int 0, .int (-1), .int 0, .ref z568, .ref z569]))] sz)) 0 0 (va_A [(q562, .inr (13, [.int 0, .ref z565, .int 1, .int 1, .ref z566, .int 0, .int 0, .int 0, .ref z567, .int 0, .int 0, .int (-1), .int (-1), .int 0, .int (-1), .int 0, .ref z568, .ref z569]))] sz) := by
  refine Met.ofW (cc := prog_15_method_18_code) (maxL := 2) (ret := none) (by decide) rfl ?_
  intro p e s m args below meth c s₁ B0 hml hv
  obtain ⟨rfl, hv⟩ := hv
  have hx := B0.exec
  have hb := B0.bytes
  have hr := B0.returns
  have hts := atoms_spec (ws := (Cond.code y_Cmd_begin prog_15_method_18_code 2 none) :: tw) B0.pre
  have htw : ∀ w ∈ tw, w.before _ s = true := fun w hw => hts w (List.mem_cons_of_mem _ hw)
  have hown : s.vm.findClass "DrawingMachineModel$DrawCommandsModel" = some m.cls := findClass_of_methodNamed B0.named
  have hlocks := B0.notSynchronized
  obtain ⟨hC, hP, hD, hsz⟩ := wC_init hv
  subst hsz
  generalize hAe : va_A [(q562, .inr (13, [.int 0, .ref z565, .int 1, .int 1, .ref z566, .int 0, .int 0, .int 0, .ref z567, .int 0, .int 0, .int (-1), .int (-1), .int 0, .int (-1), .int 0, .ref z568, .ref z569]))] s.heap.size = A at hC hD ⊢
  have hS : va_S A s.heap s.heap [] := va_S.rf
  have hl := lv_entry ([.ref q562, .int 1]) (n := 2) (Nat.le_of_ble_eq_true rfl)
  rw [lg_entry_eq]
  generalize (lg_sl ([.ref q562, .int 1]) ++ List.replicate (2 - (lg_sl ([.ref q562, .int 1])).length) Slot.unset).toArray = ls at hl ⊢
  have hl : lv_has ls 2 [(0, .ref q562), (1, .int 1)] := hl
  refine lv_aload_n hx hb d_Cmd_begin_0 rfl (lv_at hl 0 rfl) ?_
  refine lv_iconst (v := 0) hx hb d_Cmd_begin_1 (by decide) ?_
  refine va_put (D := D) (ci := 13) (v := .int 0) (ty := .int) (C := R_Cmd) (T := F_Cmd) (N := 18) hx hb htw i_Cmd t_Cmd t_Cmd_ok n_Cmd hown hC.1 hP hD hS 0 rfl rfl 0 (by decide) (htw _ k710) (fun _ h9 => h9) rfl (by decide +kernel) rfl rfl (Nat.le_of_ble_eq_true rfl) d_Cmd_begin_2 (fun H locs hP hD hS => ?_)
  have hP : va_P D classes [(q562, .inr (13, [.int 0, .ref z565, .int 1, .int 1, .ref z566, .int 0, .int 0, .int 0, .ref z567, .int 0, .int 0, .int (-1), .int (-1), .int 0, .int (-1), .int 0, .ref z568, .ref z569]))] H := hP
  have hD : va_D A [(q562, .inr (13, [.int 0, .ref z565, .int 1, .int 1, .ref z566, .int 0, .int 0, .int 0, .ref z567, .int 0, .int 0, .int (-1), .int (-1), .int 0, .int (-1), .int 0, .ref z568, .ref z569]))] := hD
  refine lv_aload_n hx hb d_Cmd_begin_5 rfl (lv_at hl 0 rfl) ?_
  refine wc_v (wr := []) hC hP hD hS [0] [] rfl rfl (by decide) (by decide) (va_runV (As := []) (rest := []) ⟨hx, hb, hml, hown, htw⟩ (c_Canew l D cI cL B _ q562 z565 z566 z567 z568 z569) (cwV 0 htw gV_Cmd_146 rfl rfl rfl (by decide +kernel) ⟨Nat.le_of_ble_eq_true rfl, Nat.le_of_ble_eq_true rfl⟩) (wC_preV (As := []) hC hP hD hS [0] (by decide) rfl (q0 := 0) rfl rfl) rfl rfl hl.1 rfl (lv_room (Nat.le_of_ble_eq_true rfl)) d_Cmd_begin_6 ⟨Nat.le_of_ble_eq_true rfl, Nat.le_of_ble_eq_true rfl⟩) (fun u724 H locs hw725 hP hD hS => ?_)
  have hP : va_P D classes [(q562, .inr (13, [.int 0, .ref z565, .int 1, .int 1, .ref z566, .int 0, .int 0, .int 0, .ref z567, .int 0, .int 0, .int (-1), .int (-1), .int 0, .int (-1), .int 0, .ref z568, .ref z569]))] H := hP
  have hD : va_D A [(q562, .inr (13, [.int 0, .ref z565, .int 1, .int 1, .ref z566, .int 0, .int 0, .int 0, .ref z567, .int 0, .int 0, .int (-1), .int (-1), .int 0, .int (-1), .int 0, .ref z568, .ref z569]))] := hD
  refine W.widen (k := 0) (n := 0) (by omega) (by omega) ?_
  refine lv_iload_n hx hb d_Cmd_begin_9 rfl (lv_at hl 1 rfl) ?_
  refine lv_if_ne (tgt := 17) hx hb d_Cmd_begin_10 (by decide) (fun c_726 => ?_) (fun c_726 => absurd c_726 (by decide))
  refine W.widen (k := 0) (n := 0) (Nat.le_of_ble_eq_true rfl) (Nat.le_of_ble_eq_true rfl) ?_
  have hP9 := hP.sub (ws' := [(q562, .inr (13, [.int 0, .ref z565, .int 1, .int 1, .ref z566, .int 0, .int 0, .int 0, .ref z567, .int 0, .int 0, .int (-1), .int (-1), .int 0, .int (-1), .int 0, .ref z568, .ref z569]))]) [0] rfl
  have hD9 := hD.sub (ws' := [(q562, .inr (13, [.int 0, .ref z565, .int 1, .int 1, .ref z566, .int 0, .int 0, .int 0, .ref z567, .int 0, .int 0, .int (-1), .int (-1), .int 0, .int (-1), .int 0, .ref z568, .ref z569]))]) [0] (by decide) rfl
  exact W.vret hx hb hr (fun t ht hW => ⟨⟨(), rfl, trivial, by rw [ht]; exact hP9, va_K.moved hW.alike hC.1, hD9⟩, hS.F ht⟩) hS.2.2 d_Cmd_begin_17

theorem d_Cmd_begin_13 : decode prog_15_method_18_code 13 = .ok (.aload_n 0, 1) := by decide +kernel
theorem d_Cmd_begin_14 : decode prog_15_method_18_code 14 = .ok (.invokevirtual 41, 3) := by decide +kernel
set_option maxHeartbeats 4000000 in
set_option maxRecDepth 100000 in
theorem c_Cbegin_0 (l : Launch) (D : va_G) (cI cL : ClassId) (B sz : Nat) (q562 : Nat) (z565 : Nat) (z566 : Nat) (z567 : Nat) (z568 : Nat) (z569 : Nat) (z570 : Nat → Int32) : Met l y_Cmd_begin ((Cond.code y_Cmd_begin prog_15_method_18_code 2 none) :: tw) ({ frames := 50, cells := 0, slots := 0, locals := 5000 }) (va_Pc [.ref q562, .int 0] (wP D cI cL B sz [(q562, .inr (13, [.int 0, .ref z565, .int 1, .int 1, .ref z566, .int 0, .int 0, .int 0, .ref z567, .int 0, .int 0, .int (-1), .int (-1), .int 0, .int (-1), .int 0, .ref z568, .ref z569])), (z569, .inl (cI, 4160, .inl z570))])) (va_Qv (S := Unit) (fun _ => True) (fun u => wB D cI cL (va_A [(q562, .inr (13, [.int 0, .ref z565, .int 1, .int 1, .ref z566, .int 0, .int 0, .int 0, .ref z567, .int 0, .int 0, .int (-1), .int (-1), .int 0, .int (-1), .int 0, .ref z568, .ref z569])), (z569, .inl (cI, 4160, .inl z570))] sz) ((fun _ : Unit => []) u)) (va_A [(q562, .inr (13, [.int 0, .ref z565, .int 1, .int 1, .ref z566, .int 0, .int 0, .int 0, .ref z567, .int 0, .int 0, .int (-1), .int (-1), .int 0, .int (-1), .int 0, .ref z568, .ref z569])), (z569, .inl (cI, 4160, .inl z570))] sz)) 0 0 (va_A [(q562, .inr (13, [.int 0, .ref z565, .int 1, .int 1, .ref z566, .int 0, .int 0, .int 0, .ref z567, .int 0, .int 0, .int (-1), .int (-1), .int 0, .int (-1), .int 0, .ref z568, .ref z569])), (z569, .inl (cI, 4160, .inl z570))] sz) := by
  refine Met.ofW (cc := prog_15_method_18_code) (maxL := 2) (ret := none) (by decide) rfl ?_
  intro p e s m args below meth c s₁ B0 hml hv
  obtain ⟨rfl, hv⟩ := hv
  have hx := B0.exec
  have hb := B0.bytes
  have hr := B0.returns
  have hts := atoms_spec (ws := (Cond.code y_Cmd_begin prog_15_method_18_code 2 none) :: tw) B0.pre
  have htw : ∀ w ∈ tw, w.before _ s = true := fun w hw => hts w (List.mem_cons_of_mem _ hw)
  have hown : s.vm.findClass "DrawingMachineModel$DrawCommandsModel" = some m.cls := findClass_of_methodNamed B0.named
  have hlocks := B0.notSynchronized
  obtain ⟨hC, hP, hD, hsz⟩ := wC_init hv
  subst hsz
  generalize hAe : va_A [(q562, .inr (13, [.int 0, .ref z565, .int 1, .int 1, .ref z566, .int 0, .int 0, .int 0, .ref z567, .int 0, .int 0, .int (-1), .int (-1), .int 0, .int (-1), .int 0, .ref z568, .ref z569])), (z569, .inl (cI, 4160, .inl z570))] s.heap.size = A at hC hD ⊢
  have hS : va_S A s.heap s.heap [] := va_S.rf
  have hl := lv_entry ([.ref q562, .int 0]) (n := 2) (Nat.le_of_ble_eq_true rfl)
  rw [lg_entry_eq]
  generalize (lg_sl ([.ref q562, .int 0]) ++ List.replicate (2 - (lg_sl ([.ref q562, .int 0])).length) Slot.unset).toArray = ls at hl ⊢
  have hl : lv_has ls 2 [(0, .ref q562), (1, .int 0)] := hl
  refine lv_aload_n hx hb d_Cmd_begin_0 rfl (lv_at hl 0 rfl) ?_
  refine lv_iconst (v := 0) hx hb d_Cmd_begin_1 (by decide) ?_
  refine va_put (D := D) (ci := 13) (v := .int 0) (ty := .int) (C := R_Cmd) (T := F_Cmd) (N := 18) hx hb htw i_Cmd t_Cmd t_Cmd_ok n_Cmd hown hC.1 hP hD hS 0 rfl rfl 0 (by decide) (htw _ k710) (fun _ h9 => h9) rfl (by decide +kernel) rfl rfl (Nat.le_of_ble_eq_true rfl) d_Cmd_begin_2 (fun H locs hP hD hS => ?_)
  have hP : va_P D classes [(q562, .inr (13, [.int 0, .ref z565, .int 1, .int 1, .ref z566, .int 0, .int 0, .int 0, .ref z567, .int 0, .int 0, .int (-1), .int (-1), .int 0, .int (-1), .int 0, .ref z568, .ref z569])), (z569, .inl (cI, 4160, .inl z570))] H := hP
  have hD : va_D A [(q562, .inr (13, [.int 0, .ref z565, .int 1, .int 1, .ref z566, .int 0, .int 0, .int 0, .ref z567, .int 0, .int 0, .int (-1), .int (-1), .int 0, .int (-1), .int 0, .ref z568, .ref z569])), (z569, .inl (cI, 4160, .inl z570))] := hD
  refine lv_aload_n hx hb d_Cmd_begin_5 rfl (lv_at hl 0 rfl) ?_
  refine wc_v (wr := [(z569, .inl (cI, 4160, .inl z570))]) hC hP hD hS [0] [1] rfl rfl (by decide) (by decide) (va_runV (As := []) (rest := []) ⟨hx, hb, hml, hown, htw⟩ (c_Canew l D cI cL B _ q562 z565 z566 z567 z568 z569) (cwV 0 htw gV_Cmd_146 rfl rfl rfl (by decide +kernel) ⟨Nat.le_of_ble_eq_true rfl, Nat.le_of_ble_eq_true rfl⟩) (wC_preV (As := []) hC hP hD hS [0] (by decide) rfl (q0 := 0) rfl rfl) rfl rfl hl.1 rfl (lv_room (Nat.le_of_ble_eq_true rfl)) d_Cmd_begin_6 ⟨Nat.le_of_ble_eq_true rfl, Nat.le_of_ble_eq_true rfl⟩) (fun u727 H locs hw728 hP hD hS => ?_)
  have hP : va_P D classes [(z569, .inl (cI, 4160, .inl z570)), (q562, .inr (13, [.int 0, .ref z565, .int 1, .int 1, .ref z566, .int 0, .int 0, .int 0, .ref z567, .int 0, .int 0, .int (-1), .int (-1), .int 0, .int (-1), .int 0, .ref z568, .ref z569]))] H := hP
  have hD : va_D A [(z569, .inl (cI, 4160, .inl z570)), (q562, .inr (13, [.int 0, .ref z565, .int 1, .int 1, .ref z566, .int 0, .int 0, .int 0, .ref z567, .int 0, .int 0, .int (-1), .int (-1), .int 0, .int (-1), .int 0, .ref z568, .ref z569]))] := hD
  refine W.widen (k := 0) (n := 0) (by omega) (by omega) ?_
  refine lv_iload_n hx hb d_Cmd_begin_9 rfl (lv_at hl 1 rfl) ?_
  refine lv_if_ne (tgt := 17) hx hb d_Cmd_begin_10 (by decide) (fun c_729 => absurd c_729 (by decide)) (fun c_729 => ?_)
  refine lv_aload_n hx hb d_Cmd_begin_13 rfl (lv_at hl 0 rfl) ?_
  refine wc_v (wr := []) hC hP hD hS [1, 0] [] rfl rfl (by decide) (by decide) (va_runV (As := []) (rest := []) ⟨hx, hb, hml, hown, htw⟩ (c_nothingTold l D cI cL B _ q562 z569 z570 z565 z566 z567 z568 0 1 1 0 0 0 0 0 (-1) (-1) 0 (-1) 0) (cwV 0 htw gV_Cmd_41 rfl rfl rfl (by decide +kernel) ⟨Nat.le_of_ble_eq_true rfl, Nat.le_of_ble_eq_true rfl⟩) (wC_preV (As := []) hC hP hD hS [1, 0] (by decide) rfl (q0 := 1) rfl rfl) rfl rfl hl.1 rfl (lv_room (Nat.le_of_ble_eq_true rfl)) d_Cmd_begin_14 ⟨Nat.le_of_ble_eq_true rfl, Nat.le_of_ble_eq_true rfl⟩) (fun u730 H locs hw731 hP hD hS => ?_)
  obtain ⟨z732, rfl⟩ : ∃ z, z = u730 := ⟨_, rfl⟩
  have hP : va_P D classes [(q562, .inr (13, [.int 0, .ref z565, .int 1, .int 1, .ref z566, .int 0, .int 0, .int 0, .ref z567, .int 0, .int 0, .int (-1), .int (-1), .int 0, .int (-1), .int 0, .ref z568, .ref z569])), (z569, .inl (cI, 4160, .inl z732))] H := hP
  have hD : va_D A [(q562, .inr (13, [.int 0, .ref z565, .int 1, .int 1, .ref z566, .int 0, .int 0, .int 0, .ref z567, .int 0, .int 0, .int (-1), .int (-1), .int 0, .int (-1), .int 0, .ref z568, .ref z569])), (z569, .inl (cI, 4160, .inl z732))] := hD
  refine W.widen (k := 0) (n := 0) (by omega) (by omega) ?_
  refine W.widen (k := 0) (n := 0) (Nat.le_of_ble_eq_true rfl) (Nat.le_of_ble_eq_true rfl) ?_
  have hP9 := hP.sub (ws' := []) [] rfl
  have hD9 := hD.sub (ws' := []) [] (by decide) rfl
  exact W.vret hx hb hr (fun t ht hW => ⟨⟨(), rfl, trivial, by rw [ht]; exact hP9, va_K.moved hW.alike hC.1, hD9⟩, hS.F ht⟩) hS.2.2 d_Cmd_begin_17

theorem d_Mod_end_0 : decode prog_14_method_9_code 0 = .ok (.aload_n 0, 1) := by decide +kernel
theorem d_Mod_end_1 : decode prog_14_method_9_code 1 = .ok (.iload_n 1, 1) := by decide +kernel
theorem d_Mod_end_2 : decode prog_14_method_9_code 2 = .ok (.i2l, 1) := by decide +kernel
theorem d_Mod_end_3 : decode prog_14_method_9_code 3 = .ok (.lconst 0, 1) := by decide +kernel
theorem d_Mod_end_4 : decode prog_14_method_9_code 4 = .ok (.aload_n 0, 1) := by decide +kernel
theorem d_Mod_end_5 : decode prog_14_method_9_code 5 = .ok (.getfield 19, 3) := by decide +kernel
theorem d_Mod_end_8 : decode prog_14_method_9_code 8 = .ok (.getfield 111, 3) := by decide +kernel
theorem d_Mod_end_11 : decode prog_14_method_9_code 11 = .ok (.i2l, 1) := by decide +kernel
theorem d_Mod_end_12 : decode prog_14_method_9_code 12 = .ok (.invokestatic 90, 3) := by decide +kernel
theorem d_Mod_end_15 : decode prog_14_method_9_code 15 = .ok (.ifCond .ne 7, 3) := by decide +kernel
theorem d_Mod_end_22 : decode prog_14_method_9_code 22 = .ok (.iconst 0, 1) := by decide +kernel
theorem d_Mod_end_23 : decode prog_14_method_9_code 23 = .ok (.iconst 0, 1) := by decide +kernel
theorem d_Mod_end_24 : decode prog_14_method_9_code 24 = .ok (.invokevirtual 94, 3) := by decide +kernel
theorem d_Mod_end_27 : decode prog_14_method_9_code 27 = .ok (.ifCond .eq 4, 3) := by decide +kernel
theorem d_Mod_end_31 : decode prog_14_method_9_code 31 = .ok (.aload_n 0, 1) := by decide +kernel
theorem d_Mod_end_32 : decode prog_14_method_9_code 32 = .ok (.getfield 19, 3) := by decide +kernel
theorem d_Mod_end_35 : decode prog_14_method_9_code 35 = .ok (.iload_n 1, 1) := by decide +kernel
theorem d_Mod_end_36 : decode prog_14_method_9_code 36 = .ok (.putfield 111, 3) := by decide +kernel
theorem d_Mod_end_39 : decode prog_14_method_9_code 39 = .ok (.aload_n 0, 1) := by decide +kernel
theorem d_Mod_end_40 : decode prog_14_method_9_code 40 = .ok (.getfield 19, 3) := by decide +kernel
theorem d_Mod_end_43 : decode prog_14_method_9_code 43 = .ok (.iconst 1, 1) := by decide +kernel
theorem d_Mod_end_44 : decode prog_14_method_9_code 44 = .ok (.invokevirtual 118, 3) := by decide +kernel
theorem d_Mod_end_47 : decode prog_14_method_9_code 47 = .ok (.aload_n 0, 1) := by decide +kernel
theorem d_Mod_end_48 : decode prog_14_method_9_code 48 = .ok (.lconst 0, 1) := by decide +kernel
theorem d_Mod_end_49 : decode prog_14_method_9_code 49 = .ok (.putfield 122, 3) := by decide +kernel
theorem d_Mod_end_52 : decode prog_14_method_9_code 52 = .ok (.return_, 1) := by decide +kernel
theorem gV_Mod_118 : GoodIn tw (wsV "DrawingMachineModel" 118 "DrawingMachineModel$DrawCommandsModel" y_Cmd_begin ((Cond.code y_Cmd_begin prog_15_method_18_code 2 none) :: tw)) := tw_pre (fun _ h => h) (tw_good (fun _ h => h) k659) (List.forall_mem_cons.mpr ⟨k656, List.forall_mem_cons.mpr ⟨k657, List.forall_mem_cons.mpr ⟨k658, List.forall_mem_cons.mpr ⟨k137, fun _ h => absurd h List.not_mem_nil⟩⟩⟩⟩)
set_option maxHeartbeats 4000000 in
set_option maxRecDepth 100000 in
theorem c_Mend_g (l : Launch) (D : va_G) (cI cL : ClassId) (B sz : Nat) (h0 : Nat) (q562 : Nat) (z565 : Nat) (z566 : Nat) (z567 : Nat) (z568 : Nat) (z569 : Nat) (q571 : Nat) (q574 : Nat) (q577 : Nat) (q580 : Nat) (q583 : Nat) (q586 : Nat) (q599 : Nat) (q600 : Nat) (q601 : Nat) (q602 : Nat) : Met l y_Mod_end ((Cond.code y_Mod_end prog_14_method_9_code 2 none) :: tw) ({ frames := 40, cells := 0, slots := 0, locals := 4000 }) (va_Pc [.ref h0, .int 0] (wP D cI cL B sz [(h0, .inr (12, [.int 0, .int 1, .int 1, .ref q562, .ref q571, .ref q574, .ref q577, .ref q580, .ref q583, .ref q586, .int 0, .int (-1), .int 0, .int 0, .long 0, .ref q599, .ref q600, .ref q601, .ref q602])), (q562, .inr (13, [.int 0, .ref z565, .int 1, .int 1, .ref z566, .int 0, .int 0, .int 0, .ref z567, .int 0, .int 0, .int (-1), .int (-1), .int 0, .int (-1), .int 0, .ref z568, .ref z569]))])) (va_Qv (S := Unit) (fun _ => True) (fun u => wB D cI cL (va_A [(h0, .inr (12, [.int 0, .int 1, .int 1, .ref q562, .ref q571, .ref q574, .ref q577, .ref q580, .ref q583, .ref q586, .int 0, .int (-1), .int 0, .int 0, .long 0, .ref q599, .ref q600, .ref q601, .ref q602])), (q562, .inr (13, [.int 0, .ref z565, .int 1, .int 1, .ref z566, .int 0, .int 0, .int 0, .ref z567, .int 0, .int 0, .int (-1), .int (-1), .int 0, .int (-1), .int 0, .ref z568, .ref z569]))] sz) ((fun _ : Unit => [(h0, .inr (12, [.int 0, .int 1, .int 1, .ref q562, .ref q571, .ref q574, .ref q577, .ref q580, .ref q583, .ref q586, .int 0, .int (-1), .int 0, .int 0, .long 0, .ref q599, .ref q600, .ref q601, .ref q602]))]) u)) (va_A [(h0, .inr (12, [.int 0, .int 1, .int 1, .ref q562, .ref q571, .ref q574, .ref q577, .ref q580, .ref q583, .ref q586, .int 0, .int (-1), .int 0, .int 0, .long 0, .ref q599, .ref q600, .ref q601, .ref q602])), (q562, .inr (13, [.int 0, .ref z565, .int 1, .int 1, .ref z566, .int 0, .int 0, .int 0, .ref z567, .int 0, .int 0, .int (-1), .int (-1), .int 0, .int (-1), .int 0, .ref z568, .ref z569]))] sz)) 0 0 (va_A [(h0, .inr (12, [.int 0, .int 1, .int 1, .ref q562, .ref q571, .ref q574, .ref q577, .ref q580, .ref q583, .ref q586, .int 0, .int (-1), .int 0, .int 0, .long 0, .ref q599, .ref q600, .ref q601, .ref q602])), (q562, .inr (13, [.int 0, .ref z565, .int 1, .int 1, .ref z566, .int 0, .int 0, .int 0, .ref z567, .int 0, .int 0, .int (-1), .int (-1), .int 0, .int (-1), .int 0, .ref z568, .ref z569]))] sz) := by
  refine Met.ofW (cc := prog_14_method_9_code) (maxL := 2) (ret := none) (by decide) rfl ?_
  intro p e s m args below meth c s₁ B0 hml hv
  obtain ⟨rfl, hv⟩ := hv
  have hx := B0.exec
  have hb := B0.bytes
  have hr := B0.returns
  have hts := atoms_spec (ws := (Cond.code y_Mod_end prog_14_method_9_code 2 none) :: tw) B0.pre
  have htw : ∀ w ∈ tw, w.before _ s = true := fun w hw => hts w (List.mem_cons_of_mem _ hw)
  have hown : s.vm.findClass "DrawingMachineModel" = some m.cls := findClass_of_methodNamed B0.named
  have hlocks := B0.notSynchronized
  obtain ⟨hC, hP, hD, hsz⟩ := wC_init hv
  subst hsz
  generalize hAe : va_A [(h0, .inr (12, [.int 0, .int 1, .int 1, .ref q562, .ref q571, .ref q574, .ref q577, .ref q580, .ref q583, .ref q586, .int 0, .int (-1), .int 0, .int 0, .long 0, .ref q599, .ref q600, .ref q601, .ref q602])), (q562, .inr (13, [.int 0, .ref z565, .int 1, .int 1, .ref z566, .int 0, .int 0, .int 0, .ref z567, .int 0, .int 0, .int (-1), .int (-1), .int 0, .int (-1), .int 0, .ref z568, .ref z569]))] s.heap.size = A at hC hD ⊢
  have hS : va_S A s.heap s.heap [] := va_S.rf
  have hl := lv_entry ([.ref h0, .int 0]) (n := 2) (Nat.le_of_ble_eq_true rfl)
  rw [lg_entry_eq]
  generalize (lg_sl ([.ref h0, .int 0]) ++ List.replicate (2 - (lg_sl ([.ref h0, .int 0])).length) Slot.unset).toArray = ls at hl ⊢
  have hl : lv_has ls 2 [(0, .ref h0), (1, .int 0)] := hl
  refine lv_aload_n hx hb d_Mod_end_0 rfl (lv_at hl 0 rfl) ?_
  refine lv_iload_n hx hb d_Mod_end_1 rfl (lv_at hl 1 rfl) ?_
  refine lv_i2l (v := 0) hx hb d_Mod_end_2 (by decide) ?_
  refine lv_lconst (v := 0) hx hb d_Mod_end_3 (by decide) ?_
  refine lv_aload_n hx hb d_Mod_end_4 rfl (lv_at hl 0 rfl) ?_
  refine va_get (D := D) (ci := 12) (v := .ref q562) (C := R_Mod) (T := F_Mod) (N := 19) hx hb htw i_Mod hown hC.1 hP 0 rfl rfl 3 (by decide) (htw _ k521) (fun _ h9 => h9) rfl d_Mod_end_5 ?_
  refine va_getN (D := D) (ci := 13) (v := .int 0) (C := R_Cmd) (T := F_Cmd) (N := 18) hx hb htw i_Cmd hown hC.1 hP 1 rfl rfl 5 (by decide) (va_Nw.use rfl (hC.2.1.1 _ kn8)) (fun _ h9 => h9) rfl d_Mod_end_8 ?_
  refine lv_i2l (v := 0) hx hb d_Mod_end_11 (by decide) ?_
  refine wc_i (wr := [(h0, .inr (12, [.int 0, .int 1, .int 1, .ref q562, .ref q571, .ref q574, .ref q577, .ref q580, .ref q583, .ref q586, .int 0, .int (-1), .int 0, .int 0, .long 0, .ref q599, .ref q600, .ref q601, .ref q602])), (q562, .inr (13, [.int 0, .ref z565, .int 1, .int 1, .ref z566, .int 0, .int 0, .int 0, .ref z567, .int 0, .int 0, .int (-1), .int (-1), .int 0, .int (-1), .int 0, .ref z568, .ref z569]))]) hC hP hD hS [] [0, 1] rfl rfl (by decide) (by decide) (va_runS (As := [.long 0, .long 0, .long 0]) (rest := [.ref h0]) ⟨hx, hb, hml, hown, htw⟩ (c_Mod_in_t l D cI cL B _ 0 0 0 (by decide) (by decide)) (va_cwS 3 htw gS_Mod_90 rfl rfl rfl (by decide +kernel) ⟨Nat.le_of_ble_eq_true rfl, Nat.le_of_ble_eq_true rfl⟩) (wC_pre hC hP hD hS [] (by decide) rfl) rfl rfl hl.1 rfl (lv_room (Nat.le_of_ble_eq_true rfl)) d_Mod_end_12 ⟨Nat.le_of_ble_eq_true rfl, Nat.le_of_ble_eq_true rfl⟩) (fun r735 u733 H locs hw734 hP hD hS => ?_)
  obtain rfl : r735 = 1 := hw734
  have hP : va_P D classes [(h0, .inr (12, [.int 0, .int 1, .int 1, .ref q562, .ref q571, .ref q574, .ref q577, .ref q580, .ref q583, .ref q586, .int 0, .int (-1), .int 0, .int 0, .long 0, .ref q599, .ref q600, .ref q601, .ref q602])), (q562, .inr (13, [.int 0, .ref z565, .int 1, .int 1, .ref z566, .int 0, .int 0, .int 0, .ref z567, .int 0, .int 0, .int (-1), .int (-1), .int 0, .int (-1), .int 0, .ref z568, .ref z569]))] H := hP
  have hD : va_D A [(h0, .inr (12, [.int 0, .int 1, .int 1, .ref q562, .ref q571, .ref q574, .ref q577, .ref q580, .ref q583, .ref q586, .int 0, .int (-1), .int 0, .int 0, .long 0, .ref q599, .ref q600, .ref q601, .ref q602])), (q562, .inr (13, [.int 0, .ref z565, .int 1, .int 1, .ref z566, .int 0, .int 0, .int 0, .ref z567, .int 0, .int 0, .int (-1), .int (-1), .int 0, .int (-1), .int 0, .ref z568, .ref z569]))] := hD
  refine W.widen (k := 0) (n := 0) (by omega) (by omega) ?_
  refine lv_if_ne (tgt := 22) hx hb d_Mod_end_15 (by decide) (fun c_736 => ?_) (fun c_736 => absurd c_736 (by decide))
  refine lv_iconst (v := 0) hx hb d_Mod_end_22 (by decide) ?_
  refine lv_iconst (v := 0) hx hb d_Mod_end_23 (by decide) ?_
  refine wc_i (wr := [(q562, .inr (13, [.int 0, .ref z565, .int 1, .int 1, .ref z566, .int 0, .int 0, .int 0, .ref z567, .int 0, .int 0, .int (-1), .int (-1), .int 0, .int (-1), .int 0, .ref z568, .ref z569]))]) hC hP hD hS [0] [1] rfl rfl (by decide) (by decide) (va_runV (As := [.int 0, .int 0]) (rest := []) ⟨hx, hb, hml, hown, htw⟩ (c_Mref_00 l D cI cL B _ h0 q562 q571 q574 q577 q580 q583 q586 q599 q600 q601 q602) (cwV 2 htw gV_Mod_94 rfl rfl rfl (by decide +kernel) ⟨Nat.le_of_ble_eq_true rfl, Nat.le_of_ble_eq_true rfl⟩) (wC_preV (As := [.int 0, .int 0]) hC hP hD hS [0] (by decide) rfl (q0 := 0) rfl rfl) rfl rfl hl.1 rfl (lv_room (Nat.le_of_ble_eq_true rfl)) d_Mod_end_24 ⟨Nat.le_of_ble_eq_true rfl, Nat.le_of_ble_eq_true rfl⟩) (fun r739 u737 H locs hw738 hP hD hS => ?_)
  obtain rfl : r739 = 0 := hw738
  have hP : va_P D classes [(q562, .inr (13, [.int 0, .ref z565, .int 1, .int 1, .ref z566, .int 0, .int 0, .int 0, .ref z567, .int 0, .int 0, .int (-1), .int (-1), .int 0, .int (-1), .int 0, .ref z568, .ref z569])), (h0, .inr (12, [.int 0, .int 1, .int 1, .ref q562, .ref q571, .ref q574, .ref q577, .ref q580, .ref q583, .ref q586, .int 0, .int (-1), .int 0, .int 0, .long 0, .ref q599, .ref q600, .ref q601, .ref q602]))] H := hP
  have hD : va_D A [(q562, .inr (13, [.int 0, .ref z565, .int 1, .int 1, .ref z566, .int 0, .int 0, .int 0, .ref z567, .int 0, .int 0, .int (-1), .int (-1), .int 0, .int (-1), .int 0, .ref z568, .ref z569])), (h0, .inr (12, [.int 0, .int 1, .int 1, .ref q562, .ref q571, .ref q574, .ref q577, .ref q580, .ref q583, .ref q586, .int 0, .int (-1), .int 0, .int 0, .long 0, .ref q599, .ref q600, .ref q601, .ref q602]))] := hD
  refine W.widen (k := 0) (n := 0) (by omega) (by omega) ?_
  refine lv_if_eq (tgt := 31) hx hb d_Mod_end_27 (by decide) (fun c_740 => ?_) (fun c_740 => absurd c_740 (by decide))
  refine lv_aload_n hx hb d_Mod_end_31 rfl (lv_at hl 0 rfl) ?_
  refine va_get (D := D) (ci := 12) (v := .ref q562) (C := R_Mod) (T := F_Mod) (N := 19) hx hb htw i_Mod hown hC.1 hP 1 rfl rfl 3 (by decide) (htw _ k521) (fun _ h9 => h9) rfl d_Mod_end_32 ?_
  refine lv_iload_n hx hb d_Mod_end_35 rfl (lv_at hl 1 rfl) ?_
  refine va_putN (D := D) (ci := 13) (v := .int 0) (ty := .int) (C := R_Cmd) (T := F_Cmd) (N := 18) hx hb htw i_Cmd t_Cmd t_Cmd_ok n_Cmd hown hC.1 hP hD hS 0 rfl rfl 5 (by decide) (va_Nw.use rfl (hC.2.1.1 _ kn8)) (fun _ h9 => h9) rfl (by decide +kernel) rfl rfl (Nat.le_of_ble_eq_true rfl) d_Mod_end_36 (fun H locs hP hD hS => ?_)
  have hP : va_P D classes [(q562, .inr (13, [.int 0, .ref z565, .int 1, .int 1, .ref z566, .int 0, .int 0, .int 0, .ref z567, .int 0, .int 0, .int (-1), .int (-1), .int 0, .int (-1), .int 0, .ref z568, .ref z569])), (h0, .inr (12, [.int 0, .int 1, .int 1, .ref q562, .ref q571, .ref q574, .ref q577, .ref q580, .ref q583, .ref q586, .int 0, .int (-1), .int 0, .int 0, .long 0, .ref q599, .ref q600, .ref q601, .ref q602]))] H := hP
  have hD : va_D A [(q562, .inr (13, [.int 0, .ref z565, .int 1, .int 1, .ref z566, .int 0, .int 0, .int 0, .ref z567, .int 0, .int 0, .int (-1), .int (-1), .int 0, .int (-1), .int 0, .ref z568, .ref z569])), (h0, .inr (12, [.int 0, .int 1, .int 1, .ref q562, .ref q571, .ref q574, .ref q577, .ref q580, .ref q583, .ref q586, .int 0, .int (-1), .int 0, .int 0, .long 0, .ref q599, .ref q600, .ref q601, .ref q602]))] := hD
  refine lv_aload_n hx hb d_Mod_end_39 rfl (lv_at hl 0 rfl) ?_
  refine va_get (D := D) (ci := 12) (v := .ref q562) (C := R_Mod) (T := F_Mod) (N := 19) hx hb htw i_Mod hown hC.1 hP 1 rfl rfl 3 (by decide) (htw _ k521) (fun _ h9 => h9) rfl d_Mod_end_40 ?_
  refine lv_iconst (v := 1) hx hb d_Mod_end_43 (by decide) ?_
  refine wc_v (wr := [(h0, .inr (12, [.int 0, .int 1, .int 1, .ref q562, .ref q571, .ref q574, .ref q577, .ref q580, .ref q583, .ref q586, .int 0, .int (-1), .int 0, .int 0, .long 0, .ref q599, .ref q600, .ref q601, .ref q602]))]) hC hP hD hS [0] [1] rfl rfl (by decide) (by decide) (va_runV (As := [.int 1]) (rest := []) ⟨hx, hb, hml, hown, htw⟩ (c_Cbegin_1 l D cI cL B _ q562 z565 z566 z567 z568 z569) (cwV 1 htw gV_Mod_118 rfl rfl rfl (by decide +kernel) ⟨Nat.le_of_ble_eq_true rfl, Nat.le_of_ble_eq_true rfl⟩) (wC_preV (As := [.int 1]) hC hP hD hS [0] (by decide) rfl (q0 := 0) rfl rfl) rfl rfl hl.1 rfl (lv_room (Nat.le_of_ble_eq_true rfl)) d_Mod_end_44 ⟨Nat.le_of_ble_eq_true rfl, Nat.le_of_ble_eq_true rfl⟩) (fun u741 H locs hw742 hP hD hS => ?_)
  have hP : va_P D classes [(h0, .inr (12, [.int 0, .int 1, .int 1, .ref q562, .ref q571, .ref q574, .ref q577, .ref q580, .ref q583, .ref q586, .int 0, .int (-1), .int 0, .int 0, .long 0, .ref q599, .ref q600, .ref q601, .ref q602])), (q562, .inr (13, [.int 0, .ref z565, .int 1, .int 1, .ref z566, .int 0, .int 0, .int 0, .ref z567, .int 0, .int 0, .int (-1), .int (-1), .int 0, .int (-1), .int 0, .ref z568, .ref z569]))] H := hP
  have hD : va_D A [(h0, .inr (12, [.int 0, .int 1, .int 1, .ref q562, .ref q571, .ref q574, .ref q577, .ref q580, .ref q583, .ref q586, .int 0, .int (-1), .int 0, .int 0, .long 0, .ref q599, .ref q600, .ref q601, .ref q602])), (q562, .inr (13, [.int 0, .ref z565, .int 1, .int 1, .ref z566, .int 0, .int 0, .int 0, .ref z567, .int 0, .int 0, .int (-1), .int (-1), .int 0, .int (-1), .int 0, .ref z568, .ref z569]))] := hD
  refine W.widen (k := 0) (n := 0) (by omega) (by omega) ?_
  refine lv_aload_n hx hb d_Mod_end_47 rfl (lv_at hl 0 rfl) ?_
  refine lv_lconst (v := 0) hx hb d_Mod_end_48 (by decide) ?_
  refine va_put (D := D) (ci := 12) (v := .long 0) (ty := .long) (C := R_Mod) (T := F_Mod) (N := 19) hx hb htw i_Mod t_Mod t_Mod_ok n_Mod hown hC.1 hP hD hS 0 rfl rfl 14 (by decide) (htw _ k660) (fun _ h9 => h9) rfl (by decide +kernel) rfl rfl (Nat.le_of_ble_eq_true rfl) d_Mod_end_49 (fun H locs hP hD hS => ?_)
  have hP : va_P D classes [(h0, .inr (12, [.int 0, .int 1, .int 1, .ref q562, .ref q571, .ref q574, .ref q577, .ref q580, .ref q583, .ref q586, .int 0, .int (-1), .int 0, .int 0, .long 0, .ref q599, .ref q600, .ref q601, .ref q602])), (q562, .inr (13, [.int 0, .ref z565, .int 1, .int 1, .ref z566, .int 0, .int 0, .int 0, .ref z567, .int 0, .int 0, .int (-1), .int (-1), .int 0, .int (-1), .int 0, .ref z568, .ref z569]))] H := hP
  have hD : va_D A [(h0, .inr (12, [.int 0, .int 1, .int 1, .ref q562, .ref q571, .ref q574, .ref q577, .ref q580, .ref q583, .ref q586, .int 0, .int (-1), .int 0, .int 0, .long 0, .ref q599, .ref q600, .ref q601, .ref q602])), (q562, .inr (13, [.int 0, .ref z565, .int 1, .int 1, .ref z566, .int 0, .int 0, .int 0, .ref z567, .int 0, .int 0, .int (-1), .int (-1), .int 0, .int (-1), .int 0, .ref z568, .ref z569]))] := hD
  refine W.widen (k := 0) (n := 0) (Nat.le_of_ble_eq_true rfl) (Nat.le_of_ble_eq_true rfl) ?_
  have hP9 := hP.sub (ws' := [(h0, .inr (12, [.int 0, .int 1, .int 1, .ref q562, .ref q571, .ref q574, .ref q577, .ref q580, .ref q583, .ref q586, .int 0, .int (-1), .int 0, .int 0, .long 0, .ref q599, .ref q600, .ref q601, .ref q602]))]) [0] rfl
  have hD9 := hD.sub (ws' := [(h0, .inr (12, [.int 0, .int 1, .int 1, .ref q562, .ref q571, .ref q574, .ref q577, .ref q580, .ref q583, .ref q586, .int 0, .int (-1), .int 0, .int 0, .long 0, .ref q599, .ref q600, .ref q601, .ref q602]))]) [0] (by decide) rfl
  exact W.vret hx hb hr (fun t ht hW => ⟨⟨(), rfl, trivial, by rw [ht]; exact hP9, va_K.moved hW.alike hC.1, hD9⟩, hS.F ht⟩) hS.2.2 d_Mod_end_52

theorem d_Mod_end_18 : decode prog_14_method_9_code 18 = .ok (.iconst 1, 1) := by decide +kernel
theorem d_Mod_end_19 : decode prog_14_method_9_code 19 = .ok (.goto 4, 3) := by decide +kernel
theorem d_Mod_end_30 : decode prog_14_method_9_code 30 = .ok (.return_, 1) := by decide +kernel
set_option maxHeartbeats 4000000 in
set_option maxRecDepth 100000 in
theorem c_Mend_b (l : Launch) (D : va_G) (cI cL : ClassId) (B sz : Nat) (h0 : Nat) (q562 : Nat) (z565 : Nat) (z566 : Nat) (z567 : Nat) (z568 : Nat) (z569 : Nat) (q571 : Nat) (q574 : Nat) (q577 : Nat) (q580 : Nat) (q583 : Nat) (q586 : Nat) (q599 : Nat) (q600 : Nat) (q601 : Nat) (q602 : Nat) (x : Int32) (hbd : x < 0 ∨ 0 < x) : Met l y_Mod_end ((Cond.code y_Mod_end prog_14_method_9_code 2 none) :: tw) ({ frames := 40, cells := 0, slots := 0, locals := 4000 }) (va_Pc [.ref h0, .int x] (wP D cI cL B sz [(h0, .inr (12, [.int 0, .int 1, .int 1, .ref q562, .ref q571, .ref q574, .ref q577, .ref q580, .ref q583, .ref q586, .int 0, .int (-1), .int 0, .int 0, .long 0, .ref q599, .ref q600, .ref q601, .ref q602])), (q562, .inr (13, [.int 0, .ref z565, .int 1, .int 1, .ref z566, .int 0, .int 0, .int 0, .ref z567, .int 0, .int 0, .int (-1), .int (-1), .int 0, .int (-1), .int 0, .ref z568, .ref z569]))])) (va_Qv (S := Unit) (fun _ => True) (fun u => wB D cI cL (va_A [(h0, .inr (12, [.int 0, .int 1, .int 1, .ref q562, .ref q571, .ref q574, .ref q577, .ref q580, .ref q583, .ref q586, .int 0, .int (-1), .int 0, .int 0, .long 0, .ref q599, .ref q600, .ref q601, .ref q602])), (q562, .inr (13, [.int 0, .ref z565, .int 1, .int 1, .ref z566, .int 0, .int 0, .int 0, .ref z567, .int 0, .int 0, .int (-1), .int (-1), .int 0, .int (-1), .int 0, .ref z568, .ref z569]))] sz) ((fun _ : Unit => [(h0, .inr (12, [.int 1, .int 1, .int 1, .ref q562, .ref q571, .ref q574, .ref q577, .ref q580, .ref q583, .ref q586, .int 0, .int (-1), .int 0, .int 0, .long 0, .ref q599, .ref q600, .ref q601, .ref q602]))]) u)) (va_A [(h0, .inr (12, [.int 0, .int 1, .int 1, .ref q562, .ref q571, .ref q574, .ref q577, .ref q580, .ref q583, .ref q586, .int 0, .int (-1), .int 0, .int 0, .long 0, .ref q599, .ref q600, .ref q601, .ref q602])), (q562, .inr (13, [.int 0, .ref z565, .int 1, .int 1, .ref z566, .int 0, .int 0, .int 0, .ref z567, .int 0, .int 0, .int (-1), .int (-1), .int 0, .int (-1), .int 0, .ref z568, .ref z569]))] sz)) 0 0 (va_A [(h0, .inr (12, [.int 0, .int 1, .int 1, .ref q562, .ref q571, .ref q574, .ref q577, .ref q580, .ref q583, .ref q586, .int 0, .int (-1), .int 0, .int 0, .long 0, .ref q599, .ref q600, .ref q601, .ref q602])), (q562, .inr (13, [.int 0, .ref z565, .int 1, .int 1, .ref z566, .int 0, .int 0, .int 0, .ref z567, .int 0, .int 0, .int (-1), .int (-1), .int 0, .int (-1), .int 0, .ref z568, .ref z569]))] sz) := by
  refine Met.ofW (cc := prog_14_method_9_code) (maxL := 2) (ret := none) (by decide) rfl ?_
  intro p e s m args below meth c s₁ B0 hml hv
  obtain ⟨rfl, hv⟩ := hv
  have hx := B0.exec
  have hb := B0.bytes
  have hr := B0.returns
  have hts := atoms_spec (ws := (Cond.code y_Mod_end prog_14_method_9_code 2 none) :: tw) B0.pre
  have htw : ∀ w ∈ tw, w.before _ s = true := fun w hw => hts w (List.mem_cons_of_mem _ hw)
  have hown : s.vm.findClass "DrawingMachineModel" = some m.cls := findClass_of_methodNamed B0.named
  have hlocks := B0.notSynchronized
  obtain ⟨hC, hP, hD, hsz⟩ := wC_init hv
  subst hsz
  generalize hAe : va_A [(h0, .inr (12, [.int 0, .int 1, .int 1, .ref q562, .ref q571, .ref q574, .ref q577, .ref q580, .ref q583, .ref q586, .int 0, .int (-1), .int 0, .int 0, .long 0, .ref q599, .ref q600, .ref q601, .ref q602])), (q562, .inr (13, [.int 0, .ref z565, .int 1, .int 1, .ref z566, .int 0, .int 0, .int 0, .ref z567, .int 0, .int 0, .int (-1), .int (-1), .int 0, .int (-1), .int 0, .ref z568, .ref z569]))] s.heap.size = A at hC hD ⊢
  have hS : va_S A s.heap s.heap [] := va_S.rf
  have hl := lv_entry ([.ref h0, .int x]) (n := 2) (Nat.le_of_ble_eq_true rfl)
  rw [lg_entry_eq]
  generalize (lg_sl ([.ref h0, .int x]) ++ List.replicate (2 - (lg_sl ([.ref h0, .int x])).length) Slot.unset).toArray = ls at hl ⊢
  have hl : lv_has ls 2 [(0, .ref h0), (1, .int x)] := hl
  refine lv_aload_n hx hb d_Mod_end_0 rfl (lv_at hl 0 rfl) ?_
  refine lv_iload_n hx hb d_Mod_end_1 rfl (lv_at hl 1 rfl) ?_
  refine lv_i2l (v := x.toInt64) hx hb d_Mod_end_2 rfl ?_
  refine lv_lconst (v := 0) hx hb d_Mod_end_3 (by decide) ?_
  refine lv_aload_n hx hb d_Mod_end_4 rfl (lv_at hl 0 rfl) ?_
  refine va_get (D := D) (ci := 12) (v := .ref q562) (C := R_Mod) (T := F_Mod) (N := 19) hx hb htw i_Mod hown hC.1 hP 0 rfl rfl 3 (by decide) (htw _ k521) (fun _ h9 => h9) rfl d_Mod_end_5 ?_
  refine va_getN (D := D) (ci := 13) (v := .int 0) (C := R_Cmd) (T := F_Cmd) (N := 18) hx hb htw i_Cmd hown hC.1 hP 1 rfl rfl 5 (by decide) (va_Nw.use rfl (hC.2.1.1 _ kn8)) (fun _ h9 => h9) rfl d_Mod_end_8 ?_
  refine lv_i2l (v := 0) hx hb d_Mod_end_11 (by decide) ?_
  refine wc_i (wr := [(h0, .inr (12, [.int 0, .int 1, .int 1, .ref q562, .ref q571, .ref q574, .ref q577, .ref q580, .ref q583, .ref q586, .int 0, .int (-1), .int 0, .int 0, .long 0, .ref q599, .ref q600, .ref q601, .ref q602])), (q562, .inr (13, [.int 0, .ref z565, .int 1, .int 1, .ref z566, .int 0, .int 0, .int 0, .ref z567, .int 0, .int 0, .int (-1), .int (-1), .int 0, .int (-1), .int 0, .ref z568, .ref z569]))]) hC hP hD hS [] [0, 1] rfl rfl (by decide) (by decide) (va_runS (As := [.long x.toInt64, .long 0, .long 0]) (rest := [.ref h0]) ⟨hx, hb, hml, hown, htw⟩ (c_Mod_in_f l D cI cL B _ x.toInt64 0 0 (bad_in 0 0 (by decide) (by decide) hbd)) (va_cwS 3 htw gS_Mod_90 rfl rfl rfl (by decide +kernel) ⟨Nat.le_of_ble_eq_true rfl, Nat.le_of_ble_eq_true rfl⟩) (wC_pre hC hP hD hS [] (by decide) rfl) rfl rfl hl.1 rfl (lv_room (Nat.le_of_ble_eq_true rfl)) d_Mod_end_12 ⟨Nat.le_of_ble_eq_true rfl, Nat.le_of_ble_eq_true rfl⟩) (fun r745 u743 H locs hw744 hP hD hS => ?_)
  obtain rfl : r745 = 0 := hw744
  have hP : va_P D classes [(h0, .inr (12, [.int 0, .int 1, .int 1, .ref q562, .ref q571, .ref q574, .ref q577, .ref q580, .ref q583, .ref q586, .int 0, .int (-1), .int 0, .int 0, .long 0, .ref q599, .ref q600, .ref q601, .ref q602])), (q562, .inr (13, [.int 0, .ref z565, .int 1, .int 1, .ref z566, .int 0, .int 0, .int 0, .ref z567, .int 0, .int 0, .int (-1), .int (-1), .int 0, .int (-1), .int 0, .ref z568, .ref z569]))] H := hP
  have hD : va_D A [(h0, .inr (12, [.int 0, .int 1, .int 1, .ref q562, .ref q571, .ref q574, .ref q577, .ref q580, .ref q583, .ref q586, .int 0, .int (-1), .int 0, .int 0, .long 0, .ref q599, .ref q600, .ref q601, .ref q602])), (q562, .inr (13, [.int 0, .ref z565, .int 1, .int 1, .ref z566, .int 0, .int 0, .int 0, .ref z567, .int 0, .int 0, .int (-1), .int (-1), .int 0, .int (-1), .int 0, .ref z568, .ref z569]))] := hD
  refine W.widen (k := 0) (n := 0) (by omega) (by omega) ?_
  refine lv_if_ne (tgt := 22) hx hb d_Mod_end_15 (by decide) (fun c_746 => absurd c_746 (by decide)) (fun c_746 => ?_)
  refine lv_iconst (v := 1) hx hb d_Mod_end_18 (by decide) ?_
  refine lv_goto (tgt := 23) hx hb d_Mod_end_19 (by decide) ?_
  refine lv_iconst (v := 0) hx hb d_Mod_end_23 (by decide) ?_
  refine wc_i (wr := [(q562, .inr (13, [.int 0, .ref z565, .int 1, .int 1, .ref z566, .int 0, .int 0, .int 0, .ref z567, .int 0, .int 0, .int (-1), .int (-1), .int 0, .int (-1), .int 0, .ref z568, .ref z569]))]) hC hP hD hS [0] [1] rfl rfl (by decide) (by decide) (va_runV (As := [.int 1, .int 0]) (rest := []) ⟨hx, hb, hml, hown, htw⟩ (c_Mref_10 l D cI cL B _ h0 q562 q571 q574 q577 q580 q583 q586 q599 q600 q601 q602) (cwV 2 htw gV_Mod_94 rfl rfl rfl (by decide +kernel) ⟨Nat.le_of_ble_eq_true rfl, Nat.le_of_ble_eq_true rfl⟩) (wC_preV (As := [.int 1, .int 0]) hC hP hD hS [0] (by decide) rfl (q0 := 0) rfl rfl) rfl rfl hl.1 rfl (lv_room (Nat.le_of_ble_eq_true rfl)) d_Mod_end_24 ⟨Nat.le_of_ble_eq_true rfl, Nat.le_of_ble_eq_true rfl⟩) (fun r749 u747 H locs hw748 hP hD hS => ?_)
  obtain rfl : r749 = 1 := hw748
  have hP : va_P D classes [(q562, .inr (13, [.int 0, .ref z565, .int 1, .int 1, .ref z566, .int 0, .int 0, .int 0, .ref z567, .int 0, .int 0, .int (-1), .int (-1), .int 0, .int (-1), .int 0, .ref z568, .ref z569])), (h0, .inr (12, [.int 1, .int 1, .int 1, .ref q562, .ref q571, .ref q574, .ref q577, .ref q580, .ref q583, .ref q586, .int 0, .int (-1), .int 0, .int 0, .long 0, .ref q599, .ref q600, .ref q601, .ref q602]))] H := hP
  have hD : va_D A [(q562, .inr (13, [.int 0, .ref z565, .int 1, .int 1, .ref z566, .int 0, .int 0, .int 0, .ref z567, .int 0, .int 0, .int (-1), .int (-1), .int 0, .int (-1), .int 0, .ref z568, .ref z569])), (h0, .inr (12, [.int 1, .int 1, .int 1, .ref q562, .ref q571, .ref q574, .ref q577, .ref q580, .ref q583, .ref q586, .int 0, .int (-1), .int 0, .int 0, .long 0, .ref q599, .ref q600, .ref q601, .ref q602]))] := hD
  refine W.widen (k := 0) (n := 0) (by omega) (by omega) ?_
  refine lv_if_eq (tgt := 31) hx hb d_Mod_end_27 (by decide) (fun c_750 => absurd c_750 (by decide)) (fun c_750 => ?_)
  refine W.widen (k := 0) (n := 0) (Nat.le_of_ble_eq_true rfl) (Nat.le_of_ble_eq_true rfl) ?_
  have hP9 := hP.sub (ws' := [(h0, .inr (12, [.int 1, .int 1, .int 1, .ref q562, .ref q571, .ref q574, .ref q577, .ref q580, .ref q583, .ref q586, .int 0, .int (-1), .int 0, .int 0, .long 0, .ref q599, .ref q600, .ref q601, .ref q602]))]) [1] rfl
  have hD9 := hD.sub (ws' := [(h0, .inr (12, [.int 1, .int 1, .int 1, .ref q562, .ref q571, .ref q574, .ref q577, .ref q580, .ref q583, .ref q586, .int 0, .int (-1), .int 0, .int 0, .long 0, .ref q599, .ref q600, .ref q601, .ref q602]))]) [1] (by decide) rfl
  exact W.vret hx hb hr (fun t ht hW => ⟨⟨(), rfl, trivial, by rw [ht]; exact hP9, va_K.moved hW.alike hC.1, hD9⟩, hS.F ht⟩) hS.2.2 d_Mod_end_30

theorem d_Mod_begin_0 : decode prog_14_method_10_code 0 = .ok (.aload_n 0, 1) := by decide +kernel
theorem d_Mod_begin_1 : decode prog_14_method_10_code 1 = .ok (.iconst 0, 1) := by decide +kernel
theorem d_Mod_begin_2 : decode prog_14_method_10_code 2 = .ok (.putfield 85, 3) := by decide +kernel
theorem d_Mod_begin_5 : decode prog_14_method_10_code 5 = .ok (.aload_n 0, 1) := by decide +kernel
theorem d_Mod_begin_6 : decode prog_14_method_10_code 6 = .ok (.getfield 19, 3) := by decide +kernel
theorem d_Mod_begin_9 : decode prog_14_method_10_code 9 = .ok (.iload_n 1, 1) := by decide +kernel
theorem d_Mod_begin_10 : decode prog_14_method_10_code 10 = .ok (.invokevirtual 118, 3) := by decide +kernel
theorem d_Mod_begin_13 : decode prog_14_method_10_code 13 = .ok (.aload_n 0, 1) := by decide +kernel
theorem d_Mod_begin_14 : decode prog_14_method_10_code 14 = .ok (.lconst 0, 1) := by decide +kernel
theorem d_Mod_begin_15 : decode prog_14_method_10_code 15 = .ok (.putfield 122, 3) := by decide +kernel
theorem d_Mod_begin_18 : decode prog_14_method_10_code 18 = .ok (.return_, 1) := by decide +kernel
set_option maxHeartbeats 4000000 in
set_option maxRecDepth 100000 in
theorem c_Mbegin_1 (l : Launch) (D : va_G) (cI cL : ClassId) (B sz : Nat) (h0 : Nat) (q562 : Nat) (z565 : Nat) (z566 : Nat) (z567 : Nat) (z568 : Nat) (z569 : Nat) (q571 : Nat) (q574 : Nat) (q577 : Nat) (q580 : Nat) (q583 : Nat) (q586 : Nat) (q599 : Nat) (q600 : Nat) (q601 : Nat) (q602 : Nat) : Met l y_Mod_begin ((Cond.code y_Mod_begin prog_14_method_10_code 2 none) :: tw) ({ frames := 40, cells := 0, slots := 0, locals := 4000 }) (va_Pc [.ref h0, .int 1] (wP D cI cL B sz [(h0, .inr (12, [.int 0, .int 1, .int 1, .ref q562, .ref q571, .ref q574, .ref q577, .ref q580, .ref q583, .ref q586, .int 0, .int (-1), .int 0, .int 0, .long 0, .ref q599, .ref q600, .ref q601, .ref q602])), (q562, .inr (13, [.int 0, .ref z565, .int 1, .int 1, .ref z566, .int 0, .int 0, .int 0, .ref z567, .int 0, .int 0, .int (-1), .int (-1), .int 0, .int (-1), .int 0, .ref z568, .ref z569]))])) (va_Qv (S := Unit) (fun _ => True) (fun u => wB D cI cL (va_A [(h0, .inr (12, [.int 0, .int 1, .int 1, .ref q562, .ref q571, .ref q574, .ref q577, .ref q580, .ref q583, .ref q586, .int 0, .int (-1), .int 0, .int 0, .long 0, .ref q599, .ref q600, .ref q601, .ref q602])), (q562, .inr (13, [.int 0, .ref z565, .int 1, .int 1, .ref z566, .int 0, .int 0, .int 0, .ref z567, .int 0, .int 0, .int (-1), .int (-1), .int 0, .int (-1), .int 0, .ref z568, .ref z569]))] sz) ((fun _ : Unit => [(h0, .inr (12, [.int 0, .int 1, .int 1, .ref q562, .ref q571, .ref q574, .ref q577, .ref q580, .ref q583, .ref q586, .int 0, .int (-1), .int 0, .int 0, .long 0, .ref q599, .ref q600, .ref q601, .ref q602]))]) u)) (va_A [(h0, .inr (12, [.int 0, .int 1, .int 1, .ref q562, .ref q571, .ref q574, .ref q577, .ref q580, .ref q583, .ref q586, .int 0, .int (-1), .int 0, .int 0, .long 0, .ref q599, .ref q600, .ref q601, .ref q602])), (q562, .inr (13, [.int 0, .ref z565, .int 1, .int 1, .ref z566, .int 0, .int 0, .int 0, .ref z567, .int 0, .int 0, .int (-1), .int (-1), .int 0, .int (-1), .int 0, .ref z568, .ref z569]))] sz)) 0 0 (va_A [(h0, .inr (12, [.int 0, .int 1, .int 1, .ref q562, .ref q571, .ref q574, .ref q577, .ref q580, .ref q583, .ref q586, .int 0, .int (-1), .int 0, .int 0, .long 0, .ref q599, .ref q600, .ref q601, .ref q602])), (q562, .inr (13, [.int 0, .ref z565, .int 1, .int 1, .ref z566, .int 0, .int 0, .int 0, .ref z567, .int 0, .int 0, .int (-1), .int (-1), .int 0, .int (-1), .int 0, .ref z568, .ref z569]))] sz) := by
  refine Met.ofW (cc := prog_14_method_10_code) (maxL := 2) (ret := none) (by decide) rfl ?_
  intro p e s m args below meth c s₁ B0 hml hv
  obtain ⟨rfl, hv⟩ := hv
  have hx := B0.exec
  have hb := B0.bytes
  have hr := B0.returns
  have hts := atoms_spec (ws := (Cond.code y_Mod_begin prog_14_method_10_code 2 none) :: tw) B0.pre
  have htw : ∀ w ∈ tw, w.before _ s = true := fun w hw => hts w (List.mem_cons_of_mem _ hw)
  have hown : s.vm.findClass "DrawingMachineModel" = some m.cls := findClass_of_methodNamed B0.named
  have hlocks := B0.notSynchronized
  obtain ⟨hC, hP, hD, hsz⟩ := wC_init hv
  subst hsz
  generalize hAe : va_A [(h0, .inr (12, [.int 0, .int 1, .int 1, .ref q562, .ref q571, .ref q574, .ref q577, .ref q580, .ref q583, .ref q586, .int 0, .int (-1), .int 0, .int 0, .long 0, .ref q599, .ref q600, .ref q601, .ref q602])), (q562, .inr (13, [.int 0, .ref z565, .int 1, .int 1, .ref z566, .int 0, .int 0, .int 0, .ref z567, .int 0, .int 0, .int (-1), .int (-1), .int 0, .int (-1), .int 0, .ref z568, .ref z569]))] s.heap.size = A at hC hD ⊢
  have hS : va_S A s.heap s.heap [] := va_S.rf
  have hl := lv_entry ([.ref h0, .int 1]) (n := 2) (Nat.le_of_ble_eq_true rfl)
  rw [lg_entry_eq]
  generalize (lg_sl ([.ref h0, .int 1]) ++ List.replicate (2 - (lg_sl ([.ref h0, .int 1])).length) Slot.unset).toArray = ls at hl ⊢
  have hl : lv_has ls 2 [(0, .ref h0), (1, .int 1)] := hl
  refine lv_aload_n hx hb d_Mod_begin_0 rfl (lv_at hl 0 rfl) ?_
  refine lv_iconst (v := 0) hx hb d_Mod_begin_1 (by decide) ?_
  refine va_put (D := D) (ci := 12) (v := .int 0) (ty := .int) (C := R_Mod) (T := F_Mod) (N := 19) hx hb htw i_Mod t_Mod t_Mod_ok n_Mod hown hC.1 hP hD hS 0 rfl rfl 0 (by decide) (htw _ k626) (fun _ h9 => h9) rfl (by decide +kernel) rfl rfl (Nat.le_of_ble_eq_true rfl) d_Mod_begin_2 (fun H locs hP hD hS => ?_)
  have hP : va_P D classes [(h0, .inr (12, [.int 0, .int 1, .int 1, .ref q562, .ref q571, .ref q574, .ref q577, .ref q580, .ref q583, .ref q586, .int 0, .int (-1), .int 0, .int 0, .long 0, .ref q599, .ref q600, .ref q601, .ref q602])), (q562, .inr (13, [.int 0, .ref z565, .int 1, .int 1, .ref z566, .int 0, .int 0, .int 0, .ref z567, .int 0, .int 0, .int (-1), .int (-1), .int 0, .int (-1), .int 0, .ref z568, .ref z569]))] H := hP
  have hD : va_D A [(h0, .inr (12, [.int 0, .int 1, .int 1, .ref q562, .ref q571, .ref q574, .ref q577, .ref q580, .ref q583, .ref q586, .int 0, .int (-1), .int 0, .int 0, .long 0, .ref q599, .ref q600, .ref q601, .ref q602])), (q562, .inr (13, [.int 0, .ref z565, .int 1, .int 1, .ref z566, .int 0, .int 0, .int 0, .ref z567, .int 0, .int 0, .int (-1), .int (-1), .int 0, .int (-1), .int 0, .ref z568, .ref z569]))] := hD
  refine lv_aload_n hx hb d_Mod_begin_5 rfl (lv_at hl 0 rfl) ?_
  refine va_get (D := D) (ci := 12) (v := .ref q562) (C := R_Mod) (T := F_Mod) (N := 19) hx hb htw i_Mod hown hC.1 hP 0 rfl rfl 3 (by decide) (htw _ k521) (fun _ h9 => h9) rfl d_Mod_begin_6 ?_
  refine lv_iload_n hx hb d_Mod_begin_9 rfl (lv_at hl 1 rfl) ?_
  refine wc_v (wr := [(h0, .inr (12, [.int 0, .int 1, .int 1, .ref q562, .ref q571, .ref q574, .ref q577, .ref q580, .ref q583, .ref q586, .int 0, .int (-1), .int 0, .int 0, .long 0, .ref q599, .ref q600, .ref q601, .ref q602]))]) hC hP hD hS [1] [0] rfl rfl (by decide) (by decide) (va_runV (As := [.int 1]) (rest := []) ⟨hx, hb, hml, hown, htw⟩ (c_Cbegin_1 l D cI cL B _ q562 z565 z566 z567 z568 z569) (cwV 1 htw gV_Mod_118 rfl rfl rfl (by decide +kernel) ⟨Nat.le_of_ble_eq_true rfl, Nat.le_of_ble_eq_true rfl⟩) (wC_preV (As := [.int 1]) hC hP hD hS [1] (by decide) rfl (q0 := 1) rfl rfl) rfl rfl hl.1 rfl (lv_room (Nat.le_of_ble_eq_true rfl)) d_Mod_begin_10 ⟨Nat.le_of_ble_eq_true rfl, Nat.le_of_ble_eq_true rfl⟩) (fun u751 H locs hw752 hP hD hS => ?_)
  have hP : va_P D classes [(h0, .inr (12, [.int 0, .int 1, .int 1, .ref q562, .ref q571, .ref q574, .ref q577, .ref q580, .ref q583, .ref q586, .int 0, .int (-1), .int 0, .int 0, .long 0, .ref q599, .ref q600, .ref q601, .ref q602])), (q562, .inr (13, [.int 0, .ref z565, .int 1, .int 1, .ref z566, .int 0, .int 0, .int 0, .ref z567, .int 0, .int 0, .int (-1), .int (-1), .int 0, .int (-1), .int 0, .ref z568, .ref z569]))] H := hP
  have hD : va_D A [(h0, .inr (12, [.int 0, .int 1, .int 1, .ref q562, .ref q571, .ref q574, .ref q577, .ref q580, .ref q583, .ref q586, .int 0, .int (-1), .int 0, .int 0, .long 0, .ref q599, .ref q600, .ref q601, .ref q602])), (q562, .inr (13, [.int 0, .ref z565, .int 1, .int 1, .ref z566, .int 0, .int 0, .int 0, .ref z567, .int 0, .int 0, .int (-1), .int (-1), .int 0, .int (-1), .int 0, .ref z568, .ref z569]))] := hD
  refine W.widen (k := 0) (n := 0) (by omega) (by omega) ?_
  refine lv_aload_n hx hb d_Mod_begin_13 rfl (lv_at hl 0 rfl) ?_
  refine lv_lconst (v := 0) hx hb d_Mod_begin_14 (by decide) ?_
  refine va_put (D := D) (ci := 12) (v := .long 0) (ty := .long) (C := R_Mod) (T := F_Mod) (N := 19) hx hb htw i_Mod t_Mod t_Mod_ok n_Mod hown hC.1 hP hD hS 0 rfl rfl 14 (by decide) (htw _ k660) (fun _ h9 => h9) rfl (by decide +kernel) rfl rfl (Nat.le_of_ble_eq_true rfl) d_Mod_begin_15 (fun H locs hP hD hS => ?_)
  have hP : va_P D classes [(h0, .inr (12, [.int 0, .int 1, .int 1, .ref q562, .ref q571, .ref q574, .ref q577, .ref q580, .ref q583, .ref q586, .int 0, .int (-1), .int 0, .int 0, .long 0, .ref q599, .ref q600, .ref q601, .ref q602])), (q562, .inr (13, [.int 0, .ref z565, .int 1, .int 1, .ref z566, .int 0, .int 0, .int 0, .ref z567, .int 0, .int 0, .int (-1), .int (-1), .int 0, .int (-1), .int 0, .ref z568, .ref z569]))] H := hP
  have hD : va_D A [(h0, .inr (12, [.int 0, .int 1, .int 1, .ref q562, .ref q571, .ref q574, .ref q577, .ref q580, .ref q583, .ref q586, .int 0, .int (-1), .int 0, .int 0, .long 0, .ref q599, .ref q600, .ref q601, .ref q602])), (q562, .inr (13, [.int 0, .ref z565, .int 1, .int 1, .ref z566, .int 0, .int 0, .int 0, .ref z567, .int 0, .int 0, .int (-1), .int (-1), .int 0, .int (-1), .int 0, .ref z568, .ref z569]))] := hD
  refine W.widen (k := 0) (n := 0) (Nat.le_of_ble_eq_true rfl) (Nat.le_of_ble_eq_true rfl) ?_
  have hP9 := hP.sub (ws' := [(h0, .inr (12, [.int 0, .int 1, .int 1, .ref q562, .ref q571, .ref q574, .ref q577, .ref q580, .ref q583, .ref q586, .int 0, .int (-1), .int 0, .int 0, .long 0, .ref q599, .ref q600, .ref q601, .ref q602]))]) [0] rfl
  have hD9 := hD.sub (ws' := [(h0, .inr (12, [.int 0, .int 1, .int 1, .ref q562, .ref q571, .ref q574, .ref q577, .ref q580, .ref q583, .ref q586, .int 0, .int (-1), .int 0, .int 0, .long 0, .ref q599, .ref q600, .ref q601, .ref q602]))]) [0] (by decide) rfl
  exact W.vret hx hb hr (fun t ht hW => ⟨⟨(), rfl, trivial, by rw [ht]; exact hP9, va_K.moved hW.alike hC.1, hD9⟩, hS.F ht⟩) hS.2.2 d_Mod_begin_18

set_option maxHeartbeats 4000000 in
set_option maxRecDepth 100000 in
theorem c_Mbegin_0 (l : Launch) (D : va_G) (cI cL : ClassId) (B sz : Nat) (h0 : Nat) (q562 : Nat) (z565 : Nat) (z566 : Nat) (z567 : Nat) (z568 : Nat) (z569 : Nat) (z570 : Nat → Int32) (q571 : Nat) (q574 : Nat) (q577 : Nat) (q580 : Nat) (q583 : Nat) (q586 : Nat) (q599 : Nat) (q600 : Nat) (q601 : Nat) (q602 : Nat) : Met l y_Mod_begin ((Cond.code y_Mod_begin prog_14_method_10_code 2 none) :: tw) ({ frames := 60, cells := 0, slots := 0, locals := 6000 }) (va_Pc [.ref h0, .int 0] (wP D cI cL B sz [(h0, .inr (12, [.int 0, .int 1, .int 1, .ref q562, .ref q571, .ref q574, .ref q577, .ref q580, .ref q583, .ref q586, .int 0, .int (-1), .int 0, .int 0, .long 0, .ref q599, .ref q600, .ref q601, .ref q602])), (q562, .inr (13, [.int 0, .ref z565, .int 1, .int 1, .ref z566, .int 0, .int 0, .int 0, .ref z567, .int 0, .int 0, .int (-1), .int (-1), .int 0, .int (-1), .int 0, .ref z568, .ref z569])), (z569, .inl (cI, 4160, .inl z570))])) (va_Qv (S := Unit) (fun _ => True) (fun u => wB D cI cL (va_A [(h0, .inr (12, [.int 0, .int 1, .int 1, .ref q562, .ref q571, .ref q574, .ref q577, .ref q580, .ref q583, .ref q586, .int 0, .int (-1), .int 0, .int 0, .long 0, .ref q599, .ref q600, .ref q601, .ref q602])), (q562, .inr (13, [.int 0, .ref z565, .int 1, .int 1, .ref z566, .int 0, .int 0, .int 0, .ref z567, .int 0, .int 0, .int (-1), .int (-1), .int 0, .int (-1), .int 0, .ref z568, .ref z569])), (z569, .inl (cI, 4160, .inl z570))] sz) ((fun _ : Unit => [(h0, .inr (12, [.int 0, .int 1, .int 1, .ref q562, .ref q571, .ref q574, .ref q577, .ref q580, .ref q583, .ref q586, .int 0, .int (-1), .int 0, .int 0, .long 0, .ref q599, .ref q600, .ref q601, .ref q602]))]) u)) (va_A [(h0, .inr (12, [.int 0, .int 1, .int 1, .ref q562, .ref q571, .ref q574, .ref q577, .ref q580, .ref q583, .ref q586, .int 0, .int (-1), .int 0, .int 0, .long 0, .ref q599, .ref q600, .ref q601, .ref q602])), (q562, .inr (13, [.int 0, .ref z565, .int 1, .int 1, .ref z566, .int 0, .int 0, .int 0, .ref z567, .int 0, .int 0, .int (-1), .int (-1), .int 0, .int (-1), .int 0, .ref z568, .ref z569])), (z569, .inl (cI, 4160, .inl z570))] sz)) 0 0 (va_A [(h0, .inr (12, [.int 0, .int 1, .int 1, .ref q562, .ref q571, .ref q574, .ref q577, .ref q580, .ref q583, .ref q586, .int 0, .int (-1), .int 0, .int 0, .long 0, .ref q599, .ref q600, .ref q601, .ref q602])), (q562, .inr (13, [.int 0, .ref z565, .int 1, .int 1, .ref z566, .int 0, .int 0, .int 0, .ref z567, .int 0, .int 0, .int (-1), .int (-1), .int 0, .int (-1), .int 0, .ref z568, .ref z569])), (z569, .inl (cI, 4160, .inl z570))] sz) := by
  refine Met.ofW (cc := prog_14_method_10_code) (maxL := 2) (ret := none) (by decide) rfl ?_
  intro p e s m args below meth c s₁ B0 hml hv
  obtain ⟨rfl, hv⟩ := hv
  have hx := B0.exec
  have hb := B0.bytes
  have hr := B0.returns
  have hts := atoms_spec (ws := (Cond.code y_Mod_begin prog_14_method_10_code 2 none) :: tw) B0.pre
  have htw : ∀ w ∈ tw, w.before _ s = true := fun w hw => hts w (List.mem_cons_of_mem _ hw)
  have hown : s.vm.findClass "DrawingMachineModel" = some m.cls := findClass_of_methodNamed B0.named
  have hlocks := B0.notSynchronized
  obtain ⟨hC, hP, hD, hsz⟩ := wC_init hv
  subst hsz
  generalize hAe : va_A [(h0, .inr (12, [.int 0, .int 1, .int 1, .ref q562, .ref q571, .ref q574, .ref q577, .ref q580, .ref q583, .ref q586, .int 0, .int (-1), .int 0, .int 0, .long 0, .ref q599, .ref q600, .ref q601, .ref q602])), (q562, .inr (13, [.int 0, .ref z565, .int 1, .int 1, .ref z566, .int 0, .int 0, .int 0, .ref z567, .int 0, .int 0, .int (-1), .int (-1), .int 0, .int (-1), .int 0, .ref z568, .ref z569])), (z569, .inl (cI, 4160, .inl z570))] s.heap.size = A at hC hD ⊢
  have hS : va_S A s.heap s.heap [] := va_S.rf
  have hl := lv_entry ([.ref h0, .int 0]) (n := 2) (Nat.le_of_ble_eq_true rfl)
  rw [lg_entry_eq]
  generalize (lg_sl ([.ref h0, .int 0]) ++ List.replicate (2 - (lg_sl ([.ref h0, .int 0])).length) Slot.unset).toArray = ls at hl ⊢
  have hl : lv_has ls 2 [(0, .ref h0), (1, .int 0)] := hl
  refine lv_aload_n hx hb d_Mod_begin_0 rfl (lv_at hl 0 rfl) ?_
  refine lv_iconst (v := 0) hx hb d_Mod_begin_1 (by decide) ?_
  refine va_put (D := D) (ci := 12) (v := .int 0) (ty := .int) (C := R_Mod) (T := F_Mod) (N := 19) hx hb htw i_Mod t_Mod t_Mod_ok n_Mod hown hC.1 hP hD hS 0 rfl rfl 0 (by decide) (htw _ k626) (fun _ h9 => h9) rfl (by decide +kernel) rfl rfl (Nat.le_of_ble_eq_true rfl) d_Mod_begin_2 (fun H locs hP hD hS => ?_)
  have hP : va_P D classes [(h0, .inr (12, [.int 0, .int 1, .int 1, .ref q562, .ref q571, .ref q574, .ref q577, .ref q580, .ref q583, .ref q586, .int 0, .int (-1), .int 0, .int 0, .long 0, .ref q599, .ref q600, .ref q601, .ref q602])), (q562, .inr (13, [.int 0, .ref z565, .int 1, .int 1, .ref z566, .int 0, .int 0, .int 0, .ref z567, .int 0, .int 0, .int (-1), .int (-1), .int 0, .int (-1), .int 0, .ref z568, .ref z569])), (z569, .inl (cI, 4160, .inl z570))] H := hP
  have hD : va_D A [(h0, .inr (12, [.int 0, .int 1, .int 1, .ref q562, .ref q571, .ref q574, .ref q577, .ref q580, .ref q583, .ref q586, .int 0, .int (-1), .int 0, .int 0, .long 0, .ref q599, .ref q600, .ref q601, .ref q602])), (q562, .inr (13, [.int 0, .ref z565, .int 1, .int 1, .ref z566, .int 0, .int 0, .int 0, .ref z567, .int 0, .int 0, .int (-1), .int (-1), .int 0, .int (-1), .int 0, .ref z568, .ref z569])), (z569, .inl (cI, 4160, .inl z570))] := hD
  refine lv_aload_n hx hb d_Mod_begin_5 rfl (lv_at hl 0 rfl) ?_
  refine va_get (D := D) (ci := 12) (v := .ref q562) (C := R_Mod) (T := F_Mod) (N := 19) hx hb htw i_Mod hown hC.1 hP 0 rfl rfl 3 (by decide) (htw _ k521) (fun _ h9 => h9) rfl d_Mod_begin_6 ?_
  refine lv_iload_n hx hb d_Mod_begin_9 rfl (lv_at hl 1 rfl) ?_
  refine wc_v (wr := [(h0, .inr (12, [.int 0, .int 1, .int 1, .ref q562, .ref q571, .ref q574, .ref q577, .ref q580, .ref q583, .ref q586, .int 0, .int (-1), .int 0, .int 0, .long 0, .ref q599, .ref q600, .ref q601, .ref q602]))]) hC hP hD hS [1, 2] [0] rfl rfl (by decide) (by decide) (va_runV (As := [.int 0]) (rest := []) ⟨hx, hb, hml, hown, htw⟩ (c_Cbegin_0 l D cI cL B _ q562 z565 z566 z567 z568 z569 z570) (cwV 1 htw gV_Mod_118 rfl rfl rfl (by decide +kernel) ⟨Nat.le_of_ble_eq_true rfl, Nat.le_of_ble_eq_true rfl⟩) (wC_preV (As := [.int 0]) hC hP hD hS [1, 2] (by decide) rfl (q0 := 1) rfl rfl) rfl rfl hl.1 rfl (lv_room (Nat.le_of_ble_eq_true rfl)) d_Mod_begin_10 ⟨Nat.le_of_ble_eq_true rfl, Nat.le_of_ble_eq_true rfl⟩) (fun u753 H locs hw754 hP hD hS => ?_)
  have hP : va_P D classes [(h0, .inr (12, [.int 0, .int 1, .int 1, .ref q562, .ref q571, .ref q574, .ref q577, .ref q580, .ref q583, .ref q586, .int 0, .int (-1), .int 0, .int 0, .long 0, .ref q599, .ref q600, .ref q601, .ref q602]))] H := hP
  have hD : va_D A [(h0, .inr (12, [.int 0, .int 1, .int 1, .ref q562, .ref q571, .ref q574, .ref q577, .ref q580, .ref q583, .ref q586, .int 0, .int (-1), .int 0, .int 0, .long 0, .ref q599, .ref q600, .ref q601, .ref q602]))] := hD
  refine W.widen (k := 0) (n := 0) (by omega) (by omega) ?_
  refine lv_aload_n hx hb d_Mod_begin_13 rfl (lv_at hl 0 rfl) ?_
  refine lv_lconst (v := 0) hx hb d_Mod_begin_14 (by decide) ?_
  refine va_put (D := D) (ci := 12) (v := .long 0) (ty := .long) (C := R_Mod) (T := F_Mod) (N := 19) hx hb htw i_Mod t_Mod t_Mod_ok n_Mod hown hC.1 hP hD hS 0 rfl rfl 14 (by decide) (htw _ k660) (fun _ h9 => h9) rfl (by decide +kernel) rfl rfl (Nat.le_of_ble_eq_true rfl) d_Mod_begin_15 (fun H locs hP hD hS => ?_)
  have hP : va_P D classes [(h0, .inr (12, [.int 0, .int 1, .int 1, .ref q562, .ref q571, .ref q574, .ref q577, .ref q580, .ref q583, .ref q586, .int 0, .int (-1), .int 0, .int 0, .long 0, .ref q599, .ref q600, .ref q601, .ref q602]))] H := hP
  have hD : va_D A [(h0, .inr (12, [.int 0, .int 1, .int 1, .ref q562, .ref q571, .ref q574, .ref q577, .ref q580, .ref q583, .ref q586, .int 0, .int (-1), .int 0, .int 0, .long 0, .ref q599, .ref q600, .ref q601, .ref q602]))] := hD
  refine W.widen (k := 0) (n := 0) (Nat.le_of_ble_eq_true rfl) (Nat.le_of_ble_eq_true rfl) ?_
  have hP9 := hP.sub (ws' := [(h0, .inr (12, [.int 0, .int 1, .int 1, .ref q562, .ref q571, .ref q574, .ref q577, .ref q580, .ref q583, .ref q586, .int 0, .int (-1), .int 0, .int 0, .long 0, .ref q599, .ref q600, .ref q601, .ref q602]))]) [0] rfl
  have hD9 := hD.sub (ws' := [(h0, .inr (12, [.int 0, .int 1, .int 1, .ref q562, .ref q571, .ref q574, .ref q577, .ref q580, .ref q583, .ref q586, .int 0, .int (-1), .int 0, .int 0, .long 0, .ref q599, .ref q600, .ref q601, .ref q602]))]) [0] (by decide) rfl
  exact W.vret hx hb hr (fun t ht hW => ⟨⟨(), rfl, trivial, by rw [ht]; exact hP9, va_K.moved hW.alike hC.1, hD9⟩, hS.F ht⟩) hS.2.2 d_Mod_begin_18
