theorem d_DM_isSide_0 : decode prog_1_method_22_code 0 = .ok (.iload_n 0, 1) := by decide +kernel
theorem d_DM_isSide_1 : decode prog_1_method_22_code 1 = .ok (.iconst 1, 1) := by decide +kernel
theorem d_DM_isSide_2 : decode prog_1_method_22_code 2 = .ok (.if_icmp .lt 14, 3) := by decide +kernel
theorem d_DM_isSide_5 : decode prog_1_method_22_code 5 = .ok (.iload_n 0, 1) := by decide +kernel
theorem d_DM_isSide_6 : decode prog_1_method_22_code 6 = .ok (.sipush 128, 3) := by decide +kernel
theorem d_DM_isSide_9 : decode prog_1_method_22_code 9 = .ok (.if_icmp .gt 7, 3) := by decide +kernel
theorem d_DM_isSide_12 : decode prog_1_method_22_code 12 = .ok (.iconst 1, 1) := by decide +kernel
theorem d_DM_isSide_13 : decode prog_1_method_22_code 13 = .ok (.goto 4, 3) := by decide +kernel
theorem d_DM_isSide_17 : decode prog_1_method_22_code 17 = .ok (.ireturn, 1) := by decide +kernel
set_option maxHeartbeats 4000000 in
set_option maxRecDepth 100000 in
theorem c_isSide_t (l : Launch) (D : va_G) (cI cL : ClassId) (B sz : Nat) (x : Int32) (h1 : ¬ x < 1) (h2 : ¬ 128 < x) : Met l y_DM_isSide ((Cond.code y_DM_isSide prog_1_method_22_code 1 (some .boolean)) :: tw) ({ frames := 20, cells := 0, slots := 0, locals := 2000 }) (va_Pc [.int x] (wP D cI cL B sz [])) (va_Qi (S := Unit) (fun r u => r = 1) (fun u => wB D cI cL (va_A [] sz) ((fun _ : Unit => []) u)) (va_A [] sz)) 0 0 (va_A [] sz) := by
  refine Met.ofW (cc := prog_1_method_22_code) (maxL := 1) (ret := (some .boolean)) (by decide) rfl ?_
  intro p e s m args below meth c s₁ B0 hml hv
  obtain ⟨rfl, hv⟩ := hv
  have hx := B0.exec
  have hb := B0.bytes
  have hr := B0.returns
  have hts := atoms_spec (ws := (Cond.code y_DM_isSide prog_1_method_22_code 1 (some .boolean)) :: tw) B0.pre
  have htw : ∀ w ∈ tw, w.before _ s = true := fun w hw => hts w (List.mem_cons_of_mem _ hw)
  have hown : s.vm.findClass "DrawingMachine" = some m.cls := findClass_of_methodNamed B0.named
  have hlocks := B0.notSynchronized
  obtain ⟨hC, hP, hD, hsz⟩ := wC_init hv
  subst hsz
  generalize hAe : va_A [] s.heap.size = A at hC hD ⊢
  have hS : va_S A s.heap s.heap [] := va_S.rf
  have hl := lv_entry ([.int x]) (n := 1) (Nat.le_of_ble_eq_true rfl)
  rw [lg_entry_eq]
  generalize (lg_sl ([.int x]) ++ List.replicate (1 - (lg_sl ([.int x])).length) Slot.unset).toArray = ls at hl ⊢
  have hl : lv_has ls 1 [(0, .int x)] := hl
  refine lv_iload_n hx hb d_DM_isSide_0 rfl (lv_at hl 0 rfl) ?_
  refine lv_iconst (v := 1) hx hb d_DM_isSide_1 (by decide) ?_
  refine lv_icmp_lt (tgt := 16) hx hb d_DM_isSide_2 (by decide) (fun c_128 => absurd c_128 h1) (fun c_128 => ?_)
  refine lv_iload_n hx hb d_DM_isSide_5 rfl (lv_at hl 0 rfl) ?_
  refine lv_sipush (v := 128) hx hb d_DM_isSide_6 (by decide) ?_
  refine lv_icmp_gt (tgt := 16) hx hb d_DM_isSide_9 (by decide) (fun c_129 => absurd c_129 h2) (fun c_129 => ?_)
  refine lv_iconst (v := 1) hx hb d_DM_isSide_12 (by decide) ?_
  refine lv_goto (tgt := 17) hx hb d_DM_isSide_13 (by decide) ?_
  refine W.widen (k := 0) (n := 0) (Nat.le_of_ble_eq_true rfl) (Nat.le_of_ble_eq_true rfl) ?_
  have hP9 := hP.sub (ws' := []) [] rfl
  have hD9 := hD.sub (ws' := []) [] (by decide) rfl
  exact W.zret (v := 1) hx hb hr (by decide) (fun t ht hW => ⟨⟨1, (), rfl, rfl, by rw [ht]; exact hP9, va_K.moved hW.alike hC.1, hD9⟩, hS.F ht⟩) hS.2.2 d_DM_isSide_17

theorem d_DM_isSide_16 : decode prog_1_method_22_code 16 = .ok (.iconst 0, 1) := by decide +kernel
set_option maxHeartbeats 4000000 in
set_option maxRecDepth 100000 in
theorem c_isSide_f (l : Launch) (D : va_G) (cI cL : ClassId) (B sz : Nat) (x : Int32) (hbd : x < 1 ∨ 128 < x) : Met l y_DM_isSide ((Cond.code y_DM_isSide prog_1_method_22_code 1 (some .boolean)) :: tw) ({ frames := 20, cells := 0, slots := 0, locals := 2000 }) (va_Pc [.int x] (wP D cI cL B sz [])) (va_Qi (S := Unit) (fun r u => r = 0) (fun u => wB D cI cL (va_A [] sz) ((fun _ : Unit => []) u)) (va_A [] sz)) 0 0 (va_A [] sz) := by
  refine Met.ofW (cc := prog_1_method_22_code) (maxL := 1) (ret := (some .boolean)) (by decide) rfl ?_
  intro p e s m args below meth c s₁ B0 hml hv
  obtain ⟨rfl, hv⟩ := hv
  have hx := B0.exec
  have hb := B0.bytes
  have hr := B0.returns
  have hts := atoms_spec (ws := (Cond.code y_DM_isSide prog_1_method_22_code 1 (some .boolean)) :: tw) B0.pre
  have htw : ∀ w ∈ tw, w.before _ s = true := fun w hw => hts w (List.mem_cons_of_mem _ hw)
  have hown : s.vm.findClass "DrawingMachine" = some m.cls := findClass_of_methodNamed B0.named
  have hlocks := B0.notSynchronized
  obtain ⟨hC, hP, hD, hsz⟩ := wC_init hv
  subst hsz
  generalize hAe : va_A [] s.heap.size = A at hC hD ⊢
  have hS : va_S A s.heap s.heap [] := va_S.rf
  have hl := lv_entry ([.int x]) (n := 1) (Nat.le_of_ble_eq_true rfl)
  rw [lg_entry_eq]
  generalize (lg_sl ([.int x]) ++ List.replicate (1 - (lg_sl ([.int x])).length) Slot.unset).toArray = ls at hl ⊢
  have hl : lv_has ls 1 [(0, .int x)] := hl
  refine lv_iload_n hx hb d_DM_isSide_0 rfl (lv_at hl 0 rfl) ?_
  refine lv_iconst (v := 1) hx hb d_DM_isSide_1 (by decide) ?_
  refine lv_icmp_lt (tgt := 16) hx hb d_DM_isSide_2 (by decide) (fun c_130 => ?_) (fun c_130 => ?_)
  ·
    refine lv_iconst (v := 0) hx hb d_DM_isSide_16 (by decide) ?_
    refine W.widen (k := 0) (n := 0) (Nat.le_of_ble_eq_true rfl) (Nat.le_of_ble_eq_true rfl) ?_
    have hP9 := hP.sub (ws' := []) [] rfl
    have hD9 := hD.sub (ws' := []) [] (by decide) rfl
    exact W.zret (v := 0) hx hb hr (by decide) (fun t ht hW => ⟨⟨0, (), rfl, rfl, by rw [ht]; exact hP9, va_K.moved hW.alike hC.1, hD9⟩, hS.F ht⟩) hS.2.2 d_DM_isSide_17
  ·
    refine lv_iload_n hx hb d_DM_isSide_5 rfl (lv_at hl 0 rfl) ?_
    refine lv_sipush (v := 128) hx hb d_DM_isSide_6 (by decide) ?_
    refine lv_icmp_gt (tgt := 16) hx hb d_DM_isSide_9 (by decide) (fun c_131 => ?_) (fun c_131 => absurd hbd (not_or.mpr ⟨c_130, c_131⟩))
    refine lv_iconst (v := 0) hx hb d_DM_isSide_16 (by decide) ?_
    refine W.widen (k := 0) (n := 0) (Nat.le_of_ble_eq_true rfl) (Nat.le_of_ble_eq_true rfl) ?_
    have hP9 := hP.sub (ws' := []) [] rfl
    have hD9 := hD.sub (ws' := []) [] (by decide) rfl
    exact W.zret (v := 0) hx hb hr (by decide) (fun t ht hW => ⟨⟨0, (), rfl, rfl, by rw [ht]; exact hP9, va_K.moved hW.alike hC.1, hD9⟩, hS.F ht⟩) hS.2.2 d_DM_isSide_17

theorem d_DM_isTileSide_0 : decode prog_1_method_23_code 0 = .ok (.iload_n 0, 1) := by decide +kernel
theorem d_DM_isTileSide_1 : decode prog_1_method_23_code 1 = .ok (.bipush 8, 2) := by decide +kernel
theorem d_DM_isTileSide_3 : decode prog_1_method_23_code 3 = .ok (.if_icmp .eq 21, 3) := by decide +kernel
theorem d_DM_isTileSide_6 : decode prog_1_method_23_code 6 = .ok (.iload_n 0, 1) := by decide +kernel
theorem d_DM_isTileSide_7 : decode prog_1_method_23_code 7 = .ok (.bipush 16, 2) := by decide +kernel
theorem d_DM_isTileSide_9 : decode prog_1_method_23_code 9 = .ok (.if_icmp .eq 15, 3) := by decide +kernel
theorem d_DM_isTileSide_12 : decode prog_1_method_23_code 12 = .ok (.iload_n 0, 1) := by decide +kernel
theorem d_DM_isTileSide_13 : decode prog_1_method_23_code 13 = .ok (.bipush 32, 2) := by decide +kernel
theorem d_DM_isTileSide_15 : decode prog_1_method_23_code 15 = .ok (.if_icmp .eq 9, 3) := by decide +kernel
theorem d_DM_isTileSide_18 : decode prog_1_method_23_code 18 = .ok (.iload_n 0, 1) := by decide +kernel
theorem d_DM_isTileSide_19 : decode prog_1_method_23_code 19 = .ok (.bipush 64, 2) := by decide +kernel
theorem d_DM_isTileSide_21 : decode prog_1_method_23_code 21 = .ok (.if_icmp .ne 7, 3) := by decide +kernel
theorem d_DM_isTileSide_24 : decode prog_1_method_23_code 24 = .ok (.iconst 1, 1) := by decide +kernel
theorem d_DM_isTileSide_25 : decode prog_1_method_23_code 25 = .ok (.goto 4, 3) := by decide +kernel
theorem d_DM_isTileSide_29 : decode prog_1_method_23_code 29 = .ok (.ireturn, 1) := by decide +kernel
set_option maxHeartbeats 4000000 in
set_option maxRecDepth 100000 in
theorem c_isTile_t (l : Launch) (D : va_G) (cI cL : ClassId) (B sz : Nat) (x : Int32) (hs : x = 8 ∨ x = 16 ∨ x = 32 ∨ x = 64) : Met l y_DM_isTileSide ((Cond.code y_DM_isTileSide prog_1_method_23_code 1 (some .boolean)) :: tw) ({ frames := 20, cells := 0, slots := 0, locals := 2000 }) (va_Pc [.int x] (wP D cI cL B sz [])) (va_Qi (S := Unit) (fun r u => r = 1) (fun u => wB D cI cL (va_A [] sz) ((fun _ : Unit => []) u)) (va_A [] sz)) 0 0 (va_A [] sz) := by
  refine Met.ofW (cc := prog_1_method_23_code) (maxL := 1) (ret := (some .boolean)) (by decide) rfl ?_
  intro p e s m args below meth c s₁ B0 hml hv
  obtain ⟨rfl, hv⟩ := hv
  have hx := B0.exec
  have hb := B0.bytes
  have hr := B0.returns
  have hts := atoms_spec (ws := (Cond.code y_DM_isTileSide prog_1_method_23_code 1 (some .boolean)) :: tw) B0.pre
  have htw : ∀ w ∈ tw, w.before _ s = true := fun w hw => hts w (List.mem_cons_of_mem _ hw)
  have hown : s.vm.findClass "DrawingMachine" = some m.cls := findClass_of_methodNamed B0.named
  have hlocks := B0.notSynchronized
  obtain ⟨hC, hP, hD, hsz⟩ := wC_init hv
  subst hsz
  generalize hAe : va_A [] s.heap.size = A at hC hD ⊢
  have hS : va_S A s.heap s.heap [] := va_S.rf
  have hl := lv_entry ([.int x]) (n := 1) (Nat.le_of_ble_eq_true rfl)
  rw [lg_entry_eq]
  generalize (lg_sl ([.int x]) ++ List.replicate (1 - (lg_sl ([.int x])).length) Slot.unset).toArray = ls at hl ⊢
  have hl : lv_has ls 1 [(0, .int x)] := hl
  refine lv_iload_n hx hb d_DM_isTileSide_0 rfl (lv_at hl 0 rfl) ?_
  refine lv_bipush (v := 8) hx hb d_DM_isTileSide_1 (by decide) ?_
  refine lv_icmp_eq (tgt := 24) hx hb d_DM_isTileSide_3 (by decide) (fun c_132 => ?_) (fun c_132 => ?_)
  ·
    refine lv_iconst (v := 1) hx hb d_DM_isTileSide_24 (by decide) ?_
    refine lv_goto (tgt := 29) hx hb d_DM_isTileSide_25 (by decide) ?_
    refine W.widen (k := 0) (n := 0) (Nat.le_of_ble_eq_true rfl) (Nat.le_of_ble_eq_true rfl) ?_
    have hP9 := hP.sub (ws' := []) [] rfl
    have hD9 := hD.sub (ws' := []) [] (by decide) rfl
    exact W.zret (v := 1) hx hb hr (by decide) (fun t ht hW => ⟨⟨1, (), rfl, rfl, by rw [ht]; exact hP9, va_K.moved hW.alike hC.1, hD9⟩, hS.F ht⟩) hS.2.2 d_DM_isTileSide_29
  ·
    refine lv_iload_n hx hb d_DM_isTileSide_6 rfl (lv_at hl 0 rfl) ?_
    refine lv_bipush (v := 16) hx hb d_DM_isTileSide_7 (by decide) ?_
    refine lv_icmp_eq (tgt := 24) hx hb d_DM_isTileSide_9 (by decide) (fun c_133 => ?_) (fun c_133 => ?_)
    ·
      refine lv_iconst (v := 1) hx hb d_DM_isTileSide_24 (by decide) ?_
      refine lv_goto (tgt := 29) hx hb d_DM_isTileSide_25 (by decide) ?_
      refine W.widen (k := 0) (n := 0) (Nat.le_of_ble_eq_true rfl) (Nat.le_of_ble_eq_true rfl) ?_
      have hP9 := hP.sub (ws' := []) [] rfl
      have hD9 := hD.sub (ws' := []) [] (by decide) rfl
      exact W.zret (v := 1) hx hb hr (by decide) (fun t ht hW => ⟨⟨1, (), rfl, rfl, by rw [ht]; exact hP9, va_K.moved hW.alike hC.1, hD9⟩, hS.F ht⟩) hS.2.2 d_DM_isTileSide_29
    ·
      refine lv_iload_n hx hb d_DM_isTileSide_12 rfl (lv_at hl 0 rfl) ?_
      refine lv_bipush (v := 32) hx hb d_DM_isTileSide_13 (by decide) ?_
      refine lv_icmp_eq (tgt := 24) hx hb d_DM_isTileSide_15 (by decide) (fun c_134 => ?_) (fun c_134 => ?_)
      ·
        refine lv_iconst (v := 1) hx hb d_DM_isTileSide_24 (by decide) ?_
        refine lv_goto (tgt := 29) hx hb d_DM_isTileSide_25 (by decide) ?_
        refine W.widen (k := 0) (n := 0) (Nat.le_of_ble_eq_true rfl) (Nat.le_of_ble_eq_true rfl) ?_
        have hP9 := hP.sub (ws' := []) [] rfl
        have hD9 := hD.sub (ws' := []) [] (by decide) rfl
        exact W.zret (v := 1) hx hb hr (by decide) (fun t ht hW => ⟨⟨1, (), rfl, rfl, by rw [ht]; exact hP9, va_K.moved hW.alike hC.1, hD9⟩, hS.F ht⟩) hS.2.2 d_DM_isTileSide_29
      ·
        refine lv_iload_n hx hb d_DM_isTileSide_18 rfl (lv_at hl 0 rfl) ?_
        refine lv_bipush (v := 64) hx hb d_DM_isTileSide_19 (by decide) ?_
        refine lv_icmp_ne (tgt := 28) hx hb d_DM_isTileSide_21 (by decide) (fun c_135 => by rcases hs with h | h | h | h <;> contradiction) (fun c_135 => ?_)
        refine lv_iconst (v := 1) hx hb d_DM_isTileSide_24 (by decide) ?_
        refine lv_goto (tgt := 29) hx hb d_DM_isTileSide_25 (by decide) ?_
        refine W.widen (k := 0) (n := 0) (Nat.le_of_ble_eq_true rfl) (Nat.le_of_ble_eq_true rfl) ?_
        have hP9 := hP.sub (ws' := []) [] rfl
        have hD9 := hD.sub (ws' := []) [] (by decide) rfl
        exact W.zret (v := 1) hx hb hr (by decide) (fun t ht hW => ⟨⟨1, (), rfl, rfl, by rw [ht]; exact hP9, va_K.moved hW.alike hC.1, hD9⟩, hS.F ht⟩) hS.2.2 d_DM_isTileSide_29

theorem d_DM_isTileSide_28 : decode prog_1_method_23_code 28 = .ok (.iconst 0, 1) := by decide +kernel
set_option maxHeartbeats 4000000 in
set_option maxRecDepth 100000 in
theorem c_isTile_f (l : Launch) (D : va_G) (cI cL : ClassId) (B sz : Nat) (x : Int32) (hs : ¬ (x = 8 ∨ x = 16 ∨ x = 32 ∨ x = 64)) : Met l y_DM_isTileSide ((Cond.code y_DM_isTileSide prog_1_method_23_code 1 (some .boolean)) :: tw) ({ frames := 20, cells := 0, slots := 0, locals := 2000 }) (va_Pc [.int x] (wP D cI cL B sz [])) (va_Qi (S := Unit) (fun r u => r = 0) (fun u => wB D cI cL (va_A [] sz) ((fun _ : Unit => []) u)) (va_A [] sz)) 0 0 (va_A [] sz) := by
  refine Met.ofW (cc := prog_1_method_23_code) (maxL := 1) (ret := (some .boolean)) (by decide) rfl ?_
  intro p e s m args below meth c s₁ B0 hml hv
  obtain ⟨rfl, hv⟩ := hv
  have hx := B0.exec
  have hb := B0.bytes
  have hr := B0.returns
  have hts := atoms_spec (ws := (Cond.code y_DM_isTileSide prog_1_method_23_code 1 (some .boolean)) :: tw) B0.pre
  have htw : ∀ w ∈ tw, w.before _ s = true := fun w hw => hts w (List.mem_cons_of_mem _ hw)
  have hown : s.vm.findClass "DrawingMachine" = some m.cls := findClass_of_methodNamed B0.named
  have hlocks := B0.notSynchronized
  obtain ⟨hC, hP, hD, hsz⟩ := wC_init hv
  subst hsz
  generalize hAe : va_A [] s.heap.size = A at hC hD ⊢
  have hS : va_S A s.heap s.heap [] := va_S.rf
  have hl := lv_entry ([.int x]) (n := 1) (Nat.le_of_ble_eq_true rfl)
  rw [lg_entry_eq]
  generalize (lg_sl ([.int x]) ++ List.replicate (1 - (lg_sl ([.int x])).length) Slot.unset).toArray = ls at hl ⊢
  have hl : lv_has ls 1 [(0, .int x)] := hl
  refine lv_iload_n hx hb d_DM_isTileSide_0 rfl (lv_at hl 0 rfl) ?_
  refine lv_bipush (v := 8) hx hb d_DM_isTileSide_1 (by decide) ?_
  refine lv_icmp_eq (tgt := 24) hx hb d_DM_isTileSide_3 (by decide) (fun c_136 => absurd (Or.inl c_136) hs) (fun c_136 => ?_)
  refine lv_iload_n hx hb d_DM_isTileSide_6 rfl (lv_at hl 0 rfl) ?_
  refine lv_bipush (v := 16) hx hb d_DM_isTileSide_7 (by decide) ?_
  refine lv_icmp_eq (tgt := 24) hx hb d_DM_isTileSide_9 (by decide) (fun c_137 => absurd (Or.inr (Or.inl c_137)) hs) (fun c_137 => ?_)
  refine lv_iload_n hx hb d_DM_isTileSide_12 rfl (lv_at hl 0 rfl) ?_
  refine lv_bipush (v := 32) hx hb d_DM_isTileSide_13 (by decide) ?_
  refine lv_icmp_eq (tgt := 24) hx hb d_DM_isTileSide_15 (by decide) (fun c_138 => absurd (Or.inr (Or.inr (Or.inl c_138))) hs) (fun c_138 => ?_)
  refine lv_iload_n hx hb d_DM_isTileSide_18 rfl (lv_at hl 0 rfl) ?_
  refine lv_bipush (v := 64) hx hb d_DM_isTileSide_19 (by decide) ?_
  refine lv_icmp_ne (tgt := 28) hx hb d_DM_isTileSide_21 (by decide) (fun c_139 => ?_) (fun c_139 => absurd (Or.inr (Or.inr (Or.inr c_139))) hs)
  refine lv_iconst (v := 0) hx hb d_DM_isTileSide_28 (by decide) ?_
  refine W.widen (k := 0) (n := 0) (Nat.le_of_ble_eq_true rfl) (Nat.le_of_ble_eq_true rfl) ?_
  have hP9 := hP.sub (ws' := []) [] rfl
  have hD9 := hD.sub (ws' := []) [] (by decide) rfl
  exact W.zret (v := 0) hx hb hr (by decide) (fun t ht hW => ⟨⟨0, (), rfl, rfl, by rw [ht]; exact hP9, va_K.moved hW.alike hC.1, hD9⟩, hS.F ht⟩) hS.2.2 d_DM_isTileSide_29

theorem d_DM_word_0 : decode prog_1_method_3_code 0 = .ok (.iload_n 1, 1) := by decide +kernel
theorem d_DM_word_1 : decode prog_1_method_3_code 1 = .ok (.ifCond .lt 10, 3) := by decide +kernel
theorem d_DM_word_4 : decode prog_1_method_3_code 4 = .ok (.iload_n 1, 1) := by decide +kernel
theorem d_DM_word_5 : decode prog_1_method_3_code 5 = .ok (.sipush 4096, 3) := by decide +kernel
theorem d_DM_word_8 : decode prog_1_method_3_code 8 = .ok (.if_icmp .lt 13, 3) := by decide +kernel
theorem d_DM_word_21 : decode prog_1_method_3_code 21 = .ok (.aload_n 0, 1) := by decide +kernel
theorem d_DM_word_22 : decode prog_1_method_3_code 22 = .ok (.getfield 9, 3) := by decide +kernel
theorem d_DM_word_25 : decode prog_1_method_3_code 25 = .ok (.iload_n 1, 1) := by decide +kernel
theorem d_DM_word_26 : decode prog_1_method_3_code 26 = .ok (.iaload, 1) := by decide +kernel
theorem d_DM_word_27 : decode prog_1_method_3_code 27 = .ok (.istore_n 3, 1) := by decide +kernel
theorem d_DM_word_28 : decode prog_1_method_3_code 28 = .ok (.aload_n 0, 1) := by decide +kernel
theorem d_DM_word_29 : decode prog_1_method_3_code 29 = .ok (.getfield 9, 3) := by decide +kernel
theorem d_DM_word_32 : decode prog_1_method_3_code 32 = .ok (.iload_n 1, 1) := by decide +kernel
theorem d_DM_word_33 : decode prog_1_method_3_code 33 = .ok (.iload_n 2, 1) := by decide +kernel
theorem d_DM_word_34 : decode prog_1_method_3_code 34 = .ok (.iastore, 1) := by decide +kernel
theorem d_DM_word_35 : decode prog_1_method_3_code 35 = .ok (.iload_n 3, 1) := by decide +kernel
theorem d_DM_word_36 : decode prog_1_method_3_code 36 = .ok (.ireturn, 1) := by decide +kernel
set_option maxHeartbeats 4000000 in
set_option maxRecDepth 100000 in
theorem c_word_g (l : Launch) (D : va_G) (cI cL : ClassId) (B sz : Nat) (h0 : Nat) (q83 : Nat) (q84 : Nat) (q89 : Nat) (q95 : Nat) (q101 : Nat) (q107 : Nat) (q116 : Nat) (q120 : Nat) (q124 : Nat) (j : Nat) (v : Int32) (hj : j < 4096) : Met l y_DM_word ((Cond.code y_DM_word prog_1_method_3_code 4 (some .int)) :: tw) ({ frames := 50, cells := 0, slots := 0, locals := 5000 }) (va_Pc [.ref h0, .int (nI j), .int v] (wP D cI cL B sz [(h0, .inr (0, [.ref q83, .ref q84, .ref q89, .ref q95, .ref q101, .ref q107, .ref q116, .ref q120, .ref q124])), (q83, .inl (cI, 4096, .inl (fun _ => 0)))])) (va_Qi (S := Unit) (fun r u => r = 0) (fun u => wB D cI cL (va_A [(h0, .inr (0, [.ref q83, .ref q84, .ref q89, .ref q95, .ref q101, .ref q107, .ref q116, .ref q120, .ref q124])), (q83, .inl (cI, 4096, .inl (fun _ => 0)))] sz) ((fun _ : Unit => []) u)) (va_A [(h0, .inr (0, [.ref q83, .ref q84, .ref q89, .ref q95, .ref q101, .ref q107, .ref q116, .ref q120, .ref q124])), (q83, .inl (cI, 4096, .inl (fun _ => 0)))] sz)) 0 0 (va_A [(h0, .inr (0, [.ref q83, .ref q84, .ref q89, .ref q95, .ref q101, .ref q107, .ref q116, .ref q120, .ref q124])), (q83, .inl (cI, 4096, .inl (fun _ => 0)))] sz) := by
  refine Met.ofW (cc := prog_1_method_3_code) (maxL := 4) (ret := (some .int)) (by decide) rfl ?_
  intro p e s m args below meth c s₁ B0 hml hv
  obtain ⟨rfl, hv⟩ := hv
  have hx := B0.exec
  have hb := B0.bytes
  have hr := B0.returns
  have hts := atoms_spec (ws := (Cond.code y_DM_word prog_1_method_3_code 4 (some .int)) :: tw) B0.pre
  have htw : ∀ w ∈ tw, w.before _ s = true := fun w hw => hts w (List.mem_cons_of_mem _ hw)
  have hown : s.vm.findClass "DrawingMachine" = some m.cls := findClass_of_methodNamed B0.named
  have hlocks := B0.notSynchronized
  obtain ⟨hC, hP, hD, hsz⟩ := wC_init hv
  subst hsz
  generalize hAe : va_A [(h0, .inr (0, [.ref q83, .ref q84, .ref q89, .ref q95, .ref q101, .ref q107, .ref q116, .ref q120, .ref q124])), (q83, .inl (cI, 4096, .inl (fun _ => 0)))] s.heap.size = A at hC hD ⊢
  have hS : va_S A s.heap s.heap [] := va_S.rf
  have hl := lv_entry ([.ref h0, .int (nI j), .int v]) (n := 4) (Nat.le_of_ble_eq_true rfl)
  rw [lg_entry_eq]
  generalize (lg_sl ([.ref h0, .int (nI j), .int v]) ++ List.replicate (4 - (lg_sl ([.ref h0, .int (nI j), .int v])).length) Slot.unset).toArray = ls at hl ⊢
  have hl : lv_has ls 4 [(0, .ref h0), (1, .int (nI j)), (2, .int v)] := hl
  refine lv_iload_n hx hb d_DM_word_0 rfl (lv_at hl 1 rfl) ?_
  refine lv_if_lt (tgt := 11) hx hb d_DM_word_1 (by decide) (fun c_140 => absurd c_140 (nI_pos (by omega))) (fun c_140 => ?_)
  refine lv_iload_n hx hb d_DM_word_4 rfl (lv_at hl 1 rfl) ?_
  refine lv_sipush (v := 4096) hx hb d_DM_word_5 (by decide) ?_
  refine lv_icmp_lt (tgt := 21) hx hb d_DM_word_8 (by decide) (fun c_141 => ?_) (fun c_141 => absurd (nI_lt (a := j) (b := 4096) (by omega) (by omega)) c_141)
  refine lv_aload_n hx hb d_DM_word_21 rfl (lv_at hl 0 rfl) ?_
  refine va_get (D := D) (ci := 0) (v := .ref q83) (C := R_DM) (T := F_DM) (N := 9) hx hb htw i_DM hown hC.1 hP 0 rfl rfl 0 (by decide) (htw _ k244) (fun _ h9 => h9) rfl d_DM_word_22 ?_
  refine lv_iload_n hx hb d_DM_word_25 rfl (lv_at hl 1 rfl) ?_
  refine va_iald hx hb hC.1 hP 1 0 rfl rfl (vp_in_nI (by omega) (by omega)) d_DM_word_26 ?_
  refine wi_c (v := 0) rfl ?_
  refine lv_istore_n (lv' := [(3, .int 0), (0, .ref h0), (1, .int (nI j)), (2, .int v)]) hx hb d_DM_word_27 rfl hl (by decide) rfl (fun ls hl => ?_)
  refine lv_aload_n hx hb d_DM_word_28 rfl (lv_at hl 1 rfl) ?_
  refine va_get (D := D) (ci := 0) (v := .ref q83) (C := R_DM) (T := F_DM) (N := 9) hx hb htw i_DM hown hC.1 hP 0 rfl rfl 0 (by decide) (htw _ k244) (fun _ h9 => h9) rfl d_DM_word_29 ?_
  refine lv_iload_n hx hb d_DM_word_32 rfl (lv_at hl 2 rfl) ?_
  refine lv_iload_n hx hb d_DM_word_33 rfl (lv_at hl 3 rfl) ?_
  refine va_iast hx hb hC.1 hP hD hS 1 0 rfl rfl (vp_in_nI (by omega) (by omega)) d_DM_word_34 (fun H locs hP hD hS => ?_)
  have hP : va_P D classes [(h0, .inr (0, [.ref q83, .ref q84, .ref q89, .ref q95, .ref q101, .ref q107, .ref q116, .ref q120, .ref q124])), (q83, .inl (cI, 4096, .inl (upd (fun _ => 0) ((nI j) : Int32).toNatClampNeg v)))] H := hP
  have hD : va_D A [(h0, .inr (0, [.ref q83, .ref q84, .ref q89, .ref q95, .ref q101, .ref q107, .ref q116, .ref q120, .ref q124])), (q83, .inl (cI, 4096, .inl (upd (fun _ => 0) ((nI j) : Int32).toNatClampNeg v)))] := hD
  generalize upd (fun _ => 0) ((nI j) : Int32).toNatClampNeg v = f142 at hP hD
  refine lv_iload_n hx hb d_DM_word_35 rfl (lv_at hl 0 rfl) ?_
  refine W.widen (k := 0) (n := 0) (Nat.le_of_ble_eq_true rfl) (Nat.le_of_ble_eq_true rfl) ?_
  have hP9 := hP.sub (ws' := []) [] rfl
  have hD9 := hD.sub (ws' := []) [] (by decide) rfl
  exact W.iret (v := 0) hx hb hr (fun t ht hW => ⟨⟨0, (), rfl, rfl, by rw [ht]; exact hP9, va_K.moved hW.alike hC.1, hD9⟩, hS.F ht⟩) hS.2.2 d_DM_word_36

theorem d_DM_look_0 : decode prog_1_method_4_code 0 = .ok (.iload_n 1, 1) := by decide +kernel
theorem d_DM_look_1 : decode prog_1_method_4_code 1 = .ok (.ifCond .lt 10, 3) := by decide +kernel
theorem d_DM_look_4 : decode prog_1_method_4_code 4 = .ok (.iload_n 1, 1) := by decide +kernel
theorem d_DM_look_5 : decode prog_1_method_4_code 5 = .ok (.sipush 4096, 3) := by decide +kernel
theorem d_DM_look_8 : decode prog_1_method_4_code 8 = .ok (.if_icmp .lt 13, 3) := by decide +kernel
theorem d_DM_look_21 : decode prog_1_method_4_code 21 = .ok (.aload_n 0, 1) := by decide +kernel
theorem d_DM_look_22 : decode prog_1_method_4_code 22 = .ok (.getfield 9, 3) := by decide +kernel
theorem d_DM_look_25 : decode prog_1_method_4_code 25 = .ok (.iload_n 1, 1) := by decide +kernel
theorem d_DM_look_26 : decode prog_1_method_4_code 26 = .ok (.iaload, 1) := by decide +kernel
theorem d_DM_look_27 : decode prog_1_method_4_code 27 = .ok (.ireturn, 1) := by decide +kernel
set_option maxHeartbeats 4000000 in
set_option maxRecDepth 100000 in
theorem c_look_g (l : Launch) (D : va_G) (cI cL : ClassId) (B sz : Nat) (h0 : Nat) (q83 : Nat) (q84 : Nat) (q89 : Nat) (q95 : Nat) (q101 : Nat) (q107 : Nat) (q116 : Nat) (q120 : Nat) (q124 : Nat) (j : Nat) (hj : j < 4096) : Met l y_DM_look ((Cond.code y_DM_look prog_1_method_4_code 2 (some .int)) :: tw) ({ frames := 50, cells := 0, slots := 0, locals := 5000 }) (va_Pc [.ref h0, .int (nI j)] (wP D cI cL B sz [(h0, .inr (0, [.ref q83, .ref q84, .ref q89, .ref q95, .ref q101, .ref q107, .ref q116, .ref q120, .ref q124])), (q83, .inl (cI, 4096, .inl (fun _ => 0)))])) (va_Qi (S := Unit) (fun r u => r = 0) (fun u => wB D cI cL (va_A [(h0, .inr (0, [.ref q83, .ref q84, .ref q89, .ref q95, .ref q101, .ref q107, .ref q116, .ref q120, .ref q124])), (q83, .inl (cI, 4096, .inl (fun _ => 0)))] sz) ((fun _ : Unit => []) u)) (va_A [(h0, .inr (0, [.ref q83, .ref q84, .ref q89, .ref q95, .ref q101, .ref q107, .ref q116, .ref q120, .ref q124])), (q83, .inl (cI, 4096, .inl (fun _ => 0)))] sz)) 0 0 (va_A [(h0, .inr (0, [.ref q83, .ref q84, .ref q89, .ref q95, .ref q101, .ref q107, .ref q116, .ref q120, .ref q124])), (q83, .inl (cI, 4096, .inl (fun _ => 0)))] sz) := by
  refine Met.ofW (cc := prog_1_method_4_code) (maxL := 2) (ret := (some .int)) (by decide) rfl ?_
  intro p e s m args below meth c s₁ B0 hml hv
  obtain ⟨rfl, hv⟩ := hv
  have hx := B0.exec
  have hb := B0.bytes
  have hr := B0.returns
  have hts := atoms_spec (ws := (Cond.code y_DM_look prog_1_method_4_code 2 (some .int)) :: tw) B0.pre
  have htw : ∀ w ∈ tw, w.before _ s = true := fun w hw => hts w (List.mem_cons_of_mem _ hw)
  have hown : s.vm.findClass "DrawingMachine" = some m.cls := findClass_of_methodNamed B0.named
  have hlocks := B0.notSynchronized
  obtain ⟨hC, hP, hD, hsz⟩ := wC_init hv
  subst hsz
  generalize hAe : va_A [(h0, .inr (0, [.ref q83, .ref q84, .ref q89, .ref q95, .ref q101, .ref q107, .ref q116, .ref q120, .ref q124])), (q83, .inl (cI, 4096, .inl (fun _ => 0)))] s.heap.size = A at hC hD ⊢
  have hS : va_S A s.heap s.heap [] := va_S.rf
  have hl := lv_entry ([.ref h0, .int (nI j)]) (n := 2) (Nat.le_of_ble_eq_true rfl)
  rw [lg_entry_eq]
  generalize (lg_sl ([.ref h0, .int (nI j)]) ++ List.replicate (2 - (lg_sl ([.ref h0, .int (nI j)])).length) Slot.unset).toArray = ls at hl ⊢
  have hl : lv_has ls 2 [(0, .ref h0), (1, .int (nI j))] := hl
  refine lv_iload_n hx hb d_DM_look_0 rfl (lv_at hl 1 rfl) ?_
  refine lv_if_lt (tgt := 11) hx hb d_DM_look_1 (by decide) (fun c_143 => absurd c_143 (nI_pos (by omega))) (fun c_143 => ?_)
  refine lv_iload_n hx hb d_DM_look_4 rfl (lv_at hl 1 rfl) ?_
  refine lv_sipush (v := 4096) hx hb d_DM_look_5 (by decide) ?_
  refine lv_icmp_lt (tgt := 21) hx hb d_DM_look_8 (by decide) (fun c_144 => ?_) (fun c_144 => absurd (nI_lt (a := j) (b := 4096) (by omega) (by omega)) c_144)
  refine lv_aload_n hx hb d_DM_look_21 rfl (lv_at hl 0 rfl) ?_
  refine va_get (D := D) (ci := 0) (v := .ref q83) (C := R_DM) (T := F_DM) (N := 9) hx hb htw i_DM hown hC.1 hP 0 rfl rfl 0 (by decide) (htw _ k244) (fun _ h9 => h9) rfl d_DM_look_22 ?_
  refine lv_iload_n hx hb d_DM_look_25 rfl (lv_at hl 1 rfl) ?_
  refine va_iald hx hb hC.1 hP 1 0 rfl rfl (vp_in_nI (by omega) (by omega)) d_DM_look_26 ?_
  refine wi_c (v := 0) rfl ?_
  refine W.widen (k := 0) (n := 0) (Nat.le_of_ble_eq_true rfl) (Nat.le_of_ble_eq_true rfl) ?_
  have hP9 := hP.sub (ws' := []) [] rfl
  have hD9 := hD.sub (ws' := []) [] (by decide) rfl
  exact W.iret (v := 0) hx hb hr (fun t ht hW => ⟨⟨0, (), rfl, rfl, by rw [ht]; exact hP9, va_K.moved hW.alike hC.1, hD9⟩, hS.F ht⟩) hS.2.2 d_DM_look_27

theorem d_DM_word_11 : decode prog_1_method_3_code 11 = .ok (.new 85, 3) := by decide +kernel
theorem d_DM_word_14 : decode prog_1_method_3_code 14 = .ok (.dup, 1) := by decide +kernel
theorem d_DM_word_15 : decode prog_1_method_3_code 15 = .ok (.ldc 87, 2) := by decide +kernel
theorem d_DM_word_17 : decode prog_1_method_3_code 17 = .ok (.invokespecial 89, 3) := by decide +kernel
theorem d_DM_word_20 : decode prog_1_method_3_code 20 = .ok (.athrow, 1) := by decide +kernel
set_option maxHeartbeats 4000000 in
set_option maxRecDepth 100000 in
theorem c_word_b (l : Launch) (hfl : l.stackTraces = false) (D : va_G) (cI cL : ClassId) (B sz : Nat) (h0 : Nat) (x : Int32) (v : Int32) (hbd : x < 0 ∨ 4096 ≤ x) : tq_Met l y_DM_word ((Cond.code y_DM_word prog_1_method_3_code 4 (some .int)) :: tw) ({ frames := 50, cells := 1, slots := 6, locals := 5000 }) (va_Pc [.ref h0, .int x, .int v] (wP D cI cL B sz [])) (tq_Q "java/lang/IndexOutOfBoundsException") 1 6 := by
  refine tq_ofW (cc := prog_1_method_3_code) (maxL := 4) (ret := (some .int)) (by decide) rfl ?_
  intro p e s m args below meth c s₁ B0 hml hv
  obtain ⟨rfl, hv⟩ := hv
  have hx := B0.exec
  have hb := B0.bytes
  have hr := B0.returns
  have hts := atoms_spec (ws := (Cond.code y_DM_word prog_1_method_3_code 4 (some .int)) :: tw) B0.pre
  have htw : ∀ w ∈ tw, w.before _ s = true := fun w hw => hts w (List.mem_cons_of_mem _ hw)
  have hown : s.vm.findClass "DrawingMachine" = some m.cls := findClass_of_methodNamed B0.named
  have hlocks := B0.notSynchronized
  obtain ⟨hC, hP, hD, hsz⟩ := wC_init hv
  subst hsz
  generalize hAe : va_A [] s.heap.size = A at hC hD
  have hS : va_S A s.heap s.heap [] := va_S.rf
  have hl := lv_entry ([.ref h0, .int x, .int v]) (n := 4) (Nat.le_of_ble_eq_true rfl)
  rw [lg_entry_eq]
  generalize (lg_sl ([.ref h0, .int x, .int v]) ++ List.replicate (4 - (lg_sl ([.ref h0, .int x, .int v])).length) Slot.unset).toArray = ls at hl ⊢
  have hl : lv_has ls 4 [(0, .ref h0), (1, .int x), (2, .int v)] := hl
  have htr : e.platform.stackTraces = false := by rw [(Stand.of_body B0).admits.platform]; exact hfl
  have hout : c.exceptionTable.isEmpty = true := BodyLoose.noHandlers B0 (hts _ List.mem_cons_self)
  have hA0 : ∀ q, A q → s.heap.size ≤ q := by
    intro q h
    rw [← hAe] at h
    rcases h with ⟨k, e, h⟩ | h
    · simp at h
    · exact h
  refine lv_iload_n hx hb d_DM_word_0 rfl (lv_at hl 1 rfl) ?_
  refine lv_if_lt (tgt := 11) hx hb d_DM_word_1 (by decide) (fun c_145 => ?_) (fun c_145 => ?_)
  ·
    exact tq_throwH hx hb htr hown (by decide) (by decide) (own_use htw hC own_IO) (htw _ k289) (htw _ k886) (hC.2.2.1.2.2.2.1 (87, "no such word") (by decide)) (hml.trans hl.1.symm) hout hlocks d_DM_word_11 d_DM_word_14 d_DM_word_15 d_DM_word_17 d_DM_word_20 (Nat.le_of_ble_eq_true rfl) (Nat.le_of_ble_eq_true rfl) (Nat.le_of_ble_eq_true rfl) (Nat.le_of_ble_eq_true rfl) hS.1 (fun q hq => hA0 _ (hS.2.2 q hq))
  ·
    refine lv_iload_n hx hb d_DM_word_4 rfl (lv_at hl 1 rfl) ?_
    refine lv_sipush (v := 4096) hx hb d_DM_word_5 (by decide) ?_
    refine lv_icmp_lt (tgt := 21) hx hb d_DM_word_8 (by decide) (fun c_146 => absurd hbd (not_or.mpr ⟨c_145, Int32.not_le.mpr c_146⟩)) (fun c_146 => ?_)
    exact tq_throwH hx hb htr hown (by decide) (by decide) (own_use htw hC own_IO) (htw _ k289) (htw _ k886) (hC.2.2.1.2.2.2.1 (87, "no such word") (by decide)) (hml.trans hl.1.symm) hout hlocks d_DM_word_11 d_DM_word_14 d_DM_word_15 d_DM_word_17 d_DM_word_20 (Nat.le_of_ble_eq_true rfl) (Nat.le_of_ble_eq_true rfl) (Nat.le_of_ble_eq_true rfl) (Nat.le_of_ble_eq_true rfl) hS.1 (fun q hq => hA0 _ (hS.2.2 q hq))

theorem d_DM_look_11 : decode prog_1_method_4_code 11 = .ok (.new 85, 3) := by decide +kernel
theorem d_DM_look_14 : decode prog_1_method_4_code 14 = .ok (.dup, 1) := by decide +kernel
theorem d_DM_look_15 : decode prog_1_method_4_code 15 = .ok (.ldc 87, 2) := by decide +kernel
theorem d_DM_look_17 : decode prog_1_method_4_code 17 = .ok (.invokespecial 89, 3) := by decide +kernel
theorem d_DM_look_20 : decode prog_1_method_4_code 20 = .ok (.athrow, 1) := by decide +kernel
set_option maxHeartbeats 4000000 in
set_option maxRecDepth 100000 in
theorem c_look_b (l : Launch) (hfl : l.stackTraces = false) (D : va_G) (cI cL : ClassId) (B sz : Nat) (h0 : Nat) (x : Int32) (hbd : x < 0 ∨ 4096 ≤ x) : tq_Met l y_DM_look ((Cond.code y_DM_look prog_1_method_4_code 2 (some .int)) :: tw) ({ frames := 50, cells := 1, slots := 6, locals := 5000 }) (va_Pc [.ref h0, .int x] (wP D cI cL B sz [])) (tq_Q "java/lang/IndexOutOfBoundsException") 1 6 := by
  refine tq_ofW (cc := prog_1_method_4_code) (maxL := 2) (ret := (some .int)) (by decide) rfl ?_
  intro p e s m args below meth c s₁ B0 hml hv
  obtain ⟨rfl, hv⟩ := hv
  have hx := B0.exec
  have hb := B0.bytes
  have hr := B0.returns
  have hts := atoms_spec (ws := (Cond.code y_DM_look prog_1_method_4_code 2 (some .int)) :: tw) B0.pre
  have htw : ∀ w ∈ tw, w.before _ s = true := fun w hw => hts w (List.mem_cons_of_mem _ hw)
  have hown : s.vm.findClass "DrawingMachine" = some m.cls := findClass_of_methodNamed B0.named
  have hlocks := B0.notSynchronized
  obtain ⟨hC, hP, hD, hsz⟩ := wC_init hv
  subst hsz
  generalize hAe : va_A [] s.heap.size = A at hC hD
  have hS : va_S A s.heap s.heap [] := va_S.rf
  have hl := lv_entry ([.ref h0, .int x]) (n := 2) (Nat.le_of_ble_eq_true rfl)
  rw [lg_entry_eq]
  generalize (lg_sl ([.ref h0, .int x]) ++ List.replicate (2 - (lg_sl ([.ref h0, .int x])).length) Slot.unset).toArray = ls at hl ⊢
  have hl : lv_has ls 2 [(0, .ref h0), (1, .int x)] := hl
  have htr : e.platform.stackTraces = false := by rw [(Stand.of_body B0).admits.platform]; exact hfl
  have hout : c.exceptionTable.isEmpty = true := BodyLoose.noHandlers B0 (hts _ List.mem_cons_self)
  have hA0 : ∀ q, A q → s.heap.size ≤ q := by
    intro q h
    rw [← hAe] at h
    rcases h with ⟨k, e, h⟩ | h
    · simp at h
    · exact h
  refine lv_iload_n hx hb d_DM_look_0 rfl (lv_at hl 1 rfl) ?_
  refine lv_if_lt (tgt := 11) hx hb d_DM_look_1 (by decide) (fun c_147 => ?_) (fun c_147 => ?_)
  ·
    exact tq_throwH hx hb htr hown (by decide) (by decide) (own_use htw hC own_IO) (htw _ k289) (htw _ k886) (hC.2.2.1.2.2.2.1 (87, "no such word") (by decide)) (hml.trans hl.1.symm) hout hlocks d_DM_look_11 d_DM_look_14 d_DM_look_15 d_DM_look_17 d_DM_look_20 (Nat.le_of_ble_eq_true rfl) (Nat.le_of_ble_eq_true rfl) (Nat.le_of_ble_eq_true rfl) (Nat.le_of_ble_eq_true rfl) hS.1 (fun q hq => hA0 _ (hS.2.2 q hq))
  ·
    refine lv_iload_n hx hb d_DM_look_4 rfl (lv_at hl 1 rfl) ?_
    refine lv_sipush (v := 4096) hx hb d_DM_look_5 (by decide) ?_
    refine lv_icmp_lt (tgt := 21) hx hb d_DM_look_8 (by decide) (fun c_148 => absurd hbd (not_or.mpr ⟨c_147, Int32.not_le.mpr c_148⟩)) (fun c_148 => ?_)
    exact tq_throwH hx hb htr hown (by decide) (by decide) (own_use htw hC own_IO) (htw _ k289) (htw _ k886) (hC.2.2.1.2.2.2.1 (87, "no such word") (by decide)) (hml.trans hl.1.symm) hout hlocks d_DM_look_11 d_DM_look_14 d_DM_look_15 d_DM_look_17 d_DM_look_20 (Nat.le_of_ble_eq_true rfl) (Nat.le_of_ble_eq_true rfl) (Nat.le_of_ble_eq_true rfl) (Nat.le_of_ble_eq_true rfl) hS.1 (fun q hq => hA0 _ (hS.2.2 q hq))

theorem d_Cou_makeRoom_0 : decode prog_3_method_2_code 0 = .ok (.aload_n 0, 1) := by decide +kernel
theorem d_Cou_makeRoom_1 : decode prog_3_method_2_code 1 = .ok (.getfield 31, 3) := by decide +kernel
theorem d_Cou_makeRoom_4 : decode prog_3_method_2_code 4 = .ok (.iload_n 1, 1) := by decide +kernel
theorem d_Cou_makeRoom_5 : decode prog_3_method_2_code 5 = .ok (.iadd, 1) := by decide +kernel
theorem d_Cou_makeRoom_6 : decode prog_3_method_2_code 6 = .ok (.aload_n 0, 1) := by decide +kernel
theorem d_Cou_makeRoom_7 : decode prog_3_method_2_code 7 = .ok (.getfield 25, 3) := by decide +kernel
theorem d_Cou_makeRoom_10 : decode prog_3_method_2_code 10 = .ok (.arraylength, 1) := by decide +kernel
theorem d_Cou_makeRoom_11 : decode prog_3_method_2_code 11 = .ok (.if_icmp .le 27, 3) := by decide +kernel
theorem d_Cou_makeRoom_38 : decode prog_3_method_2_code 38 = .ok (.return_, 1) := by decide +kernel
set_option maxHeartbeats 4000000 in
set_option maxRecDepth 100000 in
theorem c_makeRoom_0 (l : Launch) (D : va_G) (cI cL : ClassId) (B sz : Nat) (q83 : Nat) (q95 : Nat) (z98 : Nat) (z99 : Nat) (z100 : Nat) (f : Nat → Int32) : Met l y_Cou_makeRoom ((Cond.code y_Cou_makeRoom prog_3_method_2_code 2 none) :: tw) ({ frames := 30, cells := 0, slots := 0, locals := 3000 }) (va_Pc [.ref q95, .int 5] (wP D cI cL B sz [(q95, .inr (3, [.ref z98, .int 0, .int 0, .int 0, .int 0, .int 0, .int (-1), .int (-1), .int 0, .long 0, .ref q83, .ref z99, .ref z100, .int 0, .int 0])), (z100, .inl (cI, 64, .inl f))])) (va_Qv (S := Unit) (fun _ => True) (fun u => wB D cI cL (va_A [(q95, .inr (3, [.ref z98, .int 0, .int 0, .int 0, .int 0, .int 0, .int (-1), .int (-1), .int 0, .long 0, .ref q83, .ref z99, .ref z100, .int 0, .int 0])), (z100, .inl (cI, 64, .inl f))] sz) ((fun _ : Unit => [(q95, .inr (3, [.ref z98, .int 0, .int 0, .int 0, .int 0, .int 0, .int (-1), .int (-1), .int 0, .long 0, .ref q83, .ref z99, .ref z100, .int 0, .int 0])), (z100, .inl (cI, 64, .inl f))]) u)) (va_A [(q95, .inr (3, [.ref z98, .int 0, .int 0, .int 0, .int 0, .int 0, .int (-1), .int (-1), .int 0, .long 0, .ref q83, .ref z99, .ref z100, .int 0, .int 0])), (z100, .inl (cI, 64, .inl f))] sz)) 0 0 (va_A [(q95, .inr (3, [.ref z98, .int 0, .int 0, .int 0, .int 0, .int 0, .int (-1), .int (-1), .int 0, .long 0, .ref q83, .ref z99, .ref z100, .int 0, .int 0])), (z100, .inl (cI, 64, .inl f))] sz) := by
  refine Met.ofW (cc := prog_3_method_2_code) (maxL := 2) (ret := none) (by decide) rfl ?_
  intro p e s m args below meth c s₁ B0 hml hv
  obtain ⟨rfl, hv⟩ := hv
  have hx := B0.exec
  have hb := B0.bytes
  have hr := B0.returns
  have hts := atoms_spec (ws := (Cond.code y_Cou_makeRoom prog_3_method_2_code 2 none) :: tw) B0.pre
  have htw : ∀ w ∈ tw, w.before _ s = true := fun w hw => hts w (List.mem_cons_of_mem _ hw)
  have hown : s.vm.findClass "DrawingMachine$Course" = some m.cls := findClass_of_methodNamed B0.named
  have hlocks := B0.notSynchronized
  obtain ⟨hC, hP, hD, hsz⟩ := wC_init hv
  subst hsz
  generalize hAe : va_A [(q95, .inr (3, [.ref z98, .int 0, .int 0, .int 0, .int 0, .int 0, .int (-1), .int (-1), .int 0, .long 0, .ref q83, .ref z99, .ref z100, .int 0, .int 0])), (z100, .inl (cI, 64, .inl f))] s.heap.size = A at hC hD ⊢
  have hS : va_S A s.heap s.heap [] := va_S.rf
  have hl := lv_entry ([.ref q95, .int 5]) (n := 2) (Nat.le_of_ble_eq_true rfl)
  rw [lg_entry_eq]
  generalize (lg_sl ([.ref q95, .int 5]) ++ List.replicate (2 - (lg_sl ([.ref q95, .int 5])).length) Slot.unset).toArray = ls at hl ⊢
  have hl : lv_has ls 2 [(0, .ref q95), (1, .int 5)] := hl
  refine lv_aload_n hx hb d_Cou_makeRoom_0 rfl (lv_at hl 0 rfl) ?_
  refine va_get (D := D) (ci := 3) (v := .int 0) (C := R_Cou) (T := F_Cou) (N := 15) hx hb htw i_Cou hown hC.1 hP 0 rfl rfl 1 (by decide) (htw _ k415) (fun _ h9 => h9) rfl d_Cou_makeRoom_1 ?_
  refine lv_iload_n hx hb d_Cou_makeRoom_4 rfl (lv_at hl 1 rfl) ?_
  refine lv_iadd hx hb d_Cou_makeRoom_5 ?_
  refine wi_c (v := 5) (by decide) ?_
  refine lv_aload_n hx hb d_Cou_makeRoom_6 rfl (lv_at hl 0 rfl) ?_
  refine va_get (D := D) (ci := 3) (v := .ref z100) (C := R_Cou) (T := F_Cou) (N := 15) hx hb htw i_Cou hown hC.1 hP 0 rfl rfl 12 (by decide) (htw _ k413) (fun _ h9 => h9) rfl d_Cou_makeRoom_7 ?_
  refine va_alen hx hb hC.1 hP 1 0 rfl (ty := .int) rfl (v := 64) (show Int32.ofNat 64 = 64 from by decide) d_Cou_makeRoom_10 ?_
  refine lv_icmp_le (tgt := 38) hx hb d_Cou_makeRoom_11 (by decide) (fun c_149 => ?_) (fun c_149 => absurd c_149 (by decide))
  refine W.widen (k := 0) (n := 0) (Nat.le_of_ble_eq_true rfl) (Nat.le_of_ble_eq_true rfl) ?_
  have hP9 := hP.sub (ws' := [(q95, .inr (3, [.ref z98, .int 0, .int 0, .int 0, .int 0, .int 0, .int (-1), .int (-1), .int 0, .long 0, .ref q83, .ref z99, .ref z100, .int 0, .int 0])), (z100, .inl (cI, 64, .inl f))]) [0, 1] rfl
  have hD9 := hD.sub (ws' := [(q95, .inr (3, [.ref z98, .int 0, .int 0, .int 0, .int 0, .int 0, .int (-1), .int (-1), .int 0, .long 0, .ref q83, .ref z99, .ref z100, .int 0, .int 0])), (z100, .inl (cI, 64, .inl f))]) [0, 1] (by decide) rfl
  exact W.vret hx hb hr (fun t ht hW => ⟨⟨(), rfl, trivial, by rw [ht]; exact hP9, va_K.moved hW.alike hC.1, hD9⟩, hS.F ht⟩) hS.2.2 d_Cou_makeRoom_38

theorem d_Cou_add_0 : decode prog_3_method_3_code 0 = .ok (.aload_n 0, 1) := by decide +kernel
theorem d_Cou_add_1 : decode prog_3_method_3_code 1 = .ok (.getfield 31, 3) := by decide +kernel
theorem d_Cou_add_4 : decode prog_3_method_3_code 4 = .ok (.aload_n 0, 1) := by decide +kernel
theorem d_Cou_add_5 : decode prog_3_method_3_code 5 = .ok (.getfield 25, 3) := by decide +kernel
theorem d_Cou_add_8 : decode prog_3_method_3_code 8 = .ok (.arraylength, 1) := by decide +kernel
theorem d_Cou_add_9 : decode prog_3_method_3_code 9 = .ok (.if_icmp .ge 23, 3) := by decide +kernel
theorem d_Cou_add_12 : decode prog_3_method_3_code 12 = .ok (.aload_n 0, 1) := by decide +kernel
theorem d_Cou_add_13 : decode prog_3_method_3_code 13 = .ok (.getfield 25, 3) := by decide +kernel
theorem d_Cou_add_16 : decode prog_3_method_3_code 16 = .ok (.aload_n 0, 1) := by decide +kernel
theorem d_Cou_add_17 : decode prog_3_method_3_code 17 = .ok (.getfield 31, 3) := by decide +kernel
theorem d_Cou_add_20 : decode prog_3_method_3_code 20 = .ok (.iload_n 1, 1) := by decide +kernel
theorem d_Cou_add_21 : decode prog_3_method_3_code 21 = .ok (.iastore, 1) := by decide +kernel
theorem d_Cou_add_22 : decode prog_3_method_3_code 22 = .ok (.aload_n 0, 1) := by decide +kernel
theorem d_Cou_add_23 : decode prog_3_method_3_code 23 = .ok (.dup, 1) := by decide +kernel
theorem d_Cou_add_24 : decode prog_3_method_3_code 24 = .ok (.getfield 31, 3) := by decide +kernel
theorem d_Cou_add_27 : decode prog_3_method_3_code 27 = .ok (.iconst 1, 1) := by decide +kernel
theorem d_Cou_add_28 : decode prog_3_method_3_code 28 = .ok (.iadd, 1) := by decide +kernel
theorem d_Cou_add_29 : decode prog_3_method_3_code 29 = .ok (.putfield 31, 3) := by decide +kernel
theorem d_Cou_add_32 : decode prog_3_method_3_code 32 = .ok (.return_, 1) := by decide +kernel
set_option maxHeartbeats 4000000 in
set_option maxRecDepth 100000 in
theorem c_add_0 (l : Launch) (D : va_G) (cI cL : ClassId) (B sz : Nat) (q83 : Nat) (q95 : Nat) (z98 : Nat) (z99 : Nat) (z100 : Nat) (f : Nat → Int32) (v : Int32) : Met l y_Cou_add ((Cond.code y_Cou_add prog_3_method_3_code 2 none) :: tw) ({ frames := 30, cells := 0, slots := 0, locals := 3000 }) (va_Pc [.ref q95, .int v] (wP D cI cL B sz [(q95, .inr (3, [.ref z98, .int 0, .int 0, .int 0, .int 0, .int 0, .int (-1), .int (-1), .int 0, .long 0, .ref q83, .ref z99, .ref z100, .int 0, .int 0])), (z100, .inl (cI, 64, .inl f))])) (va_Qv (S := Nat → Int32) (fun _ => True) (fun u => wB D cI cL (va_A [(q95, .inr (3, [.ref z98, .int 0, .int 0, .int 0, .int 0, .int 0, .int (-1), .int (-1), .int 0, .long 0, .ref q83, .ref z99, .ref z100, .int 0, .int 0])), (z100, .inl (cI, 64, .inl f))] sz) ((fun f151 : Nat → Int32 => [(q95, .inr (3, [.ref z98, .int 1, .int 0, .int 0, .int 0, .int 0, .int (-1), .int (-1), .int 0, .long 0, .ref q83, .ref z99, .ref z100, .int 0, .int 0])), (z100, .inl (cI, 64, .inl f151))]) u)) (va_A [(q95, .inr (3, [.ref z98, .int 0, .int 0, .int 0, .int 0, .int 0, .int (-1), .int (-1), .int 0, .long 0, .ref q83, .ref z99, .ref z100, .int 0, .int 0])), (z100, .inl (cI, 64, .inl f))] sz)) 0 0 (va_A [(q95, .inr (3, [.ref z98, .int 0, .int 0, .int 0, .int 0, .int 0, .int (-1), .int (-1), .int 0, .long 0, .ref q83, .ref z99, .ref z100, .int 0, .int 0])), (z100, .inl (cI, 64, .inl f))] sz) := by
  refine Met.ofW (cc := prog_3_method_3_code) (maxL := 2) (ret := none) (by decide) rfl ?_
  intro p e s m args below meth c s₁ B0 hml hv
  obtain ⟨rfl, hv⟩ := hv
  have hx := B0.exec
  have hb := B0.bytes
  have hr := B0.returns
  have hts := atoms_spec (ws := (Cond.code y_Cou_add prog_3_method_3_code 2 none) :: tw) B0.pre
  have htw : ∀ w ∈ tw, w.before _ s = true := fun w hw => hts w (List.mem_cons_of_mem _ hw)
  have hown : s.vm.findClass "DrawingMachine$Course" = some m.cls := findClass_of_methodNamed B0.named
  have hlocks := B0.notSynchronized
  obtain ⟨hC, hP, hD, hsz⟩ := wC_init hv
  subst hsz
  generalize hAe : va_A [(q95, .inr (3, [.ref z98, .int 0, .int 0, .int 0, .int 0, .int 0, .int (-1), .int (-1), .int 0, .long 0, .ref q83, .ref z99, .ref z100, .int 0, .int 0])), (z100, .inl (cI, 64, .inl f))] s.heap.size = A at hC hD ⊢
  have hS : va_S A s.heap s.heap [] := va_S.rf
  have hl := lv_entry ([.ref q95, .int v]) (n := 2) (Nat.le_of_ble_eq_true rfl)
  rw [lg_entry_eq]
  generalize (lg_sl ([.ref q95, .int v]) ++ List.replicate (2 - (lg_sl ([.ref q95, .int v])).length) Slot.unset).toArray = ls at hl ⊢
  have hl : lv_has ls 2 [(0, .ref q95), (1, .int v)] := hl
  refine lv_aload_n hx hb d_Cou_add_0 rfl (lv_at hl 0 rfl) ?_
  refine va_get (D := D) (ci := 3) (v := .int 0) (C := R_Cou) (T := F_Cou) (N := 15) hx hb htw i_Cou hown hC.1 hP 0 rfl rfl 1 (by decide) (htw _ k415) (fun _ h9 => h9) rfl d_Cou_add_1 ?_
  refine lv_aload_n hx hb d_Cou_add_4 rfl (lv_at hl 0 rfl) ?_
  refine va_get (D := D) (ci := 3) (v := .ref z100) (C := R_Cou) (T := F_Cou) (N := 15) hx hb htw i_Cou hown hC.1 hP 0 rfl rfl 12 (by decide) (htw _ k413) (fun _ h9 => h9) rfl d_Cou_add_5 ?_
  refine va_alen hx hb hC.1 hP 1 0 rfl (ty := .int) rfl (v := 64) (show Int32.ofNat 64 = 64 from by decide) d_Cou_add_8 ?_
  refine lv_icmp_ge (tgt := 32) hx hb d_Cou_add_9 (by decide) (fun c_150 => absurd c_150 (by decide)) (fun c_150 => ?_)
  refine lv_aload_n hx hb d_Cou_add_12 rfl (lv_at hl 0 rfl) ?_
  refine va_get (D := D) (ci := 3) (v := .ref z100) (C := R_Cou) (T := F_Cou) (N := 15) hx hb htw i_Cou hown hC.1 hP 0 rfl rfl 12 (by decide) (htw _ k413) (fun _ h9 => h9) rfl d_Cou_add_13 ?_
  refine lv_aload_n hx hb d_Cou_add_16 rfl (lv_at hl 0 rfl) ?_
  refine va_get (D := D) (ci := 3) (v := .int 0) (C := R_Cou) (T := F_Cou) (N := 15) hx hb htw i_Cou hown hC.1 hP 0 rfl rfl 1 (by decide) (htw _ k415) (fun _ h9 => h9) rfl d_Cou_add_17 ?_
  refine lv_iload_n hx hb d_Cou_add_20 rfl (lv_at hl 1 rfl) ?_
  refine va_iast hx hb hC.1 hP hD hS 1 0 rfl rfl (by unfold vp_in; decide) d_Cou_add_21 (fun H locs hP hD hS => ?_)
  have hP : va_P D classes [(q95, .inr (3, [.ref z98, .int 0, .int 0, .int 0, .int 0, .int 0, .int (-1), .int (-1), .int 0, .long 0, .ref q83, .ref z99, .ref z100, .int 0, .int 0])), (z100, .inl (cI, 64, .inl (upd f (0 : Int32).toNatClampNeg v)))] H := hP
  have hD : va_D A [(q95, .inr (3, [.ref z98, .int 0, .int 0, .int 0, .int 0, .int 0, .int (-1), .int (-1), .int 0, .long 0, .ref q83, .ref z99, .ref z100, .int 0, .int 0])), (z100, .inl (cI, 64, .inl (upd f (0 : Int32).toNatClampNeg v)))] := hD
  generalize upd f (0 : Int32).toNatClampNeg v = f151 at hP hD
  refine lv_aload_n hx hb d_Cou_add_22 rfl (lv_at hl 0 rfl) ?_
  refine lv_dup hx hb d_Cou_add_23 rfl ?_
  refine va_get (D := D) (ci := 3) (v := .int 0) (C := R_Cou) (T := F_Cou) (N := 15) hx hb htw i_Cou hown hC.1 hP 0 rfl rfl 1 (by decide) (htw _ k415) (fun _ h9 => h9) rfl d_Cou_add_24 ?_
  refine lv_iconst (v := 1) hx hb d_Cou_add_27 (by decide) ?_
  refine lv_iadd hx hb d_Cou_add_28 ?_
  refine wi_c (v := 1) (by decide) ?_
  refine va_put (D := D) (ci := 3) (v := .int 1) (ty := .int) (C := R_Cou) (T := F_Cou) (N := 15) hx hb htw i_Cou t_Cou t_Cou_ok n_Cou hown hC.1 hP hD hS 0 rfl rfl 1 (by decide) (htw _ k415) (fun _ h9 => h9) rfl (by decide +kernel) rfl rfl (Nat.le_of_ble_eq_true rfl) d_Cou_add_29 (fun H locs hP hD hS => ?_)
  have hP : va_P D classes [(q95, .inr (3, [.ref z98, .int 1, .int 0, .int 0, .int 0, .int 0, .int (-1), .int (-1), .int 0, .long 0, .ref q83, .ref z99, .ref z100, .int 0, .int 0])), (z100, .inl (cI, 64, .inl f151))] H := hP
  have hD : va_D A [(q95, .inr (3, [.ref z98, .int 1, .int 0, .int 0, .int 0, .int 0, .int (-1), .int (-1), .int 0, .long 0, .ref q83, .ref z99, .ref z100, .int 0, .int 0])), (z100, .inl (cI, 64, .inl f151))] := hD
  refine W.widen (k := 0) (n := 0) (Nat.le_of_ble_eq_true rfl) (Nat.le_of_ble_eq_true rfl) ?_
  have hP9 := hP.sub (ws' := [(q95, .inr (3, [.ref z98, .int 1, .int 0, .int 0, .int 0, .int 0, .int (-1), .int (-1), .int 0, .long 0, .ref q83, .ref z99, .ref z100, .int 0, .int 0])), (z100, .inl (cI, 64, .inl f151))]) [0, 1] rfl
  have hD9 := hD.sub (ws' := [(q95, .inr (3, [.ref z98, .int 1, .int 0, .int 0, .int 0, .int 0, .int (-1), .int (-1), .int 0, .long 0, .ref q83, .ref z99, .ref z100, .int 0, .int 0])), (z100, .inl (cI, 64, .inl f151))]) [0, 1] (by decide) rfl
  exact W.vret hx hb hr (fun t ht hW => ⟨⟨f151, rfl, trivial, by rw [ht]; exact hP9, va_K.moved hW.alike hC.1, hD9⟩, hS.F ht⟩) hS.2.2 d_Cou_add_32

set_option maxHeartbeats 4000000 in
set_option maxRecDepth 100000 in
theorem c_add_1 (l : Launch) (D : va_G) (cI cL : ClassId) (B sz : Nat) (q83 : Nat) (q95 : Nat) (z98 : Nat) (z99 : Nat) (z100 : Nat) (f : Nat → Int32) (v : Int32) : Met l y_Cou_add ((Cond.code y_Cou_add prog_3_method_3_code 2 none) :: tw) ({ frames := 30, cells := 0, slots := 0, locals := 3000 }) (va_Pc [.ref q95, .int v] (wP D cI cL B sz [(q95, .inr (3, [.ref z98, .int 1, .int 0, .int 0, .int 0, .int 0, .int (-1), .int (-1), .int 0, .long 0, .ref q83, .ref z99, .ref z100, .int 0, .int 0])), (z100, .inl (cI, 64, .inl f))])) (va_Qv (S := Nat → Int32) (fun _ => True) (fun u => wB D cI cL (va_A [(q95, .inr (3, [.ref z98, .int 1, .int 0, .int 0, .int 0, .int 0, .int (-1), .int (-1), .int 0, .long 0, .ref q83, .ref z99, .ref z100, .int 0, .int 0])), (z100, .inl (cI, 64, .inl f))] sz) ((fun f153 : Nat → Int32 => [(q95, .inr (3, [.ref z98, .int 2, .int 0, .int 0, .int 0, .int 0, .int (-1), .int (-1), .int 0, .long 0, .ref q83, .ref z99, .ref z100, .int 0, .int 0])), (z100, .inl (cI, 64, .inl f153))]) u)) (va_A [(q95, .inr (3, [.ref z98, .int 1, .int 0, .int 0, .int 0, .int 0, .int (-1), .int (-1), .int 0, .long 0, .ref q83, .ref z99, .ref z100, .int 0, .int 0])), (z100, .inl (cI, 64, .inl f))] sz)) 0 0 (va_A [(q95, .inr (3, [.ref z98, .int 1, .int 0, .int 0, .int 0, .int 0, .int (-1), .int (-1), .int 0, .long 0, .ref q83, .ref z99, .ref z100, .int 0, .int 0])), (z100, .inl (cI, 64, .inl f))] sz) := by
  refine Met.ofW (cc := prog_3_method_3_code) (maxL := 2) (ret := none) (by decide) rfl ?_
  intro p e s m args below meth c s₁ B0 hml hv
  obtain ⟨rfl, hv⟩ := hv
  have hx := B0.exec
  have hb := B0.bytes
  have hr := B0.returns
  have hts := atoms_spec (ws := (Cond.code y_Cou_add prog_3_method_3_code 2 none) :: tw) B0.pre
  have htw : ∀ w ∈ tw, w.before _ s = true := fun w hw => hts w (List.mem_cons_of_mem _ hw)
  have hown : s.vm.findClass "DrawingMachine$Course" = some m.cls := findClass_of_methodNamed B0.named
  have hlocks := B0.notSynchronized
  obtain ⟨hC, hP, hD, hsz⟩ := wC_init hv
  subst hsz
  generalize hAe : va_A [(q95, .inr (3, [.ref z98, .int 1, .int 0, .int 0, .int 0, .int 0, .int (-1), .int (-1), .int 0, .long 0, .ref q83, .ref z99, .ref z100, .int 0, .int 0])), (z100, .inl (cI, 64, .inl f))] s.heap.size = A at hC hD ⊢
  have hS : va_S A s.heap s.heap [] := va_S.rf
  have hl := lv_entry ([.ref q95, .int v]) (n := 2) (Nat.le_of_ble_eq_true rfl)
  rw [lg_entry_eq]
  generalize (lg_sl ([.ref q95, .int v]) ++ List.replicate (2 - (lg_sl ([.ref q95, .int v])).length) Slot.unset).toArray = ls at hl ⊢
  have hl : lv_has ls 2 [(0, .ref q95), (1, .int v)] := hl
  refine lv_aload_n hx hb d_Cou_add_0 rfl (lv_at hl 0 rfl) ?_
  refine va_get (D := D) (ci := 3) (v := .int 1) (C := R_Cou) (T := F_Cou) (N := 15) hx hb htw i_Cou hown hC.1 hP 0 rfl rfl 1 (by decide) (htw _ k415) (fun _ h9 => h9) rfl d_Cou_add_1 ?_
  refine lv_aload_n hx hb d_Cou_add_4 rfl (lv_at hl 0 rfl) ?_
  refine va_get (D := D) (ci := 3) (v := .ref z100) (C := R_Cou) (T := F_Cou) (N := 15) hx hb htw i_Cou hown hC.1 hP 0 rfl rfl 12 (by decide) (htw _ k413) (fun _ h9 => h9) rfl d_Cou_add_5 ?_
  refine va_alen hx hb hC.1 hP 1 0 rfl (ty := .int) rfl (v := 64) (show Int32.ofNat 64 = 64 from by decide) d_Cou_add_8 ?_
  refine lv_icmp_ge (tgt := 32) hx hb d_Cou_add_9 (by decide) (fun c_152 => absurd c_152 (by decide)) (fun c_152 => ?_)
  refine lv_aload_n hx hb d_Cou_add_12 rfl (lv_at hl 0 rfl) ?_
  refine va_get (D := D) (ci := 3) (v := .ref z100) (C := R_Cou) (T := F_Cou) (N := 15) hx hb htw i_Cou hown hC.1 hP 0 rfl rfl 12 (by decide) (htw _ k413) (fun _ h9 => h9) rfl d_Cou_add_13 ?_
  refine lv_aload_n hx hb d_Cou_add_16 rfl (lv_at hl 0 rfl) ?_
  refine va_get (D := D) (ci := 3) (v := .int 1) (C := R_Cou) (T := F_Cou) (N := 15) hx hb htw i_Cou hown hC.1 hP 0 rfl rfl 1 (by decide) (htw _ k415) (fun _ h9 => h9) rfl d_Cou_add_17 ?_
  refine lv_iload_n hx hb d_Cou_add_20 rfl (lv_at hl 1 rfl) ?_
  refine va_iast hx hb hC.1 hP hD hS 1 0 rfl rfl (by unfold vp_in; decide) d_Cou_add_21 (fun H locs hP hD hS => ?_)
  have hP : va_P D classes [(q95, .inr (3, [.ref z98, .int 1, .int 0, .int 0, .int 0, .int 0, .int (-1), .int (-1), .int 0, .long 0, .ref q83, .ref z99, .ref z100, .int 0, .int 0])), (z100, .inl (cI, 64, .inl (upd f (1 : Int32).toNatClampNeg v)))] H := hP
  have hD : va_D A [(q95, .inr (3, [.ref z98, .int 1, .int 0, .int 0, .int 0, .int 0, .int (-1), .int (-1), .int 0, .long 0, .ref q83, .ref z99, .ref z100, .int 0, .int 0])), (z100, .inl (cI, 64, .inl (upd f (1 : Int32).toNatClampNeg v)))] := hD
  generalize upd f (1 : Int32).toNatClampNeg v = f153 at hP hD
  refine lv_aload_n hx hb d_Cou_add_22 rfl (lv_at hl 0 rfl) ?_
  refine lv_dup hx hb d_Cou_add_23 rfl ?_
  refine va_get (D := D) (ci := 3) (v := .int 1) (C := R_Cou) (T := F_Cou) (N := 15) hx hb htw i_Cou hown hC.1 hP 0 rfl rfl 1 (by decide) (htw _ k415) (fun _ h9 => h9) rfl d_Cou_add_24 ?_
  refine lv_iconst (v := 1) hx hb d_Cou_add_27 (by decide) ?_
  refine lv_iadd hx hb d_Cou_add_28 ?_
  refine wi_c (v := 2) (by decide) ?_
  refine va_put (D := D) (ci := 3) (v := .int 2) (ty := .int) (C := R_Cou) (T := F_Cou) (N := 15) hx hb htw i_Cou t_Cou t_Cou_ok n_Cou hown hC.1 hP hD hS 0 rfl rfl 1 (by decide) (htw _ k415) (fun _ h9 => h9) rfl (by decide +kernel) rfl rfl (Nat.le_of_ble_eq_true rfl) d_Cou_add_29 (fun H locs hP hD hS => ?_)
  have hP : va_P D classes [(q95, .inr (3, [.ref z98, .int 2, .int 0, .int 0, .int 0, .int 0, .int (-1), .int (-1), .int 0, .long 0, .ref q83, .ref z99, .ref z100, .int 0, .int 0])), (z100, .inl (cI, 64, .inl f153))] H := hP
  have hD : va_D A [(q95, .inr (3, [.ref z98, .int 2, .int 0, .int 0, .int 0, .int 0, .int (-1), .int (-1), .int 0, .long 0, .ref q83, .ref z99, .ref z100, .int 0, .int 0])), (z100, .inl (cI, 64, .inl f153))] := hD
  refine W.widen (k := 0) (n := 0) (Nat.le_of_ble_eq_true rfl) (Nat.le_of_ble_eq_true rfl) ?_
  have hP9 := hP.sub (ws' := [(q95, .inr (3, [.ref z98, .int 2, .int 0, .int 0, .int 0, .int 0, .int (-1), .int (-1), .int 0, .long 0, .ref q83, .ref z99, .ref z100, .int 0, .int 0])), (z100, .inl (cI, 64, .inl f153))]) [0, 1] rfl
  have hD9 := hD.sub (ws' := [(q95, .inr (3, [.ref z98, .int 2, .int 0, .int 0, .int 0, .int 0, .int (-1), .int (-1), .int 0, .long 0, .ref q83, .ref z99, .ref z100, .int 0, .int 0])), (z100, .inl (cI, 64, .inl f153))]) [0, 1] (by decide) rfl
  exact W.vret hx hb hr (fun t ht hW => ⟨⟨f153, rfl, trivial, by rw [ht]; exact hP9, va_K.moved hW.alike hC.1, hD9⟩, hS.F ht⟩) hS.2.2 d_Cou_add_32

set_option maxHeartbeats 4000000 in
set_option maxRecDepth 100000 in
theorem c_add_2 (l : Launch) (D : va_G) (cI cL : ClassId) (B sz : Nat) (q83 : Nat) (q95 : Nat) (z98 : Nat) (z99 : Nat) (z100 : Nat) (f : Nat → Int32) (v : Int32) : Met l y_Cou_add ((Cond.code y_Cou_add prog_3_method_3_code 2 none) :: tw) ({ frames := 30, cells := 0, slots := 0, locals := 3000 }) (va_Pc [.ref q95, .int v] (wP D cI cL B sz [(q95, .inr (3, [.ref z98, .int 2, .int 0, .int 0, .int 0, .int 0, .int (-1), .int (-1), .int 0, .long 0, .ref q83, .ref z99, .ref z100, .int 0, .int 0])), (z100, .inl (cI, 64, .inl f))])) (va_Qv (S := Nat → Int32) (fun _ => True) (fun u => wB D cI cL (va_A [(q95, .inr (3, [.ref z98, .int 2, .int 0, .int 0, .int 0, .int 0, .int (-1), .int (-1), .int 0, .long 0, .ref q83, .ref z99, .ref z100, .int 0, .int 0])), (z100, .inl (cI, 64, .inl f))] sz) ((fun f155 : Nat → Int32 => [(q95, .inr (3, [.ref z98, .int 3, .int 0, .int 0, .int 0, .int 0, .int (-1), .int (-1), .int 0, .long 0, .ref q83, .ref z99, .ref z100, .int 0, .int 0])), (z100, .inl (cI, 64, .inl f155))]) u)) (va_A [(q95, .inr (3, [.ref z98, .int 2, .int 0, .int 0, .int 0, .int 0, .int (-1), .int (-1), .int 0, .long 0, .ref q83, .ref z99, .ref z100, .int 0, .int 0])), (z100, .inl (cI, 64, .inl f))] sz)) 0 0 (va_A [(q95, .inr (3, [.ref z98, .int 2, .int 0, .int 0, .int 0, .int 0, .int (-1), .int (-1), .int 0, .long 0, .ref q83, .ref z99, .ref z100, .int 0, .int 0])), (z100, .inl (cI, 64, .inl f))] sz) := by
  refine Met.ofW (cc := prog_3_method_3_code) (maxL := 2) (ret := none) (by decide) rfl ?_
  intro p e s m args below meth c s₁ B0 hml hv
  obtain ⟨rfl, hv⟩ := hv
  have hx := B0.exec
  have hb := B0.bytes
  have hr := B0.returns
  have hts := atoms_spec (ws := (Cond.code y_Cou_add prog_3_method_3_code 2 none) :: tw) B0.pre
  have htw : ∀ w ∈ tw, w.before _ s = true := fun w hw => hts w (List.mem_cons_of_mem _ hw)
  have hown : s.vm.findClass "DrawingMachine$Course" = some m.cls := findClass_of_methodNamed B0.named
  have hlocks := B0.notSynchronized
  obtain ⟨hC, hP, hD, hsz⟩ := wC_init hv
  subst hsz
  generalize hAe : va_A [(q95, .inr (3, [.ref z98, .int 2, .int 0, .int 0, .int 0, .int 0, .int (-1), .int (-1), .int 0, .long 0, .ref q83, .ref z99, .ref z100, .int 0, .int 0])), (z100, .inl (cI, 64, .inl f))] s.heap.size = A at hC hD ⊢
  have hS : va_S A s.heap s.heap [] := va_S.rf
  have hl := lv_entry ([.ref q95, .int v]) (n := 2) (Nat.le_of_ble_eq_true rfl)
  rw [lg_entry_eq]
  generalize (lg_sl ([.ref q95, .int v]) ++ List.replicate (2 - (lg_sl ([.ref q95, .int v])).length) Slot.unset).toArray = ls at hl ⊢
  have hl : lv_has ls 2 [(0, .ref q95), (1, .int v)] := hl
  refine lv_aload_n hx hb d_Cou_add_0 rfl (lv_at hl 0 rfl) ?_
  refine va_get (D := D) (ci := 3) (v := .int 2) (C := R_Cou) (T := F_Cou) (N := 15) hx hb htw i_Cou hown hC.1 hP 0 rfl rfl 1 (by decide) (htw _ k415) (fun _ h9 => h9) rfl d_Cou_add_1 ?_
  refine lv_aload_n hx hb d_Cou_add_4 rfl (lv_at hl 0 rfl) ?_
  refine va_get (D := D) (ci := 3) (v := .ref z100) (C := R_Cou) (T := F_Cou) (N := 15) hx hb htw i_Cou hown hC.1 hP 0 rfl rfl 12 (by decide) (htw _ k413) (fun _ h9 => h9) rfl d_Cou_add_5 ?_
  refine va_alen hx hb hC.1 hP 1 0 rfl (ty := .int) rfl (v := 64) (show Int32.ofNat 64 = 64 from by decide) d_Cou_add_8 ?_
  refine lv_icmp_ge (tgt := 32) hx hb d_Cou_add_9 (by decide) (fun c_154 => absurd c_154 (by decide)) (fun c_154 => ?_)
  refine lv_aload_n hx hb d_Cou_add_12 rfl (lv_at hl 0 rfl) ?_
  refine va_get (D := D) (ci := 3) (v := .ref z100) (C := R_Cou) (T := F_Cou) (N := 15) hx hb htw i_Cou hown hC.1 hP 0 rfl rfl 12 (by decide) (htw _ k413) (fun _ h9 => h9) rfl d_Cou_add_13 ?_
  refine lv_aload_n hx hb d_Cou_add_16 rfl (lv_at hl 0 rfl) ?_
  refine va_get (D := D) (ci := 3) (v := .int 2) (C := R_Cou) (T := F_Cou) (N := 15) hx hb htw i_Cou hown hC.1 hP 0 rfl rfl 1 (by decide) (htw _ k415) (fun _ h9 => h9) rfl d_Cou_add_17 ?_
  refine lv_iload_n hx hb d_Cou_add_20 rfl (lv_at hl 1 rfl) ?_
  refine va_iast hx hb hC.1 hP hD hS 1 0 rfl rfl (by unfold vp_in; decide) d_Cou_add_21 (fun H locs hP hD hS => ?_)
  have hP : va_P D classes [(q95, .inr (3, [.ref z98, .int 2, .int 0, .int 0, .int 0, .int 0, .int (-1), .int (-1), .int 0, .long 0, .ref q83, .ref z99, .ref z100, .int 0, .int 0])), (z100, .inl (cI, 64, .inl (upd f (2 : Int32).toNatClampNeg v)))] H := hP
  have hD : va_D A [(q95, .inr (3, [.ref z98, .int 2, .int 0, .int 0, .int 0, .int 0, .int (-1), .int (-1), .int 0, .long 0, .ref q83, .ref z99, .ref z100, .int 0, .int 0])), (z100, .inl (cI, 64, .inl (upd f (2 : Int32).toNatClampNeg v)))] := hD
  generalize upd f (2 : Int32).toNatClampNeg v = f155 at hP hD
  refine lv_aload_n hx hb d_Cou_add_22 rfl (lv_at hl 0 rfl) ?_
  refine lv_dup hx hb d_Cou_add_23 rfl ?_
  refine va_get (D := D) (ci := 3) (v := .int 2) (C := R_Cou) (T := F_Cou) (N := 15) hx hb htw i_Cou hown hC.1 hP 0 rfl rfl 1 (by decide) (htw _ k415) (fun _ h9 => h9) rfl d_Cou_add_24 ?_
  refine lv_iconst (v := 1) hx hb d_Cou_add_27 (by decide) ?_
  refine lv_iadd hx hb d_Cou_add_28 ?_
  refine wi_c (v := 3) (by decide) ?_
  refine va_put (D := D) (ci := 3) (v := .int 3) (ty := .int) (C := R_Cou) (T := F_Cou) (N := 15) hx hb htw i_Cou t_Cou t_Cou_ok n_Cou hown hC.1 hP hD hS 0 rfl rfl 1 (by decide) (htw _ k415) (fun _ h9 => h9) rfl (by decide +kernel) rfl rfl (Nat.le_of_ble_eq_true rfl) d_Cou_add_29 (fun H locs hP hD hS => ?_)
  have hP : va_P D classes [(q95, .inr (3, [.ref z98, .int 3, .int 0, .int 0, .int 0, .int 0, .int (-1), .int (-1), .int 0, .long 0, .ref q83, .ref z99, .ref z100, .int 0, .int 0])), (z100, .inl (cI, 64, .inl f155))] H := hP
  have hD : va_D A [(q95, .inr (3, [.ref z98, .int 3, .int 0, .int 0, .int 0, .int 0, .int (-1), .int (-1), .int 0, .long 0, .ref q83, .ref z99, .ref z100, .int 0, .int 0])), (z100, .inl (cI, 64, .inl f155))] := hD
  refine W.widen (k := 0) (n := 0) (Nat.le_of_ble_eq_true rfl) (Nat.le_of_ble_eq_true rfl) ?_
  have hP9 := hP.sub (ws' := [(q95, .inr (3, [.ref z98, .int 3, .int 0, .int 0, .int 0, .int 0, .int (-1), .int (-1), .int 0, .long 0, .ref q83, .ref z99, .ref z100, .int 0, .int 0])), (z100, .inl (cI, 64, .inl f155))]) [0, 1] rfl
  have hD9 := hD.sub (ws' := [(q95, .inr (3, [.ref z98, .int 3, .int 0, .int 0, .int 0, .int 0, .int (-1), .int (-1), .int 0, .long 0, .ref q83, .ref z99, .ref z100, .int 0, .int 0])), (z100, .inl (cI, 64, .inl f155))]) [0, 1] (by decide) rfl
  exact W.vret hx hb hr (fun t ht hW => ⟨⟨f155, rfl, trivial, by rw [ht]; exact hP9, va_K.moved hW.alike hC.1, hD9⟩, hS.F ht⟩) hS.2.2 d_Cou_add_32

set_option maxHeartbeats 4000000 in
set_option maxRecDepth 100000 in
theorem c_add_3 (l : Launch) (D : va_G) (cI cL : ClassId) (B sz : Nat) (q83 : Nat) (q95 : Nat) (z98 : Nat) (z99 : Nat) (z100 : Nat) (f : Nat → Int32) (v : Int32) : Met l y_Cou_add ((Cond.code y_Cou_add prog_3_method_3_code 2 none) :: tw) ({ frames := 30, cells := 0, slots := 0, locals := 3000 }) (va_Pc [.ref q95, .int v] (wP D cI cL B sz [(q95, .inr (3, [.ref z98, .int 3, .int 0, .int 0, .int 0, .int 0, .int (-1), .int (-1), .int 0, .long 0, .ref q83, .ref z99, .ref z100, .int 0, .int 0])), (z100, .inl (cI, 64, .inl f))])) (va_Qv (S := Nat → Int32) (fun _ => True) (fun u => wB D cI cL (va_A [(q95, .inr (3, [.ref z98, .int 3, .int 0, .int 0, .int 0, .int 0, .int (-1), .int (-1), .int 0, .long 0, .ref q83, .ref z99, .ref z100, .int 0, .int 0])), (z100, .inl (cI, 64, .inl f))] sz) ((fun f157 : Nat → Int32 => [(q95, .inr (3, [.ref z98, .int 4, .int 0, .int 0, .int 0, .int 0, .int (-1), .int (-1), .int 0, .long 0, .ref q83, .ref z99, .ref z100, .int 0, .int 0])), (z100, .inl (cI, 64, .inl f157))]) u)) (va_A [(q95, .inr (3, [.ref z98, .int 3, .int 0, .int 0, .int 0, .int 0, .int (-1), .int (-1), .int 0, .long 0, .ref q83, .ref z99, .ref z100, .int 0, .int 0])), (z100, .inl (cI, 64, .inl f))] sz)) 0 0 (va_A [(q95, .inr (3, [.ref z98, .int 3, .int 0, .int 0, .int 0, .int 0, .int (-1), .int (-1), .int 0, .long 0, .ref q83, .ref z99, .ref z100, .int 0, .int 0])), (z100, .inl (cI, 64, .inl f))] sz) := by
  refine Met.ofW (cc := prog_3_method_3_code) (maxL := 2) (ret := none) (by decide) rfl ?_
  intro p e s m args below meth c s₁ B0 hml hv
  obtain ⟨rfl, hv⟩ := hv
  have hx := B0.exec
  have hb := B0.bytes
  have hr := B0.returns
  have hts := atoms_spec (ws := (Cond.code y_Cou_add prog_3_method_3_code 2 none) :: tw) B0.pre
  have htw : ∀ w ∈ tw, w.before _ s = true := fun w hw => hts w (List.mem_cons_of_mem _ hw)
  have hown : s.vm.findClass "DrawingMachine$Course" = some m.cls := findClass_of_methodNamed B0.named
  have hlocks := B0.notSynchronized
  obtain ⟨hC, hP, hD, hsz⟩ := wC_init hv
  subst hsz
  generalize hAe : va_A [(q95, .inr (3, [.ref z98, .int 3, .int 0, .int 0, .int 0, .int 0, .int (-1), .int (-1), .int 0, .long 0, .ref q83, .ref z99, .ref z100, .int 0, .int 0])), (z100, .inl (cI, 64, .inl f))] s.heap.size = A at hC hD ⊢
  have hS : va_S A s.heap s.heap [] := va_S.rf
  have hl := lv_entry ([.ref q95, .int v]) (n := 2) (Nat.le_of_ble_eq_true rfl)
  rw [lg_entry_eq]
  generalize (lg_sl ([.ref q95, .int v]) ++ List.replicate (2 - (lg_sl ([.ref q95, .int v])).length) Slot.unset).toArray = ls at hl ⊢
  have hl : lv_has ls 2 [(0, .ref q95), (1, .int v)] := hl
  refine lv_aload_n hx hb d_Cou_add_0 rfl (lv_at hl 0 rfl) ?_
  refine va_get (D := D) (ci := 3) (v := .int 3) (C := R_Cou) (T := F_Cou) (N := 15) hx hb htw i_Cou hown hC.1 hP 0 rfl rfl 1 (by decide) (htw _ k415) (fun _ h9 => h9) rfl d_Cou_add_1 ?_
  refine lv_aload_n hx hb d_Cou_add_4 rfl (lv_at hl 0 rfl) ?_
  refine va_get (D := D) (ci := 3) (v := .ref z100) (C := R_Cou) (T := F_Cou) (N := 15) hx hb htw i_Cou hown hC.1 hP 0 rfl rfl 12 (by decide) (htw _ k413) (fun _ h9 => h9) rfl d_Cou_add_5 ?_
  refine va_alen hx hb hC.1 hP 1 0 rfl (ty := .int) rfl (v := 64) (show Int32.ofNat 64 = 64 from by decide) d_Cou_add_8 ?_
  refine lv_icmp_ge (tgt := 32) hx hb d_Cou_add_9 (by decide) (fun c_156 => absurd c_156 (by decide)) (fun c_156 => ?_)
  refine lv_aload_n hx hb d_Cou_add_12 rfl (lv_at hl 0 rfl) ?_
  refine va_get (D := D) (ci := 3) (v := .ref z100) (C := R_Cou) (T := F_Cou) (N := 15) hx hb htw i_Cou hown hC.1 hP 0 rfl rfl 12 (by decide) (htw _ k413) (fun _ h9 => h9) rfl d_Cou_add_13 ?_
  refine lv_aload_n hx hb d_Cou_add_16 rfl (lv_at hl 0 rfl) ?_
  refine va_get (D := D) (ci := 3) (v := .int 3) (C := R_Cou) (T := F_Cou) (N := 15) hx hb htw i_Cou hown hC.1 hP 0 rfl rfl 1 (by decide) (htw _ k415) (fun _ h9 => h9) rfl d_Cou_add_17 ?_
  refine lv_iload_n hx hb d_Cou_add_20 rfl (lv_at hl 1 rfl) ?_
  refine va_iast hx hb hC.1 hP hD hS 1 0 rfl rfl (by unfold vp_in; decide) d_Cou_add_21 (fun H locs hP hD hS => ?_)
  have hP : va_P D classes [(q95, .inr (3, [.ref z98, .int 3, .int 0, .int 0, .int 0, .int 0, .int (-1), .int (-1), .int 0, .long 0, .ref q83, .ref z99, .ref z100, .int 0, .int 0])), (z100, .inl (cI, 64, .inl (upd f (3 : Int32).toNatClampNeg v)))] H := hP
  have hD : va_D A [(q95, .inr (3, [.ref z98, .int 3, .int 0, .int 0, .int 0, .int 0, .int (-1), .int (-1), .int 0, .long 0, .ref q83, .ref z99, .ref z100, .int 0, .int 0])), (z100, .inl (cI, 64, .inl (upd f (3 : Int32).toNatClampNeg v)))] := hD
  generalize upd f (3 : Int32).toNatClampNeg v = f157 at hP hD
  refine lv_aload_n hx hb d_Cou_add_22 rfl (lv_at hl 0 rfl) ?_
  refine lv_dup hx hb d_Cou_add_23 rfl ?_
  refine va_get (D := D) (ci := 3) (v := .int 3) (C := R_Cou) (T := F_Cou) (N := 15) hx hb htw i_Cou hown hC.1 hP 0 rfl rfl 1 (by decide) (htw _ k415) (fun _ h9 => h9) rfl d_Cou_add_24 ?_
  refine lv_iconst (v := 1) hx hb d_Cou_add_27 (by decide) ?_
  refine lv_iadd hx hb d_Cou_add_28 ?_
  refine wi_c (v := 4) (by decide) ?_
  refine va_put (D := D) (ci := 3) (v := .int 4) (ty := .int) (C := R_Cou) (T := F_Cou) (N := 15) hx hb htw i_Cou t_Cou t_Cou_ok n_Cou hown hC.1 hP hD hS 0 rfl rfl 1 (by decide) (htw _ k415) (fun _ h9 => h9) rfl (by decide +kernel) rfl rfl (Nat.le_of_ble_eq_true rfl) d_Cou_add_29 (fun H locs hP hD hS => ?_)
  have hP : va_P D classes [(q95, .inr (3, [.ref z98, .int 4, .int 0, .int 0, .int 0, .int 0, .int (-1), .int (-1), .int 0, .long 0, .ref q83, .ref z99, .ref z100, .int 0, .int 0])), (z100, .inl (cI, 64, .inl f157))] H := hP
  have hD : va_D A [(q95, .inr (3, [.ref z98, .int 4, .int 0, .int 0, .int 0, .int 0, .int (-1), .int (-1), .int 0, .long 0, .ref q83, .ref z99, .ref z100, .int 0, .int 0])), (z100, .inl (cI, 64, .inl f157))] := hD
  refine W.widen (k := 0) (n := 0) (Nat.le_of_ble_eq_true rfl) (Nat.le_of_ble_eq_true rfl) ?_
  have hP9 := hP.sub (ws' := [(q95, .inr (3, [.ref z98, .int 4, .int 0, .int 0, .int 0, .int 0, .int (-1), .int (-1), .int 0, .long 0, .ref q83, .ref z99, .ref z100, .int 0, .int 0])), (z100, .inl (cI, 64, .inl f157))]) [0, 1] rfl
  have hD9 := hD.sub (ws' := [(q95, .inr (3, [.ref z98, .int 4, .int 0, .int 0, .int 0, .int 0, .int (-1), .int (-1), .int 0, .long 0, .ref q83, .ref z99, .ref z100, .int 0, .int 0])), (z100, .inl (cI, 64, .inl f157))]) [0, 1] (by decide) rfl
  exact W.vret hx hb hr (fun t ht hW => ⟨⟨f157, rfl, trivial, by rw [ht]; exact hP9, va_K.moved hW.alike hC.1, hD9⟩, hS.F ht⟩) hS.2.2 d_Cou_add_32

set_option maxHeartbeats 4000000 in
set_option maxRecDepth 100000 in
theorem c_add_4 (l : Launch) (D : va_G) (cI cL : ClassId) (B sz : Nat) (q83 : Nat) (q95 : Nat) (z98 : Nat) (z99 : Nat) (z100 : Nat) (f : Nat → Int32) (v : Int32) : Met l y_Cou_add ((Cond.code y_Cou_add prog_3_method_3_code 2 none) :: tw) ({ frames := 30, cells := 0, slots := 0, locals := 3000 }) (va_Pc [.ref q95, .int v] (wP D cI cL B sz [(q95, .inr (3, [.ref z98, .int 4, .int 0, .int 0, .int 0, .int 0, .int (-1), .int (-1), .int 0, .long 0, .ref q83, .ref z99, .ref z100, .int 0, .int 0])), (z100, .inl (cI, 64, .inl f))])) (va_Qv (S := Nat → Int32) (fun _ => True) (fun u => wB D cI cL (va_A [(q95, .inr (3, [.ref z98, .int 4, .int 0, .int 0, .int 0, .int 0, .int (-1), .int (-1), .int 0, .long 0, .ref q83, .ref z99, .ref z100, .int 0, .int 0])), (z100, .inl (cI, 64, .inl f))] sz) ((fun f159 : Nat → Int32 => [(q95, .inr (3, [.ref z98, .int 5, .int 0, .int 0, .int 0, .int 0, .int (-1), .int (-1), .int 0, .long 0, .ref q83, .ref z99, .ref z100, .int 0, .int 0])), (z100, .inl (cI, 64, .inl f159))]) u)) (va_A [(q95, .inr (3, [.ref z98, .int 4, .int 0, .int 0, .int 0, .int 0, .int (-1), .int (-1), .int 0, .long 0, .ref q83, .ref z99, .ref z100, .int 0, .int 0])), (z100, .inl (cI, 64, .inl f))] sz)) 0 0 (va_A [(q95, .inr (3, [.ref z98, .int 4, .int 0, .int 0, .int 0, .int 0, .int (-1), .int (-1), .int 0, .long 0, .ref q83, .ref z99, .ref z100, .int 0, .int 0])), (z100, .inl (cI, 64, .inl f))] sz) := by
  refine Met.ofW (cc := prog_3_method_3_code) (maxL := 2) (ret := none) (by decide) rfl ?_
  intro p e s m args below meth c s₁ B0 hml hv
  obtain ⟨rfl, hv⟩ := hv
  have hx := B0.exec
  have hb := B0.bytes
  have hr := B0.returns
  have hts := atoms_spec (ws := (Cond.code y_Cou_add prog_3_method_3_code 2 none) :: tw) B0.pre
  have htw : ∀ w ∈ tw, w.before _ s = true := fun w hw => hts w (List.mem_cons_of_mem _ hw)
  have hown : s.vm.findClass "DrawingMachine$Course" = some m.cls := findClass_of_methodNamed B0.named
  have hlocks := B0.notSynchronized
  obtain ⟨hC, hP, hD, hsz⟩ := wC_init hv
  subst hsz
  generalize hAe : va_A [(q95, .inr (3, [.ref z98, .int 4, .int 0, .int 0, .int 0, .int 0, .int (-1), .int (-1), .int 0, .long 0, .ref q83, .ref z99, .ref z100, .int 0, .int 0])), (z100, .inl (cI, 64, .inl f))] s.heap.size = A at hC hD ⊢
  have hS : va_S A s.heap s.heap [] := va_S.rf
  have hl := lv_entry ([.ref q95, .int v]) (n := 2) (Nat.le_of_ble_eq_true rfl)
  rw [lg_entry_eq]
  generalize (lg_sl ([.ref q95, .int v]) ++ List.replicate (2 - (lg_sl ([.ref q95, .int v])).length) Slot.unset).toArray = ls at hl ⊢
  have hl : lv_has ls 2 [(0, .ref q95), (1, .int v)] := hl
  refine lv_aload_n hx hb d_Cou_add_0 rfl (lv_at hl 0 rfl) ?_
  refine va_get (D := D) (ci := 3) (v := .int 4) (C := R_Cou) (T := F_Cou) (N := 15) hx hb htw i_Cou hown hC.1 hP 0 rfl rfl 1 (by decide) (htw _ k415) (fun _ h9 => h9) rfl d_Cou_add_1 ?_
  refine lv_aload_n hx hb d_Cou_add_4 rfl (lv_at hl 0 rfl) ?_
  refine va_get (D := D) (ci := 3) (v := .ref z100) (C := R_Cou) (T := F_Cou) (N := 15) hx hb htw i_Cou hown hC.1 hP 0 rfl rfl 12 (by decide) (htw _ k413) (fun _ h9 => h9) rfl d_Cou_add_5 ?_
  refine va_alen hx hb hC.1 hP 1 0 rfl (ty := .int) rfl (v := 64) (show Int32.ofNat 64 = 64 from by decide) d_Cou_add_8 ?_
  refine lv_icmp_ge (tgt := 32) hx hb d_Cou_add_9 (by decide) (fun c_158 => absurd c_158 (by decide)) (fun c_158 => ?_)
  refine lv_aload_n hx hb d_Cou_add_12 rfl (lv_at hl 0 rfl) ?_
  refine va_get (D := D) (ci := 3) (v := .ref z100) (C := R_Cou) (T := F_Cou) (N := 15) hx hb htw i_Cou hown hC.1 hP 0 rfl rfl 12 (by decide) (htw _ k413) (fun _ h9 => h9) rfl d_Cou_add_13 ?_
  refine lv_aload_n hx hb d_Cou_add_16 rfl (lv_at hl 0 rfl) ?_
  refine va_get (D := D) (ci := 3) (v := .int 4) (C := R_Cou) (T := F_Cou) (N := 15) hx hb htw i_Cou hown hC.1 hP 0 rfl rfl 1 (by decide) (htw _ k415) (fun _ h9 => h9) rfl d_Cou_add_17 ?_
  refine lv_iload_n hx hb d_Cou_add_20 rfl (lv_at hl 1 rfl) ?_
  refine va_iast hx hb hC.1 hP hD hS 1 0 rfl rfl (by unfold vp_in; decide) d_Cou_add_21 (fun H locs hP hD hS => ?_)
  have hP : va_P D classes [(q95, .inr (3, [.ref z98, .int 4, .int 0, .int 0, .int 0, .int 0, .int (-1), .int (-1), .int 0, .long 0, .ref q83, .ref z99, .ref z100, .int 0, .int 0])), (z100, .inl (cI, 64, .inl (upd f (4 : Int32).toNatClampNeg v)))] H := hP
  have hD : va_D A [(q95, .inr (3, [.ref z98, .int 4, .int 0, .int 0, .int 0, .int 0, .int (-1), .int (-1), .int 0, .long 0, .ref q83, .ref z99, .ref z100, .int 0, .int 0])), (z100, .inl (cI, 64, .inl (upd f (4 : Int32).toNatClampNeg v)))] := hD
  generalize upd f (4 : Int32).toNatClampNeg v = f159 at hP hD
  refine lv_aload_n hx hb d_Cou_add_22 rfl (lv_at hl 0 rfl) ?_
  refine lv_dup hx hb d_Cou_add_23 rfl ?_
  refine va_get (D := D) (ci := 3) (v := .int 4) (C := R_Cou) (T := F_Cou) (N := 15) hx hb htw i_Cou hown hC.1 hP 0 rfl rfl 1 (by decide) (htw _ k415) (fun _ h9 => h9) rfl d_Cou_add_24 ?_
  refine lv_iconst (v := 1) hx hb d_Cou_add_27 (by decide) ?_
  refine lv_iadd hx hb d_Cou_add_28 ?_
  refine wi_c (v := 5) (by decide) ?_
  refine va_put (D := D) (ci := 3) (v := .int 5) (ty := .int) (C := R_Cou) (T := F_Cou) (N := 15) hx hb htw i_Cou t_Cou t_Cou_ok n_Cou hown hC.1 hP hD hS 0 rfl rfl 1 (by decide) (htw _ k415) (fun _ h9 => h9) rfl (by decide +kernel) rfl rfl (Nat.le_of_ble_eq_true rfl) d_Cou_add_29 (fun H locs hP hD hS => ?_)
  have hP : va_P D classes [(q95, .inr (3, [.ref z98, .int 5, .int 0, .int 0, .int 0, .int 0, .int (-1), .int (-1), .int 0, .long 0, .ref q83, .ref z99, .ref z100, .int 0, .int 0])), (z100, .inl (cI, 64, .inl f159))] H := hP
  have hD : va_D A [(q95, .inr (3, [.ref z98, .int 5, .int 0, .int 0, .int 0, .int 0, .int (-1), .int (-1), .int 0, .long 0, .ref q83, .ref z99, .ref z100, .int 0, .int 0])), (z100, .inl (cI, 64, .inl f159))] := hD
  refine W.widen (k := 0) (n := 0) (Nat.le_of_ble_eq_true rfl) (Nat.le_of_ble_eq_true rfl) ?_
  have hP9 := hP.sub (ws' := [(q95, .inr (3, [.ref z98, .int 5, .int 0, .int 0, .int 0, .int 0, .int (-1), .int (-1), .int 0, .long 0, .ref q83, .ref z99, .ref z100, .int 0, .int 0])), (z100, .inl (cI, 64, .inl f159))]) [0, 1] rfl
  have hD9 := hD.sub (ws' := [(q95, .inr (3, [.ref z98, .int 5, .int 0, .int 0, .int 0, .int 0, .int (-1), .int (-1), .int 0, .long 0, .ref q83, .ref z99, .ref z100, .int 0, .int 0])), (z100, .inl (cI, 64, .inl f159))]) [0, 1] (by decide) rfl
  exact W.vret hx hb hr (fun t ht hW => ⟨⟨f159, rfl, trivial, by rw [ht]; exact hP9, va_K.moved hW.alike hC.1, hD9⟩, hS.F ht⟩) hS.2.2 d_Cou_add_32

theorem d_DM_feed_0 : decode prog_1_method_5_code 0 = .ok (.aload_n 0, 1) := by decide +kernel
theorem d_DM_feed_1 : decode prog_1_method_5_code 1 = .ok (.getfield 34, 3) := by decide +kernel
theorem d_DM_feed_4 : decode prog_1_method_5_code 4 = .ok (.getfield 90, 3) := by decide +kernel
theorem d_DM_feed_7 : decode prog_1_method_5_code 7 = .ok (.iconst 5, 1) := by decide +kernel
theorem d_DM_feed_8 : decode prog_1_method_5_code 8 = .ok (.iadd, 1) := by decide +kernel
theorem d_DM_feed_9 : decode prog_1_method_5_code 9 = .ok (.sipush 4096, 3) := by decide +kernel
theorem d_DM_feed_12 : decode prog_1_method_5_code 12 = .ok (.if_icmp .le 13, 3) := by decide +kernel
theorem d_DM_feed_25 : decode prog_1_method_5_code 25 = .ok (.aload_n 0, 1) := by decide +kernel
theorem d_DM_feed_26 : decode prog_1_method_5_code 26 = .ok (.getfield 34, 3) := by decide +kernel
theorem d_DM_feed_29 : decode prog_1_method_5_code 29 = .ok (.iconst 5, 1) := by decide +kernel
theorem d_DM_feed_30 : decode prog_1_method_5_code 30 = .ok (.invokevirtual 99, 3) := by decide +kernel
theorem d_DM_feed_33 : decode prog_1_method_5_code 33 = .ok (.aload_n 0, 1) := by decide +kernel
theorem d_DM_feed_34 : decode prog_1_method_5_code 34 = .ok (.getfield 34, 3) := by decide +kernel
theorem d_DM_feed_37 : decode prog_1_method_5_code 37 = .ok (.iload_n 1, 1) := by decide +kernel
theorem d_DM_feed_38 : decode prog_1_method_5_code 38 = .ok (.invokevirtual 103, 3) := by decide +kernel
theorem d_DM_feed_41 : decode prog_1_method_5_code 41 = .ok (.aload_n 0, 1) := by decide +kernel
theorem d_DM_feed_42 : decode prog_1_method_5_code 42 = .ok (.getfield 34, 3) := by decide +kernel
theorem d_DM_feed_45 : decode prog_1_method_5_code 45 = .ok (.iload_n 2, 1) := by decide +kernel
theorem d_DM_feed_46 : decode prog_1_method_5_code 46 = .ok (.invokevirtual 103, 3) := by decide +kernel
theorem d_DM_feed_49 : decode prog_1_method_5_code 49 = .ok (.aload_n 0, 1) := by decide +kernel
theorem d_DM_feed_50 : decode prog_1_method_5_code 50 = .ok (.getfield 34, 3) := by decide +kernel
theorem d_DM_feed_53 : decode prog_1_method_5_code 53 = .ok (.iload_n 3, 1) := by decide +kernel
theorem d_DM_feed_54 : decode prog_1_method_5_code 54 = .ok (.invokevirtual 103, 3) := by decide +kernel
theorem d_DM_feed_57 : decode prog_1_method_5_code 57 = .ok (.aload_n 0, 1) := by decide +kernel
theorem d_DM_feed_58 : decode prog_1_method_5_code 58 = .ok (.getfield 34, 3) := by decide +kernel
theorem d_DM_feed_61 : decode prog_1_method_5_code 61 = .ok (.iload 4, 2) := by decide +kernel
theorem d_DM_feed_63 : decode prog_1_method_5_code 63 = .ok (.invokevirtual 103, 3) := by decide +kernel
theorem d_DM_feed_66 : decode prog_1_method_5_code 66 = .ok (.aload_n 0, 1) := by decide +kernel
theorem d_DM_feed_67 : decode prog_1_method_5_code 67 = .ok (.getfield 34, 3) := by decide +kernel
theorem d_DM_feed_70 : decode prog_1_method_5_code 70 = .ok (.iload 5, 2) := by decide +kernel
theorem d_DM_feed_72 : decode prog_1_method_5_code 72 = .ok (.invokevirtual 103, 3) := by decide +kernel
theorem d_DM_feed_75 : decode prog_1_method_5_code 75 = .ok (.aload_n 0, 1) := by decide +kernel
theorem d_DM_feed_76 : decode prog_1_method_5_code 76 = .ok (.getfield 34, 3) := by decide +kernel
theorem d_DM_feed_79 : decode prog_1_method_5_code 79 = .ok (.getfield 90, 3) := by decide +kernel
theorem d_DM_feed_82 : decode prog_1_method_5_code 82 = .ok (.ireturn, 1) := by decide +kernel
theorem gV_DM_99 : GoodIn tw (wsV "DrawingMachine" 99 "DrawingMachine$Course" y_Cou_makeRoom ((Cond.code y_Cou_makeRoom prog_3_method_2_code 2 none) :: tw)) := tw_pre (fun _ h => h) (tw_good (fun _ h => h) k299) (List.forall_mem_cons.mpr ⟨k296, List.forall_mem_cons.mpr ⟨k297, List.forall_mem_cons.mpr ⟨k298, List.forall_mem_cons.mpr ⟨k23, fun _ h => absurd h List.not_mem_nil⟩⟩⟩⟩)
theorem gV_DM_103 : GoodIn tw (wsV "DrawingMachine" 103 "DrawingMachine$Course" y_Cou_add ((Cond.code y_Cou_add prog_3_method_3_code 2 none) :: tw)) := tw_pre (fun _ h => h) (tw_good (fun _ h => h) k303) (List.forall_mem_cons.mpr ⟨k300, List.forall_mem_cons.mpr ⟨k301, List.forall_mem_cons.mpr ⟨k302, List.forall_mem_cons.mpr ⟨k23, fun _ h => absurd h List.not_mem_nil⟩⟩⟩⟩)
set_option maxHeartbeats 4000000 in
set_option maxRecDepth 100000 in
theorem c_feed_g (l : Launch) (D : va_G) (cI cL : ClassId) (B sz : Nat) (h0 : Nat) (q83 : Nat) (q84 : Nat) (q89 : Nat) (q95 : Nat) (z98 : Nat) (z99 : Nat) (z100 : Nat) (q101 : Nat) (q107 : Nat) (q116 : Nat) (q120 : Nat) (q124 : Nat) (a1 : Int32) (a2 : Int32) (a3 : Int32) (a4 : Int32) (a5 : Int32) : Met l y_DM_feed ((Cond.code y_DM_feed prog_1_method_5_code 6 (some .int)) :: tw) ({ frames := 50, cells := 0, slots := 0, locals := 5000 }) (va_Pc [.ref h0, .int a1, .int a2, .int a3, .int a4, .int a5] (wP D cI cL B sz [(h0, .inr (0, [.ref q83, .ref q84, .ref q89, .ref q95, .ref q101, .ref q107, .ref q116, .ref q120, .ref q124])), (q95, .inr (3, [.ref z98, .int 0, .int 0, .int 0, .int 0, .int 0, .int (-1), .int (-1), .int 0, .long 0, .ref q83, .ref z99, .ref z100, .int 0, .int 0])), (z100, .inl (cI, 64, .inl (fun _ => 0)))])) (va_Qi (S := Unit) (fun r u => r = 5) (fun u => wB D cI cL (va_A [(h0, .inr (0, [.ref q83, .ref q84, .ref q89, .ref q95, .ref q101, .ref q107, .ref q116, .ref q120, .ref q124])), (q95, .inr (3, [.ref z98, .int 0, .int 0, .int 0, .int 0, .int 0, .int (-1), .int (-1), .int 0, .long 0, .ref q83, .ref z99, .ref z100, .int 0, .int 0])), (z100, .inl (cI, 64, .inl (fun _ => 0)))] sz) ((fun _ : Unit => []) u)) (va_A [(h0, .inr (0, [.ref q83, .ref q84, .ref q89, .ref q95, .ref q101, .ref q107, .ref q116, .ref q120, .ref q124])), (q95, .inr (3, [.ref z98, .int 0, .int 0, .int 0, .int 0, .int 0, .int (-1), .int (-1), .int 0, .long 0, .ref q83, .ref z99, .ref z100, .int 0, .int 0])), (z100, .inl (cI, 64, .inl (fun _ => 0)))] sz)) 0 0 (va_A [(h0, .inr (0, [.ref q83, .ref q84, .ref q89, .ref q95, .ref q101, .ref q107, .ref q116, .ref q120, .ref q124])), (q95, .inr (3, [.ref z98, .int 0, .int 0, .int 0, .int 0, .int 0, .int (-1), .int (-1), .int 0, .long 0, .ref q83, .ref z99, .ref z100, .int 0, .int 0])), (z100, .inl (cI, 64, .inl (fun _ => 0)))] sz) := by
  refine Met.ofW (cc := prog_1_method_5_code) (maxL := 6) (ret := (some .int)) (by decide) rfl ?_
  intro p e s m args below meth c s₁ B0 hml hv
  obtain ⟨rfl, hv⟩ := hv
  have hx := B0.exec
  have hb := B0.bytes
  have hr := B0.returns
  have hts := atoms_spec (ws := (Cond.code y_DM_feed prog_1_method_5_code 6 (some .int)) :: tw) B0.pre
  have htw : ∀ w ∈ tw, w.before _ s = true := fun w hw => hts w (List.mem_cons_of_mem _ hw)
  have hown : s.vm.findClass "DrawingMachine" = some m.cls := findClass_of_methodNamed B0.named
  have hlocks := B0.notSynchronized
  obtain ⟨hC, hP, hD, hsz⟩ := wC_init hv
  subst hsz
  generalize hAe : va_A [(h0, .inr (0, [.ref q83, .ref q84, .ref q89, .ref q95, .ref q101, .ref q107, .ref q116, .ref q120, .ref q124])), (q95, .inr (3, [.ref z98, .int 0, .int 0, .int 0, .int 0, .int 0, .int (-1), .int (-1), .int 0, .long 0, .ref q83, .ref z99, .ref z100, .int 0, .int 0])), (z100, .inl (cI, 64, .inl (fun _ => 0)))] s.heap.size = A at hC hD ⊢
  have hS : va_S A s.heap s.heap [] := va_S.rf
  have hl := lv_entry ([.ref h0, .int a1, .int a2, .int a3, .int a4, .int a5]) (n := 6) (Nat.le_of_ble_eq_true rfl)
  rw [lg_entry_eq]
  generalize (lg_sl ([.ref h0, .int a1, .int a2, .int a3, .int a4, .int a5]) ++ List.replicate (6 - (lg_sl ([.ref h0, .int a1, .int a2, .int a3, .int a4, .int a5])).length) Slot.unset).toArray = ls at hl ⊢
  have hl : lv_has ls 6 [(0, .ref h0), (1, .int a1), (2, .int a2), (3, .int a3), (4, .int a4), (5, .int a5)] := hl
  refine lv_aload_n hx hb d_DM_feed_0 rfl (lv_at hl 0 rfl) ?_
  refine va_get (D := D) (ci := 0) (v := .ref q95) (C := R_DM) (T := F_DM) (N := 9) hx hb htw i_DM hown hC.1 hP 0 rfl rfl 3 (by decide) (htw _ k259) (fun _ h9 => h9) rfl d_DM_feed_1 ?_
  refine va_get (D := D) (ci := 3) (v := .int 0) (C := R_Cou) (T := F_Cou) (N := 15) hx hb htw i_Cou hown hC.1 hP 1 rfl rfl 1 (by decide) (htw _ k293) (fun _ h9 => h9) rfl d_DM_feed_4 ?_
  refine lv_iconst (v := 5) hx hb d_DM_feed_7 (by decide) ?_
  refine lv_iadd hx hb d_DM_feed_8 ?_
  refine wi_c (v := 5) (by decide) ?_
  refine lv_sipush (v := 4096) hx hb d_DM_feed_9 (by decide) ?_
  refine lv_icmp_le (tgt := 25) hx hb d_DM_feed_12 (by decide) (fun c_160 => ?_) (fun c_160 => absurd c_160 (by decide))
  refine lv_aload_n hx hb d_DM_feed_25 rfl (lv_at hl 0 rfl) ?_
  refine va_get (D := D) (ci := 0) (v := .ref q95) (C := R_DM) (T := F_DM) (N := 9) hx hb htw i_DM hown hC.1 hP 0 rfl rfl 3 (by decide) (htw _ k259) (fun _ h9 => h9) rfl d_DM_feed_26 ?_
  refine lv_iconst (v := 5) hx hb d_DM_feed_29 (by decide) ?_
  refine wc_v (wr := [(h0, .inr (0, [.ref q83, .ref q84, .ref q89, .ref q95, .ref q101, .ref q107, .ref q116, .ref q120, .ref q124]))]) hC hP hD hS [1, 2] [0] rfl rfl (by decide) (by decide) (va_runV (As := [.int 5]) (rest := []) ⟨hx, hb, hml, hown, htw⟩ (c_makeRoom_0 l D cI cL B _ q83 q95 z98 z99 z100 (fun _ => 0)) (cwV 1 htw gV_DM_99 rfl rfl rfl (by decide +kernel) ⟨Nat.le_of_ble_eq_true rfl, Nat.le_of_ble_eq_true rfl⟩) (wC_preV (As := [.int 5]) hC hP hD hS [1, 2] (by decide) rfl (q0 := 1) rfl rfl) rfl rfl hl.1 rfl (lv_room (Nat.le_of_ble_eq_true rfl)) d_DM_feed_30 ⟨Nat.le_of_ble_eq_true rfl, Nat.le_of_ble_eq_true rfl⟩) (fun u161 H locs hw162 hP hD hS => ?_)
  have hP : va_P D classes [(h0, .inr (0, [.ref q83, .ref q84, .ref q89, .ref q95, .ref q101, .ref q107, .ref q116, .ref q120, .ref q124])), (q95, .inr (3, [.ref z98, .int 0, .int 0, .int 0, .int 0, .int 0, .int (-1), .int (-1), .int 0, .long 0, .ref q83, .ref z99, .ref z100, .int 0, .int 0])), (z100, .inl (cI, 64, .inl (fun _ => 0)))] H := hP
  have hD : va_D A [(h0, .inr (0, [.ref q83, .ref q84, .ref q89, .ref q95, .ref q101, .ref q107, .ref q116, .ref q120, .ref q124])), (q95, .inr (3, [.ref z98, .int 0, .int 0, .int 0, .int 0, .int 0, .int (-1), .int (-1), .int 0, .long 0, .ref q83, .ref z99, .ref z100, .int 0, .int 0])), (z100, .inl (cI, 64, .inl (fun _ => 0)))] := hD
  refine W.widen (k := 0) (n := 0) (by omega) (by omega) ?_
  refine lv_aload_n hx hb d_DM_feed_33 rfl (lv_at hl 0 rfl) ?_
  refine va_get (D := D) (ci := 0) (v := .ref q95) (C := R_DM) (T := F_DM) (N := 9) hx hb htw i_DM hown hC.1 hP 0 rfl rfl 3 (by decide) (htw _ k259) (fun _ h9 => h9) rfl d_DM_feed_34 ?_
  refine lv_iload_n hx hb d_DM_feed_37 rfl (lv_at hl 1 rfl) ?_
  refine wc_v (wr := [(h0, .inr (0, [.ref q83, .ref q84, .ref q89, .ref q95, .ref q101, .ref q107, .ref q116, .ref q120, .ref q124]))]) hC hP hD hS [1, 2] [0] rfl rfl (by decide) (by decide) (va_runV (As := [.int a1]) (rest := []) ⟨hx, hb, hml, hown, htw⟩ (c_add_0 l D cI cL B _ q83 q95 z98 z99 z100 (fun _ => 0) a1) (cwV 1 htw gV_DM_103 rfl rfl rfl (by decide +kernel) ⟨Nat.le_of_ble_eq_true rfl, Nat.le_of_ble_eq_true rfl⟩) (wC_preV (As := [.int a1]) hC hP hD hS [1, 2] (by decide) rfl (q0 := 1) rfl rfl) rfl rfl hl.1 rfl (lv_room (Nat.le_of_ble_eq_true rfl)) d_DM_feed_38 ⟨Nat.le_of_ble_eq_true rfl, Nat.le_of_ble_eq_true rfl⟩) (fun u163 H locs hw164 hP hD hS => ?_)
  obtain ⟨z165, rfl⟩ : ∃ z, z = u163 := ⟨_, rfl⟩
  have hP : va_P D classes [(h0, .inr (0, [.ref q83, .ref q84, .ref q89, .ref q95, .ref q101, .ref q107, .ref q116, .ref q120, .ref q124])), (q95, .inr (3, [.ref z98, .int 1, .int 0, .int 0, .int 0, .int 0, .int (-1), .int (-1), .int 0, .long 0, .ref q83, .ref z99, .ref z100, .int 0, .int 0])), (z100, .inl (cI, 64, .inl z165))] H := hP
  have hD : va_D A [(h0, .inr (0, [.ref q83, .ref q84, .ref q89, .ref q95, .ref q101, .ref q107, .ref q116, .ref q120, .ref q124])), (q95, .inr (3, [.ref z98, .int 1, .int 0, .int 0, .int 0, .int 0, .int (-1), .int (-1), .int 0, .long 0, .ref q83, .ref z99, .ref z100, .int 0, .int 0])), (z100, .inl (cI, 64, .inl z165))] := hD
  refine W.widen (k := 0) (n := 0) (by omega) (by omega) ?_
  refine lv_aload_n hx hb d_DM_feed_41 rfl (lv_at hl 0 rfl) ?_
  refine va_get (D := D) (ci := 0) (v := .ref q95) (C := R_DM) (T := F_DM) (N := 9) hx hb htw i_DM hown hC.1 hP 0 rfl rfl 3 (by decide) (htw _ k259) (fun _ h9 => h9) rfl d_DM_feed_42 ?_
  refine lv_iload_n hx hb d_DM_feed_45 rfl (lv_at hl 2 rfl) ?_
  refine wc_v (wr := [(h0, .inr (0, [.ref q83, .ref q84, .ref q89, .ref q95, .ref q101, .ref q107, .ref q116, .ref q120, .ref q124]))]) hC hP hD hS [1, 2] [0] rfl rfl (by decide) (by decide) (va_runV (As := [.int a2]) (rest := []) ⟨hx, hb, hml, hown, htw⟩ (c_add_1 l D cI cL B _ q83 q95 z98 z99 z100 z165 a2) (cwV 1 htw gV_DM_103 rfl rfl rfl (by decide +kernel) ⟨Nat.le_of_ble_eq_true rfl, Nat.le_of_ble_eq_true rfl⟩) (wC_preV (As := [.int a2]) hC hP hD hS [1, 2] (by decide) rfl (q0 := 1) rfl rfl) rfl rfl hl.1 rfl (lv_room (Nat.le_of_ble_eq_true rfl)) d_DM_feed_46 ⟨Nat.le_of_ble_eq_true rfl, Nat.le_of_ble_eq_true rfl⟩) (fun u166 H locs hw167 hP hD hS => ?_)
  obtain ⟨z168, rfl⟩ : ∃ z, z = u166 := ⟨_, rfl⟩
  have hP : va_P D classes [(h0, .inr (0, [.ref q83, .ref q84, .ref q89, .ref q95, .ref q101, .ref q107, .ref q116, .ref q120, .ref q124])), (q95, .inr (3, [.ref z98, .int 2, .int 0, .int 0, .int 0, .int 0, .int (-1), .int (-1), .int 0, .long 0, .ref q83, .ref z99, .ref z100, .int 0, .int 0])), (z100, .inl (cI, 64, .inl z168))] H := hP
  have hD : va_D A [(h0, .inr (0, [.ref q83, .ref q84, .ref q89, .ref q95, .ref q101, .ref q107, .ref q116, .ref q120, .ref q124])), (q95, .inr (3, [.ref z98, .int 2, .int 0, .int 0, .int 0, .int 0, .int (-1), .int (-1), .int 0, .long 0, .ref q83, .ref z99, .ref z100, .int 0, .int 0])), (z100, .inl (cI, 64, .inl z168))] := hD
  refine W.widen (k := 0) (n := 0) (by omega) (by omega) ?_
  refine lv_aload_n hx hb d_DM_feed_49 rfl (lv_at hl 0 rfl) ?_
  refine va_get (D := D) (ci := 0) (v := .ref q95) (C := R_DM) (T := F_DM) (N := 9) hx hb htw i_DM hown hC.1 hP 0 rfl rfl 3 (by decide) (htw _ k259) (fun _ h9 => h9) rfl d_DM_feed_50 ?_
  refine lv_iload_n hx hb d_DM_feed_53 rfl (lv_at hl 3 rfl) ?_
  refine wc_v (wr := [(h0, .inr (0, [.ref q83, .ref q84, .ref q89, .ref q95, .ref q101, .ref q107, .ref q116, .ref q120, .ref q124]))]) hC hP hD hS [1, 2] [0] rfl rfl (by decide) (by decide) (va_runV (As := [.int a3]) (rest := []) ⟨hx, hb, hml, hown, htw⟩ (c_add_2 l D cI cL B _ q83 q95 z98 z99 z100 z168 a3) (cwV 1 htw gV_DM_103 rfl rfl rfl (by decide +kernel) ⟨Nat.le_of_ble_eq_true rfl, Nat.le_of_ble_eq_true rfl⟩) (wC_preV (As := [.int a3]) hC hP hD hS [1, 2] (by decide) rfl (q0 := 1) rfl rfl) rfl rfl hl.1 rfl (lv_room (Nat.le_of_ble_eq_true rfl)) d_DM_feed_54 ⟨Nat.le_of_ble_eq_true rfl, Nat.le_of_ble_eq_true rfl⟩) (fun u169 H locs hw170 hP hD hS => ?_)
  obtain ⟨z171, rfl⟩ : ∃ z, z = u169 := ⟨_, rfl⟩
  have hP : va_P D classes [(h0, .inr (0, [.ref q83, .ref q84, .ref q89, .ref q95, .ref q101, .ref q107, .ref q116, .ref q120, .ref q124])), (q95, .inr (3, [.ref z98, .int 3, .int 0, .int 0, .int 0, .int 0, .int (-1), .int (-1), .int 0, .long 0, .ref q83, .ref z99, .ref z100, .int 0, .int 0])), (z100, .inl (cI, 64, .inl z171))] H := hP
  have hD : va_D A [(h0, .inr (0, [.ref q83, .ref q84, .ref q89, .ref q95, .ref q101, .ref q107, .ref q116, .ref q120, .ref q124])), (q95, .inr (3, [.ref z98, .int 3, .int 0, .int 0, .int 0, .int 0, .int (-1), .int (-1), .int 0, .long 0, .ref q83, .ref z99, .ref z100, .int 0, .int 0])), (z100, .inl (cI, 64, .inl z171))] := hD
  refine W.widen (k := 0) (n := 0) (by omega) (by omega) ?_
  refine lv_aload_n hx hb d_DM_feed_57 rfl (lv_at hl 0 rfl) ?_
  refine va_get (D := D) (ci := 0) (v := .ref q95) (C := R_DM) (T := F_DM) (N := 9) hx hb htw i_DM hown hC.1 hP 0 rfl rfl 3 (by decide) (htw _ k259) (fun _ h9 => h9) rfl d_DM_feed_58 ?_
  refine lv_iload hx hb d_DM_feed_61 (lv_at hl 4 rfl) ?_
  refine wc_v (wr := [(h0, .inr (0, [.ref q83, .ref q84, .ref q89, .ref q95, .ref q101, .ref q107, .ref q116, .ref q120, .ref q124]))]) hC hP hD hS [1, 2] [0] rfl rfl (by decide) (by decide) (va_runV (As := [.int a4]) (rest := []) ⟨hx, hb, hml, hown, htw⟩ (c_add_3 l D cI cL B _ q83 q95 z98 z99 z100 z171 a4) (cwV 1 htw gV_DM_103 rfl rfl rfl (by decide +kernel) ⟨Nat.le_of_ble_eq_true rfl, Nat.le_of_ble_eq_true rfl⟩) (wC_preV (As := [.int a4]) hC hP hD hS [1, 2] (by decide) rfl (q0 := 1) rfl rfl) rfl rfl hl.1 rfl (lv_room (Nat.le_of_ble_eq_true rfl)) d_DM_feed_63 ⟨Nat.le_of_ble_eq_true rfl, Nat.le_of_ble_eq_true rfl⟩) (fun u172 H locs hw173 hP hD hS => ?_)
  obtain ⟨z174, rfl⟩ : ∃ z, z = u172 := ⟨_, rfl⟩
  have hP : va_P D classes [(h0, .inr (0, [.ref q83, .ref q84, .ref q89, .ref q95, .ref q101, .ref q107, .ref q116, .ref q120, .ref q124])), (q95, .inr (3, [.ref z98, .int 4, .int 0, .int 0, .int 0, .int 0, .int (-1), .int (-1), .int 0, .long 0, .ref q83, .ref z99, .ref z100, .int 0, .int 0])), (z100, .inl (cI, 64, .inl z174))] H := hP
  have hD : va_D A [(h0, .inr (0, [.ref q83, .ref q84, .ref q89, .ref q95, .ref q101, .ref q107, .ref q116, .ref q120, .ref q124])), (q95, .inr (3, [.ref z98, .int 4, .int 0, .int 0, .int 0, .int 0, .int (-1), .int (-1), .int 0, .long 0, .ref q83, .ref z99, .ref z100, .int 0, .int 0])), (z100, .inl (cI, 64, .inl z174))] := hD
  refine W.widen (k := 0) (n := 0) (by omega) (by omega) ?_
  refine lv_aload_n hx hb d_DM_feed_66 rfl (lv_at hl 0 rfl) ?_
  refine va_get (D := D) (ci := 0) (v := .ref q95) (C := R_DM) (T := F_DM) (N := 9) hx hb htw i_DM hown hC.1 hP 0 rfl rfl 3 (by decide) (htw _ k259) (fun _ h9 => h9) rfl d_DM_feed_67 ?_
  refine lv_iload hx hb d_DM_feed_70 (lv_at hl 5 rfl) ?_
  refine wc_v (wr := [(h0, .inr (0, [.ref q83, .ref q84, .ref q89, .ref q95, .ref q101, .ref q107, .ref q116, .ref q120, .ref q124]))]) hC hP hD hS [1, 2] [0] rfl rfl (by decide) (by decide) (va_runV (As := [.int a5]) (rest := []) ⟨hx, hb, hml, hown, htw⟩ (c_add_4 l D cI cL B _ q83 q95 z98 z99 z100 z174 a5) (cwV 1 htw gV_DM_103 rfl rfl rfl (by decide +kernel) ⟨Nat.le_of_ble_eq_true rfl, Nat.le_of_ble_eq_true rfl⟩) (wC_preV (As := [.int a5]) hC hP hD hS [1, 2] (by decide) rfl (q0 := 1) rfl rfl) rfl rfl hl.1 rfl (lv_room (Nat.le_of_ble_eq_true rfl)) d_DM_feed_72 ⟨Nat.le_of_ble_eq_true rfl, Nat.le_of_ble_eq_true rfl⟩) (fun u175 H locs hw176 hP hD hS => ?_)
  obtain ⟨z177, rfl⟩ : ∃ z, z = u175 := ⟨_, rfl⟩
  have hP : va_P D classes [(h0, .inr (0, [.ref q83, .ref q84, .ref q89, .ref q95, .ref q101, .ref q107, .ref q116, .ref q120, .ref q124])), (q95, .inr (3, [.ref z98, .int 5, .int 0, .int 0, .int 0, .int 0, .int (-1), .int (-1), .int 0, .long 0, .ref q83, .ref z99, .ref z100, .int 0, .int 0])), (z100, .inl (cI, 64, .inl z177))] H := hP
  have hD : va_D A [(h0, .inr (0, [.ref q83, .ref q84, .ref q89, .ref q95, .ref q101, .ref q107, .ref q116, .ref q120, .ref q124])), (q95, .inr (3, [.ref z98, .int 5, .int 0, .int 0, .int 0, .int 0, .int (-1), .int (-1), .int 0, .long 0, .ref q83, .ref z99, .ref z100, .int 0, .int 0])), (z100, .inl (cI, 64, .inl z177))] := hD
  refine W.widen (k := 0) (n := 0) (by omega) (by omega) ?_
  refine lv_aload_n hx hb d_DM_feed_75 rfl (lv_at hl 0 rfl) ?_
  refine va_get (D := D) (ci := 0) (v := .ref q95) (C := R_DM) (T := F_DM) (N := 9) hx hb htw i_DM hown hC.1 hP 0 rfl rfl 3 (by decide) (htw _ k259) (fun _ h9 => h9) rfl d_DM_feed_76 ?_
  refine va_get (D := D) (ci := 3) (v := .int 5) (C := R_Cou) (T := F_Cou) (N := 15) hx hb htw i_Cou hown hC.1 hP 1 rfl rfl 1 (by decide) (htw _ k293) (fun _ h9 => h9) rfl d_DM_feed_79 ?_
  refine W.widen (k := 0) (n := 0) (Nat.le_of_ble_eq_true rfl) (Nat.le_of_ble_eq_true rfl) ?_
  have hP9 := hP.sub (ws' := []) [] rfl
  have hD9 := hD.sub (ws' := []) [] (by decide) rfl
  exact W.iret (v := 5) hx hb hr (fun t ht hW => ⟨⟨5, (), rfl, rfl, by rw [ht]; exact hP9, va_K.moved hW.alike hC.1, hD9⟩, hS.F ht⟩) hS.2.2 d_DM_feed_82

theorem d_Cou_beginAnew_0 : decode prog_3_method_4_code 0 = .ok (.aload_n 0, 1) := by decide +kernel
theorem d_Cou_beginAnew_1 : decode prog_3_method_4_code 1 = .ok (.iconst 0, 1) := by decide +kernel
theorem d_Cou_beginAnew_2 : decode prog_3_method_4_code 2 = .ok (.putfield 46, 3) := by decide +kernel
theorem d_Cou_beginAnew_5 : decode prog_3_method_4_code 5 = .ok (.aload_n 0, 1) := by decide +kernel
theorem d_Cou_beginAnew_6 : decode prog_3_method_4_code 6 = .ok (.iconst 0, 1) := by decide +kernel
theorem d_Cou_beginAnew_7 : decode prog_3_method_4_code 7 = .ok (.putfield 49, 3) := by decide +kernel
theorem d_Cou_beginAnew_10 : decode prog_3_method_4_code 10 = .ok (.aload_n 0, 1) := by decide +kernel
theorem d_Cou_beginAnew_11 : decode prog_3_method_4_code 11 = .ok (.iconst 0, 1) := by decide +kernel
theorem d_Cou_beginAnew_12 : decode prog_3_method_4_code 12 = .ok (.putfield 52, 3) := by decide +kernel
theorem d_Cou_beginAnew_15 : decode prog_3_method_4_code 15 = .ok (.aload_n 0, 1) := by decide +kernel
theorem d_Cou_beginAnew_16 : decode prog_3_method_4_code 16 = .ok (.iconst 0, 1) := by decide +kernel
theorem d_Cou_beginAnew_17 : decode prog_3_method_4_code 17 = .ok (.putfield 55, 3) := by decide +kernel
theorem d_Cou_beginAnew_20 : decode prog_3_method_4_code 20 = .ok (.aload_n 0, 1) := by decide +kernel
theorem d_Cou_beginAnew_21 : decode prog_3_method_4_code 21 = .ok (.iconst (-1), 1) := by decide +kernel
theorem d_Cou_beginAnew_22 : decode prog_3_method_4_code 22 = .ok (.putfield 15, 3) := by decide +kernel
theorem d_Cou_beginAnew_25 : decode prog_3_method_4_code 25 = .ok (.aload_n 0, 1) := by decide +kernel
theorem d_Cou_beginAnew_26 : decode prog_3_method_4_code 26 = .ok (.iconst (-1), 1) := by decide +kernel
theorem d_Cou_beginAnew_27 : decode prog_3_method_4_code 27 = .ok (.putfield 19, 3) := by decide +kernel
theorem d_Cou_beginAnew_30 : decode prog_3_method_4_code 30 = .ok (.aload_n 0, 1) := by decide +kernel
theorem d_Cou_beginAnew_31 : decode prog_3_method_4_code 31 = .ok (.iconst 0, 1) := by decide +kernel
theorem d_Cou_beginAnew_32 : decode prog_3_method_4_code 32 = .ok (.putfield 58, 3) := by decide +kernel
theorem d_Cou_beginAnew_35 : decode prog_3_method_4_code 35 = .ok (.aload_n 0, 1) := by decide +kernel
theorem d_Cou_beginAnew_36 : decode prog_3_method_4_code 36 = .ok (.lconst 0, 1) := by decide +kernel
theorem d_Cou_beginAnew_37 : decode prog_3_method_4_code 37 = .ok (.putfield 62, 3) := by decide +kernel
theorem d_Cou_beginAnew_40 : decode prog_3_method_4_code 40 = .ok (.return_, 1) := by decide +kernel
set_option maxHeartbeats 4000000 in
set_option maxRecDepth 100000 in
theorem c_Cou_beginAnew (l : Launch) (D : va_G) (cI cL : ClassId) (B sz : Nat) (q83 : Nat) (q95 : Nat) (z98 : Nat) (z99 : Nat) (z100 : Nat) : Met l y_Cou_beginAnew ((Cond.code y_Cou_beginAnew prog_3_method_4_code 1 none) :: tw) ({ frames := 20, cells := 0, slots := 0, locals := 2000 }) (va_Pc [.ref q95] (wP D cI cL B sz [(q95, .inr (3, [.ref z98, .int 0, .int 0, .int 0, .int 0, .int 0, .int (-1), .int (-1), .int 0, .long 0, .ref q83, .ref z99, .ref z100, .int 0, .int 0]))])) (va_Qv (S := Unit) (fun _ => True) (fun u => wB D cI cL (va_A [(q95, .inr (3, [.ref z98, .int 0, .int 0, .int 0, .int 0, .int 0, .int (-1), .int (-1), .int 0, .long 0, .ref q83, .ref z99, .ref z100, .int 0, .int 0]))] sz) ((fun _ : Unit => [(q95, .inr (3, [.ref z98, .int 0, .int 0, .int 0, .int 0, .int 0, .int (-1), .int (-1), .int 0, .long 0, .ref q83, .ref z99, .ref z100, .int 0, .int 0]))]) u)) (va_A [(q95, .inr (3, [.ref z98, .int 0, .int 0, .int 0, .int 0, .int 0, .int (-1), .int (-1), .int 0, .long 0, .ref q83, .ref z99, .ref z100, .int 0, .int 0]))] sz)) 0 0 (va_A [(q95, .inr (3, [.ref z98, .int 0, .int 0, .int 0, .int 0, .int 0, .int (-1), .int (-1), .int 0, .long 0, .ref q83, .ref z99, .ref z100, .int 0, .int 0]))] sz) := by
  refine Met.ofW (cc := prog_3_method_4_code) (maxL := 1) (ret := none) (by decide) rfl ?_
  intro p e s m args below meth c s₁ B0 hml hv
  obtain ⟨rfl, hv⟩ := hv
  have hx := B0.exec
  have hb := B0.bytes
  have hr := B0.returns
  have hts := atoms_spec (ws := (Cond.code y_Cou_beginAnew prog_3_method_4_code 1 none) :: tw) B0.pre
  have htw : ∀ w ∈ tw, w.before _ s = true := fun w hw => hts w (List.mem_cons_of_mem _ hw)
  have hown : s.vm.findClass "DrawingMachine$Course" = some m.cls := findClass_of_methodNamed B0.named
  have hlocks := B0.notSynchronized
  obtain ⟨hC, hP, hD, hsz⟩ := wC_init hv
  subst hsz
  generalize hAe : va_A [(q95, .inr (3, [.ref z98, .int 0, .int 0, .int 0, .int 0, .int 0, .int (-1), .int (-1), .int 0, .long 0, .ref q83, .ref z99, .ref z100, .int 0, .int 0]))] s.heap.size = A at hC hD ⊢
  have hS : va_S A s.heap s.heap [] := va_S.rf
  have hl := lv_entry ([.ref q95]) (n := 1) (Nat.le_of_ble_eq_true rfl)
  rw [lg_entry_eq]
  generalize (lg_sl ([.ref q95]) ++ List.replicate (1 - (lg_sl ([.ref q95])).length) Slot.unset).toArray = ls at hl ⊢
  have hl : lv_has ls 1 [(0, .ref q95)] := hl
  refine lv_aload_n hx hb d_Cou_beginAnew_0 rfl (lv_at hl 0 rfl) ?_
  refine lv_iconst (v := 0) hx hb d_Cou_beginAnew_1 (by decide) ?_
  refine va_put (D := D) (ci := 3) (v := .int 0) (ty := .int) (C := R_Cou) (T := F_Cou) (N := 15) hx hb htw i_Cou t_Cou t_Cou_ok n_Cou hown hC.1 hP hD hS 0 rfl rfl 13 (by decide) (htw _ k418) (fun _ h9 => h9) rfl (by decide +kernel) rfl rfl (Nat.le_of_ble_eq_true rfl) d_Cou_beginAnew_2 (fun H locs hP hD hS => ?_)
  have hP : va_P D classes [(q95, .inr (3, [.ref z98, .int 0, .int 0, .int 0, .int 0, .int 0, .int (-1), .int (-1), .int 0, .long 0, .ref q83, .ref z99, .ref z100, .int 0, .int 0]))] H := hP
  have hD : va_D A [(q95, .inr (3, [.ref z98, .int 0, .int 0, .int 0, .int 0, .int 0, .int (-1), .int (-1), .int 0, .long 0, .ref q83, .ref z99, .ref z100, .int 0, .int 0]))] := hD
  refine lv_aload_n hx hb d_Cou_beginAnew_5 rfl (lv_at hl 0 rfl) ?_
  refine lv_iconst (v := 0) hx hb d_Cou_beginAnew_6 (by decide) ?_
  refine va_put (D := D) (ci := 3) (v := .int 0) (ty := .int) (C := R_Cou) (T := F_Cou) (N := 15) hx hb htw i_Cou t_Cou t_Cou_ok n_Cou hown hC.1 hP hD hS 0 rfl rfl 3 (by decide) (htw _ k419) (fun _ h9 => h9) rfl (by decide +kernel) rfl rfl (Nat.le_of_ble_eq_true rfl) d_Cou_beginAnew_7 (fun H locs hP hD hS => ?_)
  have hP : va_P D classes [(q95, .inr (3, [.ref z98, .int 0, .int 0, .int 0, .int 0, .int 0, .int (-1), .int (-1), .int 0, .long 0, .ref q83, .ref z99, .ref z100, .int 0, .int 0]))] H := hP
  have hD : va_D A [(q95, .inr (3, [.ref z98, .int 0, .int 0, .int 0, .int 0, .int 0, .int (-1), .int (-1), .int 0, .long 0, .ref q83, .ref z99, .ref z100, .int 0, .int 0]))] := hD
  refine lv_aload_n hx hb d_Cou_beginAnew_10 rfl (lv_at hl 0 rfl) ?_
  refine lv_iconst (v := 0) hx hb d_Cou_beginAnew_11 (by decide) ?_
  refine va_put (D := D) (ci := 3) (v := .int 0) (ty := .int) (C := R_Cou) (T := F_Cou) (N := 15) hx hb htw i_Cou t_Cou t_Cou_ok n_Cou hown hC.1 hP hD hS 0 rfl rfl 4 (by decide) (htw _ k420) (fun _ h9 => h9) rfl (by decide +kernel) rfl rfl (Nat.le_of_ble_eq_true rfl) d_Cou_beginAnew_12 (fun H locs hP hD hS => ?_)
  have hP : va_P D classes [(q95, .inr (3, [.ref z98, .int 0, .int 0, .int 0, .int 0, .int 0, .int (-1), .int (-1), .int 0, .long 0, .ref q83, .ref z99, .ref z100, .int 0, .int 0]))] H := hP
  have hD : va_D A [(q95, .inr (3, [.ref z98, .int 0, .int 0, .int 0, .int 0, .int 0, .int (-1), .int (-1), .int 0, .long 0, .ref q83, .ref z99, .ref z100, .int 0, .int 0]))] := hD
  refine lv_aload_n hx hb d_Cou_beginAnew_15 rfl (lv_at hl 0 rfl) ?_
  refine lv_iconst (v := 0) hx hb d_Cou_beginAnew_16 (by decide) ?_
  refine va_put (D := D) (ci := 3) (v := .int 0) (ty := .int) (C := R_Cou) (T := F_Cou) (N := 15) hx hb htw i_Cou t_Cou t_Cou_ok n_Cou hown hC.1 hP hD hS 0 rfl rfl 5 (by decide) (htw _ k421) (fun _ h9 => h9) rfl (by decide +kernel) rfl rfl (Nat.le_of_ble_eq_true rfl) d_Cou_beginAnew_17 (fun H locs hP hD hS => ?_)
  have hP : va_P D classes [(q95, .inr (3, [.ref z98, .int 0, .int 0, .int 0, .int 0, .int 0, .int (-1), .int (-1), .int 0, .long 0, .ref q83, .ref z99, .ref z100, .int 0, .int 0]))] H := hP
  have hD : va_D A [(q95, .inr (3, [.ref z98, .int 0, .int 0, .int 0, .int 0, .int 0, .int (-1), .int (-1), .int 0, .long 0, .ref q83, .ref z99, .ref z100, .int 0, .int 0]))] := hD
  refine lv_aload_n hx hb d_Cou_beginAnew_20 rfl (lv_at hl 0 rfl) ?_
  refine lv_iconst (v := (-1)) hx hb d_Cou_beginAnew_21 (by decide) ?_
  refine va_put (D := D) (ci := 3) (v := .int (-1)) (ty := .int) (C := R_Cou) (T := F_Cou) (N := 15) hx hb htw i_Cou t_Cou t_Cou_ok n_Cou hown hC.1 hP hD hS 0 rfl rfl 6 (by decide) (htw _ k410) (fun _ h9 => h9) rfl (by decide +kernel) rfl rfl (Nat.le_of_ble_eq_true rfl) d_Cou_beginAnew_22 (fun H locs hP hD hS => ?_)
  have hP : va_P D classes [(q95, .inr (3, [.ref z98, .int 0, .int 0, .int 0, .int 0, .int 0, .int (-1), .int (-1), .int 0, .long 0, .ref q83, .ref z99, .ref z100, .int 0, .int 0]))] H := hP
  have hD : va_D A [(q95, .inr (3, [.ref z98, .int 0, .int 0, .int 0, .int 0, .int 0, .int (-1), .int (-1), .int 0, .long 0, .ref q83, .ref z99, .ref z100, .int 0, .int 0]))] := hD
  refine lv_aload_n hx hb d_Cou_beginAnew_25 rfl (lv_at hl 0 rfl) ?_
  refine lv_iconst (v := (-1)) hx hb d_Cou_beginAnew_26 (by decide) ?_
  refine va_put (D := D) (ci := 3) (v := .int (-1)) (ty := .int) (C := R_Cou) (T := F_Cou) (N := 15) hx hb htw i_Cou t_Cou t_Cou_ok n_Cou hown hC.1 hP hD hS 0 rfl rfl 7 (by decide) (htw _ k411) (fun _ h9 => h9) rfl (by decide +kernel) rfl rfl (Nat.le_of_ble_eq_true rfl) d_Cou_beginAnew_27 (fun H locs hP hD hS => ?_)
  have hP : va_P D classes [(q95, .inr (3, [.ref z98, .int 0, .int 0, .int 0, .int 0, .int 0, .int (-1), .int (-1), .int 0, .long 0, .ref q83, .ref z99, .ref z100, .int 0, .int 0]))] H := hP
  have hD : va_D A [(q95, .inr (3, [.ref z98, .int 0, .int 0, .int 0, .int 0, .int 0, .int (-1), .int (-1), .int 0, .long 0, .ref q83, .ref z99, .ref z100, .int 0, .int 0]))] := hD
  refine lv_aload_n hx hb d_Cou_beginAnew_30 rfl (lv_at hl 0 rfl) ?_
  refine lv_iconst (v := 0) hx hb d_Cou_beginAnew_31 (by decide) ?_
  refine va_put (D := D) (ci := 3) (v := .int 0) (ty := .boolean) (C := R_Cou) (T := F_Cou) (N := 15) hx hb htw i_Cou t_Cou t_Cou_ok n_Cou hown hC.1 hP hD hS 0 rfl rfl 8 (by decide) (htw _ k422) (fun _ h9 => h9) rfl (by decide +kernel) (by decide) rfl (Nat.le_of_ble_eq_true rfl) d_Cou_beginAnew_32 (fun H locs hP hD hS => ?_)
  have hP : va_P D classes [(q95, .inr (3, [.ref z98, .int 0, .int 0, .int 0, .int 0, .int 0, .int (-1), .int (-1), .int 0, .long 0, .ref q83, .ref z99, .ref z100, .int 0, .int 0]))] H := hP
  have hD : va_D A [(q95, .inr (3, [.ref z98, .int 0, .int 0, .int 0, .int 0, .int 0, .int (-1), .int (-1), .int 0, .long 0, .ref q83, .ref z99, .ref z100, .int 0, .int 0]))] := hD
  refine lv_aload_n hx hb d_Cou_beginAnew_35 rfl (lv_at hl 0 rfl) ?_
  refine lv_lconst (v := 0) hx hb d_Cou_beginAnew_36 (by decide) ?_
  refine va_put (D := D) (ci := 3) (v := .long 0) (ty := .long) (C := R_Cou) (T := F_Cou) (N := 15) hx hb htw i_Cou t_Cou t_Cou_ok n_Cou hown hC.1 hP hD hS 0 rfl rfl 9 (by decide) (htw _ k423) (fun _ h9 => h9) rfl (by decide +kernel) rfl rfl (Nat.le_of_ble_eq_true rfl) d_Cou_beginAnew_37 (fun H locs hP hD hS => ?_)
  have hP : va_P D classes [(q95, .inr (3, [.ref z98, .int 0, .int 0, .int 0, .int 0, .int 0, .int (-1), .int (-1), .int 0, .long 0, .ref q83, .ref z99, .ref z100, .int 0, .int 0]))] H := hP
  have hD : va_D A [(q95, .inr (3, [.ref z98, .int 0, .int 0, .int 0, .int 0, .int 0, .int (-1), .int (-1), .int 0, .long 0, .ref q83, .ref z99, .ref z100, .int 0, .int 0]))] := hD
  refine W.widen (k := 0) (n := 0) (Nat.le_of_ble_eq_true rfl) (Nat.le_of_ble_eq_true rfl) ?_
  have hP9 := hP.sub (ws' := [(q95, .inr (3, [.ref z98, .int 0, .int 0, .int 0, .int 0, .int 0, .int (-1), .int (-1), .int 0, .long 0, .ref q83, .ref z99, .ref z100, .int 0, .int 0]))]) [0] rfl
  have hD9 := hD.sub (ws' := [(q95, .inr (3, [.ref z98, .int 0, .int 0, .int 0, .int 0, .int 0, .int (-1), .int (-1), .int 0, .long 0, .ref q83, .ref z99, .ref z100, .int 0, .int 0]))]) [0] (by decide) rfl
  exact W.vret hx hb hr (fun t ht hW => ⟨⟨(), rfl, trivial, by rw [ht]; exact hP9, va_K.moved hW.alike hC.1, hD9⟩, hS.F ht⟩) hS.2.2 d_Cou_beginAnew_40

theorem d_DM_beginAnew_0 : decode prog_1_method_14_code 0 = .ok (.aload_n 0, 1) := by decide +kernel
theorem d_DM_beginAnew_1 : decode prog_1_method_14_code 1 = .ok (.getfield 34, 3) := by decide +kernel
theorem d_DM_beginAnew_4 : decode prog_1_method_14_code 4 = .ok (.invokevirtual 195, 3) := by decide +kernel
theorem d_DM_beginAnew_7 : decode prog_1_method_14_code 7 = .ok (.aload_n 0, 1) := by decide +kernel
theorem d_DM_beginAnew_8 : decode prog_1_method_14_code 8 = .ok (.getfield 50, 3) := by decide +kernel
theorem d_DM_beginAnew_11 : decode prog_1_method_14_code 11 = .ok (.iconst (-1), 1) := by decide +kernel
theorem d_DM_beginAnew_12 : decode prog_1_method_14_code 12 = .ok (.putfield 158, 3) := by decide +kernel
theorem d_DM_beginAnew_15 : decode prog_1_method_14_code 15 = .ok (.return_, 1) := by decide +kernel
theorem gV_DM_195 : GoodIn tw (wsV "DrawingMachine" 195 "DrawingMachine$Course" y_Cou_beginAnew ((Cond.code y_Cou_beginAnew prog_3_method_4_code 1 none) :: tw)) := tw_pre (fun _ h => h) (tw_good (fun _ h => h) k355) (List.forall_mem_cons.mpr ⟨k352, List.forall_mem_cons.mpr ⟨k353, List.forall_mem_cons.mpr ⟨k354, List.forall_mem_cons.mpr ⟨k23, fun _ h => absurd h List.not_mem_nil⟩⟩⟩⟩)
set_option maxHeartbeats 4000000 in
set_option maxRecDepth 100000 in
theorem c_DM_beginAnew (l : Launch) (D : va_G) (cI cL : ClassId) (B sz : Nat) (h0 : Nat) (q83 : Nat) (q84 : Nat) (z87 : Nat) (q89 : Nat) (q95 : Nat) (z98 : Nat) (z99 : Nat) (z100 : Nat) (q101 : Nat) (q107 : Nat) (z110 : Nat) (z111 : Nat) (z112 : Nat) (z113 : Nat) (z114 : Nat) (z115 : Nat) (q116 : Nat) (q120 : Nat) (q124 : Nat) : Met l y_DM_beginAnew ((Cond.code y_DM_beginAnew prog_1_method_14_code 1 none) :: tw) ({ frames := 30, cells := 0, slots := 0, locals := 3000 }) (va_Pc [.ref h0] (wP D cI cL B sz [(h0, .inr (0, [.ref q83, .ref q84, .ref q89, .ref q95, .ref q101, .ref q107, .ref q116, .ref q120, .ref q124])), (q95, .inr (3, [.ref z98, .int 0, .int 0, .int 0, .int 0, .int 0, .int (-1), .int (-1), .int 0, .long 0, .ref q83, .ref z99, .ref z100, .int 0, .int 0])), (q107, .inr (5, [.ref z110, .ref z111, .int (-1), .ref z87, .ref q89, .ref z112, .ref z113, .ref z114, .ref z115]))])) (va_Qv (S := Unit) (fun _ => True) (fun u => wB D cI cL (va_A [(h0, .inr (0, [.ref q83, .ref q84, .ref q89, .ref q95, .ref q101, .ref q107, .ref q116, .ref q120, .ref q124])), (q95, .inr (3, [.ref z98, .int 0, .int 0, .int 0, .int 0, .int 0, .int (-1), .int (-1), .int 0, .long 0, .ref q83, .ref z99, .ref z100, .int 0, .int 0])), (q107, .inr (5, [.ref z110, .ref z111, .int (-1), .ref z87, .ref q89, .ref z112, .ref z113, .ref z114, .ref z115]))] sz) ((fun _ : Unit => [(h0, .inr (0, [.ref q83, .ref q84, .ref q89, .ref q95, .ref q101, .ref q107, .ref q116, .ref q120, .ref q124]))]) u)) (va_A [(h0, .inr (0, [.ref q83, .ref q84, .ref q89, .ref q95, .ref q101, .ref q107, .ref q116, .ref q120, .ref q124])), (q95, .inr (3, [.ref z98, .int 0, .int 0, .int 0, .int 0, .int 0, .int (-1), .int (-1), .int 0, .long 0, .ref q83, .ref z99, .ref z100, .int 0, .int 0])), (q107, .inr (5, [.ref z110, .ref z111, .int (-1), .ref z87, .ref q89, .ref z112, .ref z113, .ref z114, .ref z115]))] sz)) 0 0 (va_A [(h0, .inr (0, [.ref q83, .ref q84, .ref q89, .ref q95, .ref q101, .ref q107, .ref q116, .ref q120, .ref q124])), (q95, .inr (3, [.ref z98, .int 0, .int 0, .int 0, .int 0, .int 0, .int (-1), .int (-1), .int 0, .long 0, .ref q83, .ref z99, .ref z100, .int 0, .int 0])), (q107, .inr (5, [.ref z110, .ref z111, .int (-1), .ref z87, .ref q89, .ref z112, .ref z113, .ref z114, .ref z115]))] sz) := by
  refine Met.ofW (cc := prog_1_method_14_code) (maxL := 1) (ret := none) (by decide) rfl ?_
  intro p e s m args below meth c s₁ B0 hml hv
  obtain ⟨rfl, hv⟩ := hv
  have hx := B0.exec
  have hb := B0.bytes
  have hr := B0.returns
  have hts := atoms_spec (ws := (Cond.code y_DM_beginAnew prog_1_method_14_code 1 none) :: tw) B0.pre
  have htw : ∀ w ∈ tw, w.before _ s = true := fun w hw => hts w (List.mem_cons_of_mem _ hw)
  have hown : s.vm.findClass "DrawingMachine" = some m.cls := findClass_of_methodNamed B0.named
  have hlocks := B0.notSynchronized
  obtain ⟨hC, hP, hD, hsz⟩ := wC_init hv
  subst hsz
  generalize hAe : va_A [(h0, .inr (0, [.ref q83, .ref q84, .ref q89, .ref q95, .ref q101, .ref q107, .ref q116, .ref q120, .ref q124])), (q95, .inr (3, [.ref z98, .int 0, .int 0, .int 0, .int 0, .int 0, .int (-1), .int (-1), .int 0, .long 0, .ref q83, .ref z99, .ref z100, .int 0, .int 0])), (q107, .inr (5, [.ref z110, .ref z111, .int (-1), .ref z87, .ref q89, .ref z112, .ref z113, .ref z114, .ref z115]))] s.heap.size = A at hC hD ⊢
  have hS : va_S A s.heap s.heap [] := va_S.rf
  have hl := lv_entry ([.ref h0]) (n := 1) (Nat.le_of_ble_eq_true rfl)
  rw [lg_entry_eq]
  generalize (lg_sl ([.ref h0]) ++ List.replicate (1 - (lg_sl ([.ref h0])).length) Slot.unset).toArray = ls at hl ⊢
  have hl : lv_has ls 1 [(0, .ref h0)] := hl
  refine lv_aload_n hx hb d_DM_beginAnew_0 rfl (lv_at hl 0 rfl) ?_
  refine va_get (D := D) (ci := 0) (v := .ref q95) (C := R_DM) (T := F_DM) (N := 9) hx hb htw i_DM hown hC.1 hP 0 rfl rfl 3 (by decide) (htw _ k259) (fun _ h9 => h9) rfl d_DM_beginAnew_1 ?_
  refine wc_v (wr := [(h0, .inr (0, [.ref q83, .ref q84, .ref q89, .ref q95, .ref q101, .ref q107, .ref q116, .ref q120, .ref q124])), (q107, .inr (5, [.ref z110, .ref z111, .int (-1), .ref z87, .ref q89, .ref z112, .ref z113, .ref z114, .ref z115]))]) hC hP hD hS [1] [0, 2] rfl rfl (by decide) (by decide) (va_runV (As := []) (rest := []) ⟨hx, hb, hml, hown, htw⟩ (c_Cou_beginAnew l D cI cL B _ q83 q95 z98 z99 z100) (cwV 0 htw gV_DM_195 rfl rfl rfl (by decide +kernel) ⟨Nat.le_of_ble_eq_true rfl, Nat.le_of_ble_eq_true rfl⟩) (wC_preV (As := []) hC hP hD hS [1] (by decide) rfl (q0 := 1) rfl rfl) rfl rfl hl.1 rfl (lv_room (Nat.le_of_ble_eq_true rfl)) d_DM_beginAnew_4 ⟨Nat.le_of_ble_eq_true rfl, Nat.le_of_ble_eq_true rfl⟩) (fun u178 H locs hw179 hP hD hS => ?_)
  have hP : va_P D classes [(h0, .inr (0, [.ref q83, .ref q84, .ref q89, .ref q95, .ref q101, .ref q107, .ref q116, .ref q120, .ref q124])), (q107, .inr (5, [.ref z110, .ref z111, .int (-1), .ref z87, .ref q89, .ref z112, .ref z113, .ref z114, .ref z115])), (q95, .inr (3, [.ref z98, .int 0, .int 0, .int 0, .int 0, .int 0, .int (-1), .int (-1), .int 0, .long 0, .ref q83, .ref z99, .ref z100, .int 0, .int 0]))] H := hP
  have hD : va_D A [(h0, .inr (0, [.ref q83, .ref q84, .ref q89, .ref q95, .ref q101, .ref q107, .ref q116, .ref q120, .ref q124])), (q107, .inr (5, [.ref z110, .ref z111, .int (-1), .ref z87, .ref q89, .ref z112, .ref z113, .ref z114, .ref z115])), (q95, .inr (3, [.ref z98, .int 0, .int 0, .int 0, .int 0, .int 0, .int (-1), .int (-1), .int 0, .long 0, .ref q83, .ref z99, .ref z100, .int 0, .int 0]))] := hD
  refine W.widen (k := 0) (n := 0) (by omega) (by omega) ?_
  refine lv_aload_n hx hb d_DM_beginAnew_7 rfl (lv_at hl 0 rfl) ?_
  refine va_get (D := D) (ci := 0) (v := .ref q107) (C := R_DM) (T := F_DM) (N := 9) hx hb htw i_DM hown hC.1 hP 0 rfl rfl 5 (by decide) (htw _ k268) (fun _ h9 => h9) rfl d_DM_beginAnew_8 ?_
  refine lv_iconst (v := (-1)) hx hb d_DM_beginAnew_11 (by decide) ?_
  refine va_put (D := D) (ci := 5) (v := .int (-1)) (ty := .int) (C := R_Drw) (T := F_Drw) (N := 9) hx hb htw i_Drw t_Drw t_Drw_ok n_Drw hown hC.1 hP hD hS 1 rfl rfl 2 (by decide) (htw _ k337) (fun _ h9 => h9) rfl (by decide +kernel) rfl rfl (Nat.le_of_ble_eq_true rfl) d_DM_beginAnew_12 (fun H locs hP hD hS => ?_)
  have hP : va_P D classes [(h0, .inr (0, [.ref q83, .ref q84, .ref q89, .ref q95, .ref q101, .ref q107, .ref q116, .ref q120, .ref q124])), (q107, .inr (5, [.ref z110, .ref z111, .int (-1), .ref z87, .ref q89, .ref z112, .ref z113, .ref z114, .ref z115])), (q95, .inr (3, [.ref z98, .int 0, .int 0, .int 0, .int 0, .int 0, .int (-1), .int (-1), .int 0, .long 0, .ref q83, .ref z99, .ref z100, .int 0, .int 0]))] H := hP
  have hD : va_D A [(h0, .inr (0, [.ref q83, .ref q84, .ref q89, .ref q95, .ref q101, .ref q107, .ref q116, .ref q120, .ref q124])), (q107, .inr (5, [.ref z110, .ref z111, .int (-1), .ref z87, .ref q89, .ref z112, .ref z113, .ref z114, .ref z115])), (q95, .inr (3, [.ref z98, .int 0, .int 0, .int 0, .int 0, .int 0, .int (-1), .int (-1), .int 0, .long 0, .ref q83, .ref z99, .ref z100, .int 0, .int 0]))] := hD
  refine W.widen (k := 0) (n := 0) (Nat.le_of_ble_eq_true rfl) (Nat.le_of_ble_eq_true rfl) ?_
  have hP9 := hP.sub (ws' := [(h0, .inr (0, [.ref q83, .ref q84, .ref q89, .ref q95, .ref q101, .ref q107, .ref q116, .ref q120, .ref q124]))]) [0] rfl
  have hD9 := hD.sub (ws' := [(h0, .inr (0, [.ref q83, .ref q84, .ref q89, .ref q95, .ref q101, .ref q107, .ref q116, .ref q120, .ref q124]))]) [0] (by decide) rfl
  exact W.vret hx hb hr (fun t ht hW => ⟨⟨(), rfl, trivial, by rw [ht]; exact hP9, va_K.moved hW.alike hC.1, hD9⟩, hS.F ht⟩) hS.2.2 d_DM_beginAnew_15

theorem d_DM_end_0 : decode prog_1_method_6_code 0 = .ok (.iload_n 1, 1) := by decide +kernel
theorem d_DM_end_1 : decode prog_1_method_6_code 1 = .ok (.ifCond .lt 14, 3) := by decide +kernel
theorem d_DM_end_4 : decode prog_1_method_6_code 4 = .ok (.iload_n 1, 1) := by decide +kernel
theorem d_DM_end_5 : decode prog_1_method_6_code 5 = .ok (.aload_n 0, 1) := by decide +kernel
theorem d_DM_end_6 : decode prog_1_method_6_code 6 = .ok (.getfield 34, 3) := by decide +kernel
theorem d_DM_end_9 : decode prog_1_method_6_code 9 = .ok (.getfield 90, 3) := by decide +kernel
theorem d_DM_end_12 : decode prog_1_method_6_code 12 = .ok (.if_icmp .le 13, 3) := by decide +kernel
theorem d_DM_end_25 : decode prog_1_method_6_code 25 = .ok (.aload_n 0, 1) := by decide +kernel
theorem d_DM_end_26 : decode prog_1_method_6_code 26 = .ok (.getfield 34, 3) := by decide +kernel
theorem d_DM_end_29 : decode prog_1_method_6_code 29 = .ok (.iload_n 1, 1) := by decide +kernel
theorem d_DM_end_30 : decode prog_1_method_6_code 30 = .ok (.putfield 90, 3) := by decide +kernel
theorem d_DM_end_33 : decode prog_1_method_6_code 33 = .ok (.aload_n 0, 1) := by decide +kernel
theorem d_DM_end_34 : decode prog_1_method_6_code 34 = .ok (.invokevirtual 108, 3) := by decide +kernel
theorem d_DM_end_37 : decode prog_1_method_6_code 37 = .ok (.return_, 1) := by decide +kernel
theorem gV_DM_108 : GoodIn tw (wsV "DrawingMachine" 108 "DrawingMachine" y_DM_beginAnew ((Cond.code y_DM_beginAnew prog_1_method_14_code 1 none) :: tw)) := tw_pre (fun _ h => h) (tw_good (fun _ h => h) k307) (List.forall_mem_cons.mpr ⟨k305, List.forall_mem_cons.mpr ⟨k306, List.forall_mem_cons.mpr ⟨k1000, List.forall_mem_cons.mpr ⟨k0, fun _ h => absurd h List.not_mem_nil⟩⟩⟩⟩)
set_option maxHeartbeats 4000000 in
set_option maxRecDepth 100000 in
theorem c_end_g (l : Launch) (D : va_G) (cI cL : ClassId) (B sz : Nat) (h0 : Nat) (q83 : Nat) (q84 : Nat) (z87 : Nat) (q89 : Nat) (q95 : Nat) (z98 : Nat) (z99 : Nat) (z100 : Nat) (q101 : Nat) (q107 : Nat) (z110 : Nat) (z111 : Nat) (z112 : Nat) (z113 : Nat) (z114 : Nat) (z115 : Nat) (q116 : Nat) (q120 : Nat) (q124 : Nat) : Met l y_DM_end ((Cond.code y_DM_end prog_1_method_6_code 2 none) :: tw) ({ frames := 50, cells := 0, slots := 0, locals := 5000 }) (va_Pc [.ref h0, .int 0] (wP D cI cL B sz [(h0, .inr (0, [.ref q83, .ref q84, .ref q89, .ref q95, .ref q101, .ref q107, .ref q116, .ref q120, .ref q124])), (q95, .inr (3, [.ref z98, .int 0, .int 0, .int 0, .int 0, .int 0, .int (-1), .int (-1), .int 0, .long 0, .ref q83, .ref z99, .ref z100, .int 0, .int 0])), (q107, .inr (5, [.ref z110, .ref z111, .int (-1), .ref z87, .ref q89, .ref z112, .ref z113, .ref z114, .ref z115]))])) (va_Qv (S := Unit) (fun _ => True) (fun u => wB D cI cL (va_A [(h0, .inr (0, [.ref q83, .ref q84, .ref q89, .ref q95, .ref q101, .ref q107, .ref q116, .ref q120, .ref q124])), (q95, .inr (3, [.ref z98, .int 0, .int 0, .int 0, .int 0, .int 0, .int (-1), .int (-1), .int 0, .long 0, .ref q83, .ref z99, .ref z100, .int 0, .int 0])), (q107, .inr (5, [.ref z110, .ref z111, .int (-1), .ref z87, .ref q89, .ref z112, .ref z113, .ref z114, .ref z115]))] sz) ((fun _ : Unit => []) u)) (va_A [(h0, .inr (0, [.ref q83, .ref q84, .ref q89, .ref q95, .ref q101, .ref q107, .ref q116, .ref q120, .ref q124])), (q95, .inr (3, [.ref z98, .int 0, .int 0, .int 0, .int 0, .int 0, .int (-1), .int (-1), .int 0, .long 0, .ref q83, .ref z99, .ref z100, .int 0, .int 0])), (q107, .inr (5, [.ref z110, .ref z111, .int (-1), .ref z87, .ref q89, .ref z112, .ref z113, .ref z114, .ref z115]))] sz)) 0 0 (va_A [(h0, .inr (0, [.ref q83, .ref q84, .ref q89, .ref q95, .ref q101, .ref q107, .ref q116, .ref q120, .ref q124])), (q95, .inr (3, [.ref z98, .int 0, .int 0, .int 0, .int 0, .int 0, .int (-1), .int (-1), .int 0, .long 0, .ref q83, .ref z99, .ref z100, .int 0, .int 0])), (q107, .inr (5, [.ref z110, .ref z111, .int (-1), .ref z87, .ref q89, .ref z112, .ref z113, .ref z114, .ref z115]))] sz) := by
  refine Met.ofW (cc := prog_1_method_6_code) (maxL := 2) (ret := none) (by decide) rfl ?_
  intro p e s m args below meth c s₁ B0 hml hv
  obtain ⟨rfl, hv⟩ := hv
  have hx := B0.exec
  have hb := B0.bytes
  have hr := B0.returns
  have hts := atoms_spec (ws := (Cond.code y_DM_end prog_1_method_6_code 2 none) :: tw) B0.pre
  have htw : ∀ w ∈ tw, w.before _ s = true := fun w hw => hts w (List.mem_cons_of_mem _ hw)
  have hown : s.vm.findClass "DrawingMachine" = some m.cls := findClass_of_methodNamed B0.named
  have hlocks := B0.notSynchronized
  obtain ⟨hC, hP, hD, hsz⟩ := wC_init hv
  subst hsz
  generalize hAe : va_A [(h0, .inr (0, [.ref q83, .ref q84, .ref q89, .ref q95, .ref q101, .ref q107, .ref q116, .ref q120, .ref q124])), (q95, .inr (3, [.ref z98, .int 0, .int 0, .int 0, .int 0, .int 0, .int (-1), .int (-1), .int 0, .long 0, .ref q83, .ref z99, .ref z100, .int 0, .int 0])), (q107, .inr (5, [.ref z110, .ref z111, .int (-1), .ref z87, .ref q89, .ref z112, .ref z113, .ref z114, .ref z115]))] s.heap.size = A at hC hD ⊢
  have hS : va_S A s.heap s.heap [] := va_S.rf
  have hl := lv_entry ([.ref h0, .int 0]) (n := 2) (Nat.le_of_ble_eq_true rfl)
  rw [lg_entry_eq]
  generalize (lg_sl ([.ref h0, .int 0]) ++ List.replicate (2 - (lg_sl ([.ref h0, .int 0])).length) Slot.unset).toArray = ls at hl ⊢
  have hl : lv_has ls 2 [(0, .ref h0), (1, .int 0)] := hl
  refine lv_iload_n hx hb d_DM_end_0 rfl (lv_at hl 1 rfl) ?_
  refine lv_if_lt (tgt := 15) hx hb d_DM_end_1 (by decide) (fun c_180 => absurd c_180 (by decide)) (fun c_180 => ?_)
  refine lv_iload_n hx hb d_DM_end_4 rfl (lv_at hl 1 rfl) ?_
  refine lv_aload_n hx hb d_DM_end_5 rfl (lv_at hl 0 rfl) ?_
  refine va_get (D := D) (ci := 0) (v := .ref q95) (C := R_DM) (T := F_DM) (N := 9) hx hb htw i_DM hown hC.1 hP 0 rfl rfl 3 (by decide) (htw _ k259) (fun _ h9 => h9) rfl d_DM_end_6 ?_
  refine va_get (D := D) (ci := 3) (v := .int 0) (C := R_Cou) (T := F_Cou) (N := 15) hx hb htw i_Cou hown hC.1 hP 1 rfl rfl 1 (by decide) (htw _ k293) (fun _ h9 => h9) rfl d_DM_end_9 ?_
  refine lv_icmp_le (tgt := 25) hx hb d_DM_end_12 (by decide) (fun c_181 => ?_) (fun c_181 => absurd c_181 (by decide))
  refine lv_aload_n hx hb d_DM_end_25 rfl (lv_at hl 0 rfl) ?_
  refine va_get (D := D) (ci := 0) (v := .ref q95) (C := R_DM) (T := F_DM) (N := 9) hx hb htw i_DM hown hC.1 hP 0 rfl rfl 3 (by decide) (htw _ k259) (fun _ h9 => h9) rfl d_DM_end_26 ?_
  refine lv_iload_n hx hb d_DM_end_29 rfl (lv_at hl 1 rfl) ?_
  refine va_put (D := D) (ci := 3) (v := .int 0) (ty := .int) (C := R_Cou) (T := F_Cou) (N := 15) hx hb htw i_Cou t_Cou t_Cou_ok n_Cou hown hC.1 hP hD hS 1 rfl rfl 1 (by decide) (htw _ k293) (fun _ h9 => h9) rfl (by decide +kernel) rfl rfl (Nat.le_of_ble_eq_true rfl) d_DM_end_30 (fun H locs hP hD hS => ?_)
  have hP : va_P D classes [(h0, .inr (0, [.ref q83, .ref q84, .ref q89, .ref q95, .ref q101, .ref q107, .ref q116, .ref q120, .ref q124])), (q95, .inr (3, [.ref z98, .int 0, .int 0, .int 0, .int 0, .int 0, .int (-1), .int (-1), .int 0, .long 0, .ref q83, .ref z99, .ref z100, .int 0, .int 0])), (q107, .inr (5, [.ref z110, .ref z111, .int (-1), .ref z87, .ref q89, .ref z112, .ref z113, .ref z114, .ref z115]))] H := hP
  have hD : va_D A [(h0, .inr (0, [.ref q83, .ref q84, .ref q89, .ref q95, .ref q101, .ref q107, .ref q116, .ref q120, .ref q124])), (q95, .inr (3, [.ref z98, .int 0, .int 0, .int 0, .int 0, .int 0, .int (-1), .int (-1), .int 0, .long 0, .ref q83, .ref z99, .ref z100, .int 0, .int 0])), (q107, .inr (5, [.ref z110, .ref z111, .int (-1), .ref z87, .ref q89, .ref z112, .ref z113, .ref z114, .ref z115]))] := hD
  refine lv_aload_n hx hb d_DM_end_33 rfl (lv_at hl 0 rfl) ?_
  refine wc_v (wr := []) hC hP hD hS [0, 1, 2] [] rfl rfl (by decide) (by decide) (va_runV (As := []) (rest := []) ⟨hx, hb, hml, hown, htw⟩ (c_DM_beginAnew l D cI cL B _ h0 q83 q84 z87 q89 q95 z98 z99 z100 q101 q107 z110 z111 z112 z113 z114 z115 q116 q120 q124) (cwV 0 htw gV_DM_108 rfl rfl rfl (by decide +kernel) ⟨Nat.le_of_ble_eq_true rfl, Nat.le_of_ble_eq_true rfl⟩) (wC_preV (As := []) hC hP hD hS [0, 1, 2] (by decide) rfl (q0 := 0) rfl rfl) rfl rfl hl.1 rfl (lv_room (Nat.le_of_ble_eq_true rfl)) d_DM_end_34 ⟨Nat.le_of_ble_eq_true rfl, Nat.le_of_ble_eq_true rfl⟩) (fun u182 H locs hw183 hP hD hS => ?_)
  have hP : va_P D classes [(h0, .inr (0, [.ref q83, .ref q84, .ref q89, .ref q95, .ref q101, .ref q107, .ref q116, .ref q120, .ref q124]))] H := hP
  have hD : va_D A [(h0, .inr (0, [.ref q83, .ref q84, .ref q89, .ref q95, .ref q101, .ref q107, .ref q116, .ref q120, .ref q124]))] := hD
  refine W.widen (k := 0) (n := 0) (by omega) (by omega) ?_
  refine W.widen (k := 0) (n := 0) (Nat.le_of_ble_eq_true rfl) (Nat.le_of_ble_eq_true rfl) ?_
  have hP9 := hP.sub (ws' := []) [] rfl
  have hD9 := hD.sub (ws' := []) [] (by decide) rfl
  exact W.vret hx hb hr (fun t ht hW => ⟨⟨(), rfl, trivial, by rw [ht]; exact hP9, va_K.moved hW.alike hC.1, hD9⟩, hS.F ht⟩) hS.2.2 d_DM_end_37

theorem d_DM_end_15 : decode prog_1_method_6_code 15 = .ok (.new 74, 3) := by decide +kernel
theorem d_DM_end_18 : decode prog_1_method_6_code 18 = .ok (.dup, 1) := by decide +kernel
theorem d_DM_end_19 : decode prog_1_method_6_code 19 = .ok (.ldc 106, 2) := by decide +kernel
theorem d_DM_end_21 : decode prog_1_method_6_code 21 = .ok (.invokespecial 78, 3) := by decide +kernel
theorem d_DM_end_24 : decode prog_1_method_6_code 24 = .ok (.athrow, 1) := by decide +kernel
set_option maxHeartbeats 4000000 in
set_option maxRecDepth 100000 in
theorem c_end_b (l : Launch) (hfl : l.stackTraces = false) (D : va_G) (cI cL : ClassId) (B sz : Nat) (h0 : Nat) (q83 : Nat) (q84 : Nat) (q89 : Nat) (q95 : Nat) (z98 : Nat) (z99 : Nat) (z100 : Nat) (q101 : Nat) (q107 : Nat) (q116 : Nat) (q120 : Nat) (q124 : Nat) (x : Int32) (hbd : x < 0 ∨ 0 < x) : tq_Met l y_DM_end ((Cond.code y_DM_end prog_1_method_6_code 2 none) :: tw) ({ frames := 50, cells := 1, slots := 6, locals := 5000 }) (va_Pc [.ref h0, .int x] (wP D cI cL B sz [(h0, .inr (0, [.ref q83, .ref q84, .ref q89, .ref q95, .ref q101, .ref q107, .ref q116, .ref q120, .ref q124])), (q95, .inr (3, [.ref z98, .int 0, .int 0, .int 0, .int 0, .int 0, .int (-1), .int (-1), .int 0, .long 0, .ref q83, .ref z99, .ref z100, .int 0, .int 0]))])) (tq_Q "java/lang/IllegalArgumentException") 1 6 := by
  refine tq_ofW (cc := prog_1_method_6_code) (maxL := 2) (ret := none) (by decide) rfl ?_
  intro p e s m args below meth c s₁ B0 hml hv
  obtain ⟨rfl, hv⟩ := hv
  have hx := B0.exec
  have hb := B0.bytes
  have hr := B0.returns
  have hts := atoms_spec (ws := (Cond.code y_DM_end prog_1_method_6_code 2 none) :: tw) B0.pre
  have htw : ∀ w ∈ tw, w.before _ s = true := fun w hw => hts w (List.mem_cons_of_mem _ hw)
  have hown : s.vm.findClass "DrawingMachine" = some m.cls := findClass_of_methodNamed B0.named
  have hlocks := B0.notSynchronized
  obtain ⟨hC, hP, hD, hsz⟩ := wC_init hv
  subst hsz
  generalize hAe : va_A [(h0, .inr (0, [.ref q83, .ref q84, .ref q89, .ref q95, .ref q101, .ref q107, .ref q116, .ref q120, .ref q124])), (q95, .inr (3, [.ref z98, .int 0, .int 0, .int 0, .int 0, .int 0, .int (-1), .int (-1), .int 0, .long 0, .ref q83, .ref z99, .ref z100, .int 0, .int 0]))] s.heap.size = A at hC hD
  have hS : va_S A s.heap s.heap [] := va_S.rf
  have hl := lv_entry ([.ref h0, .int x]) (n := 2) (Nat.le_of_ble_eq_true rfl)
  rw [lg_entry_eq]
  generalize (lg_sl ([.ref h0, .int x]) ++ List.replicate (2 - (lg_sl ([.ref h0, .int x])).length) Slot.unset).toArray = ls at hl ⊢
  have hl : lv_has ls 2 [(0, .ref h0), (1, .int x)] := hl
  have htr : e.platform.stackTraces = false := by rw [(Stand.of_body B0).admits.platform]; exact hfl
  have hout : c.exceptionTable.isEmpty = true := BodyLoose.noHandlers B0 (hts _ List.mem_cons_self)
  refine lv_iload_n hx hb d_DM_end_0 rfl (lv_at hl 1 rfl) ?_
  refine lv_if_lt (tgt := 15) hx hb d_DM_end_1 (by decide) (fun c_184 => ?_) (fun c_184 => ?_)
  ·
    exact tq_throwH hx hb htr hown (by decide) (by decide) (own_use htw hC own_IA) (htw _ k282) (htw _ k885) (hC.2.2.1.2.2.2.1 (106, "the stream has not so many words") (by decide)) (hml.trans hl.1.symm) hout hlocks d_DM_end_15 d_DM_end_18 d_DM_end_19 d_DM_end_21 d_DM_end_24 (Nat.le_of_ble_eq_true rfl) (Nat.le_of_ble_eq_true rfl) (Nat.le_of_ble_eq_true rfl) (Nat.le_of_ble_eq_true rfl) hS.1 (fun q hq => by cases hq)
  ·
    refine lv_iload_n hx hb d_DM_end_4 rfl (lv_at hl 1 rfl) ?_
    refine lv_aload_n hx hb d_DM_end_5 rfl (lv_at hl 0 rfl) ?_
    refine va_get (D := D) (ci := 0) (v := .ref q95) (C := R_DM) (T := F_DM) (N := 9) hx hb htw i_DM hown hC.1 hP 0 rfl rfl 3 (by decide) (htw _ k259) (fun _ h9 => h9) rfl d_DM_end_6 ?_
    refine va_get (D := D) (ci := 3) (v := .int 0) (C := R_Cou) (T := F_Cou) (N := 15) hx hb htw i_Cou hown hC.1 hP 1 rfl rfl 1 (by decide) (htw _ k293) (fun _ h9 => h9) rfl d_DM_end_9 ?_
    refine lv_icmp_le (tgt := 25) hx hb d_DM_end_12 (by decide) (fun c_185 => absurd hbd (not_or.mpr ⟨c_184, Int32.not_lt.mpr c_185⟩)) (fun c_185 => ?_)
    exact tq_throwH hx hb htr hown (by decide) (by decide) (own_use htw hC own_IA) (htw _ k282) (htw _ k885) (hC.2.2.1.2.2.2.1 (106, "the stream has not so many words") (by decide)) (hml.trans hl.1.symm) hout hlocks d_DM_end_15 d_DM_end_18 d_DM_end_19 d_DM_end_21 d_DM_end_24 (Nat.le_of_ble_eq_true rfl) (Nat.le_of_ble_eq_true rfl) (Nat.le_of_ble_eq_true rfl) (Nat.le_of_ble_eq_true rfl) hS.1 (fun q hq => by cases hq)

theorem d_DM_begin_0 : decode prog_1_method_7_code 0 = .ok (.aload_n 0, 1) := by decide +kernel
theorem d_DM_begin_1 : decode prog_1_method_7_code 1 = .ok (.invokevirtual 108, 3) := by decide +kernel
theorem d_DM_begin_4 : decode prog_1_method_7_code 4 = .ok (.iload_n 1, 1) := by decide +kernel
theorem d_DM_begin_5 : decode prog_1_method_7_code 5 = .ok (.ifCond .ne 26, 3) := by decide +kernel
theorem d_DM_begin_8 : decode prog_1_method_7_code 8 = .ok (.aload_n 0, 1) := by decide +kernel
theorem d_DM_begin_9 : decode prog_1_method_7_code 9 = .ok (.getfield 16, 3) := by decide +kernel
theorem d_DM_begin_12 : decode prog_1_method_7_code 12 = .ok (.invokevirtual 111, 3) := by decide +kernel
theorem d_DM_begin_15 : decode prog_1_method_7_code 15 = .ok (.aload_n 0, 1) := by decide +kernel
theorem d_DM_begin_16 : decode prog_1_method_7_code 16 = .ok (.getfield 57, 3) := by decide +kernel
theorem d_DM_begin_19 : decode prog_1_method_7_code 19 = .ok (.iconst 0, 1) := by decide +kernel
theorem d_DM_begin_20 : decode prog_1_method_7_code 20 = .ok (.putfield 114, 3) := by decide +kernel
theorem d_DM_begin_23 : decode prog_1_method_7_code 23 = .ok (.aload_n 0, 1) := by decide +kernel
theorem d_DM_begin_24 : decode prog_1_method_7_code 24 = .ok (.getfield 61, 3) := by decide +kernel
theorem d_DM_begin_27 : decode prog_1_method_7_code 27 = .ok (.iconst 0, 1) := by decide +kernel
theorem d_DM_begin_28 : decode prog_1_method_7_code 28 = .ok (.putfield 114, 3) := by decide +kernel
theorem d_DM_begin_31 : decode prog_1_method_7_code 31 = .ok (.return_, 1) := by decide +kernel
theorem gV_DM_111 : GoodIn tw (wsV "DrawingMachine" 111 "DrawingMachine$Told" y_Told_forget ((Cond.code y_Told_forget prog_11_method_2_code 2 none) :: tw)) := tw_pre (fun _ h => h) (tw_good (fun _ h => h) k312) (List.forall_mem_cons.mpr ⟨k309, List.forall_mem_cons.mpr ⟨k310, List.forall_mem_cons.mpr ⟨k311, List.forall_mem_cons.mpr ⟨k11, fun _ h => absurd h List.not_mem_nil⟩⟩⟩⟩)
set_option maxHeartbeats 4000000 in
set_option maxRecDepth 100000 in
theorem c_begin_0 (l : Launch) (D : va_G) (cI cL : ClassId) (B sz : Nat) (h0 : Nat) (q83 : Nat) (q84 : Nat) (z87 : Nat) (z88 : Nat → Int32) (q89 : Nat) (q95 : Nat) (z98 : Nat) (z99 : Nat) (z100 : Nat) (q101 : Nat) (q107 : Nat) (z110 : Nat) (z111 : Nat) (z112 : Nat) (z113 : Nat) (z114 : Nat) (z115 : Nat) (q116 : Nat) (z119 : Nat) (q120 : Nat) (z123 : Nat) (q124 : Nat) : Met l y_DM_begin ((Cond.code y_DM_begin prog_1_method_7_code 2 none) :: tw) ({ frames := 50, cells := 0, slots := 0, locals := 5000 }) (va_Pc [.ref h0, .int 0] (wP D cI cL B sz [(h0, .inr (0, [.ref q83, .ref q84, .ref q89, .ref q95, .ref q101, .ref q107, .ref q116, .ref q120, .ref q124])), (q95, .inr (3, [.ref z98, .int 0, .int 0, .int 0, .int 0, .int 0, .int (-1), .int (-1), .int 0, .long 0, .ref q83, .ref z99, .ref z100, .int 0, .int 0])), (q107, .inr (5, [.ref z110, .ref z111, .int (-1), .ref z87, .ref q89, .ref z112, .ref z113, .ref z114, .ref z115])), (q84, .inr (1, [.ref z87])), (z87, .inl (cI, 245, .inl z88)), (q116, .inr (11, [.ref z119, .int 0, .int 0, .int 0])), (q120, .inr (11, [.ref z123, .int 0, .int 0, .int 0]))])) (va_Qv (S := Unit) (fun _ => True) (fun u => wB D cI cL (va_A [(h0, .inr (0, [.ref q83, .ref q84, .ref q89, .ref q95, .ref q101, .ref q107, .ref q116, .ref q120, .ref q124])), (q95, .inr (3, [.ref z98, .int 0, .int 0, .int 0, .int 0, .int 0, .int (-1), .int (-1), .int 0, .long 0, .ref q83, .ref z99, .ref z100, .int 0, .int 0])), (q107, .inr (5, [.ref z110, .ref z111, .int (-1), .ref z87, .ref q89, .ref z112, .ref z113, .ref z114, .ref z115])), (q84, .inr (1, [.ref z87])), (z87, .inl (cI, 245, .inl z88)), (q116, .inr (11, [.ref z119, .int 0, .int 0, .int 0])), (q120, .inr (11, [.ref z123, .int 0, .int 0, .int 0]))] sz) ((fun _ : Unit => []) u)) (va_A [(h0, .inr (0, [.ref q83, .ref q84, .ref q89, .ref q95, .ref q101, .ref q107, .ref q116, .ref q120, .ref q124])), (q95, .inr (3, [.ref z98, .int 0, .int 0, .int 0, .int 0, .int 0, .int (-1), .int (-1), .int 0, .long 0, .ref q83, .ref z99, .ref z100, .int 0, .int 0])), (q107, .inr (5, [.ref z110, .ref z111, .int (-1), .ref z87, .ref q89, .ref z112, .ref z113, .ref z114, .ref z115])), (q84, .inr (1, [.ref z87])), (z87, .inl (cI, 245, .inl z88)), (q116, .inr (11, [.ref z119, .int 0, .int 0, .int 0])), (q120, .inr (11, [.ref z123, .int 0, .int 0, .int 0]))] sz)) 0 0 (va_A [(h0, .inr (0, [.ref q83, .ref q84, .ref q89, .ref q95, .ref q101, .ref q107, .ref q116, .ref q120, .ref q124])), (q95, .inr (3, [.ref z98, .int 0, .int 0, .int 0, .int 0, .int 0, .int (-1), .int (-1), .int 0, .long 0, .ref q83, .ref z99, .ref z100, .int 0, .int 0])), (q107, .inr (5, [.ref z110, .ref z111, .int (-1), .ref z87, .ref q89, .ref z112, .ref z113, .ref z114, .ref z115])), (q84, .inr (1, [.ref z87])), (z87, .inl (cI, 245, .inl z88)), (q116, .inr (11, [.ref z119, .int 0, .int 0, .int 0])), (q120, .inr (11, [.ref z123, .int 0, .int 0, .int 0]))] sz) := by
  refine Met.ofW (cc := prog_1_method_7_code) (maxL := 2) (ret := none) (by decide) rfl ?_
  intro p e s m args below meth c s₁ B0 hml hv
  obtain ⟨rfl, hv⟩ := hv
  have hx := B0.exec
  have hb := B0.bytes
  have hr := B0.returns
  have hts := atoms_spec (ws := (Cond.code y_DM_begin prog_1_method_7_code 2 none) :: tw) B0.pre
  have htw : ∀ w ∈ tw, w.before _ s = true := fun w hw => hts w (List.mem_cons_of_mem _ hw)
  have hown : s.vm.findClass "DrawingMachine" = some m.cls := findClass_of_methodNamed B0.named
  have hlocks := B0.notSynchronized
  obtain ⟨hC, hP, hD, hsz⟩ := wC_init hv
  subst hsz
  generalize hAe : va_A [(h0, .inr (0, [.ref q83, .ref q84, .ref q89, .ref q95, .ref q101, .ref q107, .ref q116, .ref q120, .ref q124])), (q95, .inr (3, [.ref z98, .int 0, .int 0, .int 0, .int 0, .int 0, .int (-1), .int (-1), .int 0, .long 0, .ref q83, .ref z99, .ref z100, .int 0, .int 0])), (q107, .inr (5, [.ref z110, .ref z111, .int (-1), .ref z87, .ref q89, .ref z112, .ref z113, .ref z114, .ref z115])), (q84, .inr (1, [.ref z87])), (z87, .inl (cI, 245, .inl z88)), (q116, .inr (11, [.ref z119, .int 0, .int 0, .int 0])), (q120, .inr (11, [.ref z123, .int 0, .int 0, .int 0]))] s.heap.size = A at hC hD ⊢
  have hS : va_S A s.heap s.heap [] := va_S.rf
  have hl := lv_entry ([.ref h0, .int 0]) (n := 2) (Nat.le_of_ble_eq_true rfl)
  rw [lg_entry_eq]
  generalize (lg_sl ([.ref h0, .int 0]) ++ List.replicate (2 - (lg_sl ([.ref h0, .int 0])).length) Slot.unset).toArray = ls at hl ⊢
  have hl : lv_has ls 2 [(0, .ref h0), (1, .int 0)] := hl
  refine lv_aload_n hx hb d_DM_begin_0 rfl (lv_at hl 0 rfl) ?_
  refine wc_v (wr := [(q84, .inr (1, [.ref z87])), (z87, .inl (cI, 245, .inl z88)), (q116, .inr (11, [.ref z119, .int 0, .int 0, .int 0])), (q120, .inr (11, [.ref z123, .int 0, .int 0, .int 0]))]) hC hP hD hS [0, 1, 2] [3, 4, 5, 6] rfl rfl (by decide) (by decide) (va_runV (As := []) (rest := []) ⟨hx, hb, hml, hown, htw⟩ (c_DM_beginAnew l D cI cL B _ h0 q83 q84 z87 q89 q95 z98 z99 z100 q101 q107 z110 z111 z112 z113 z114 z115 q116 q120 q124) (cwV 0 htw gV_DM_108 rfl rfl rfl (by decide +kernel) ⟨Nat.le_of_ble_eq_true rfl, Nat.le_of_ble_eq_true rfl⟩) (wC_preV (As := []) hC hP hD hS [0, 1, 2] (by decide) rfl (q0 := 0) rfl rfl) rfl rfl hl.1 rfl (lv_room (Nat.le_of_ble_eq_true rfl)) d_DM_begin_1 ⟨Nat.le_of_ble_eq_true rfl, Nat.le_of_ble_eq_true rfl⟩) (fun u186 H locs hw187 hP hD hS => ?_)
  have hP : va_P D classes [(q84, .inr (1, [.ref z87])), (z87, .inl (cI, 245, .inl z88)), (q116, .inr (11, [.ref z119, .int 0, .int 0, .int 0])), (q120, .inr (11, [.ref z123, .int 0, .int 0, .int 0])), (h0, .inr (0, [.ref q83, .ref q84, .ref q89, .ref q95, .ref q101, .ref q107, .ref q116, .ref q120, .ref q124]))] H := hP
  have hD : va_D A [(q84, .inr (1, [.ref z87])), (z87, .inl (cI, 245, .inl z88)), (q116, .inr (11, [.ref z119, .int 0, .int 0, .int 0])), (q120, .inr (11, [.ref z123, .int 0, .int 0, .int 0])), (h0, .inr (0, [.ref q83, .ref q84, .ref q89, .ref q95, .ref q101, .ref q107, .ref q116, .ref q120, .ref q124]))] := hD
  refine W.widen (k := 0) (n := 0) (by omega) (by omega) ?_
  refine lv_iload_n hx hb d_DM_begin_4 rfl (lv_at hl 1 rfl) ?_
  refine lv_if_ne (tgt := 31) hx hb d_DM_begin_5 (by decide) (fun c_188 => absurd c_188 (by decide)) (fun c_188 => ?_)
  refine lv_aload_n hx hb d_DM_begin_8 rfl (lv_at hl 0 rfl) ?_
  refine va_get (D := D) (ci := 0) (v := .ref q84) (C := R_DM) (T := F_DM) (N := 9) hx hb htw i_DM hown hC.1 hP 4 rfl rfl 1 (by decide) (htw _ k249) (fun _ h9 => h9) rfl d_DM_begin_9 ?_
  refine wc_v (wr := [(q116, .inr (11, [.ref z119, .int 0, .int 0, .int 0])), (q120, .inr (11, [.ref z123, .int 0, .int 0, .int 0])), (h0, .inr (0, [.ref q83, .ref q84, .ref q89, .ref q95, .ref q101, .ref q107, .ref q116, .ref q120, .ref q124]))]) hC hP hD hS [0, 1] [2, 3, 4] rfl rfl (by decide) (by decide) (va_runV (As := []) (rest := []) ⟨hx, hb, hml, hown, htw⟩ (c_Told_forget l D cI cL B _ q84 z87 z88) (cwV 0 htw gV_DM_111 rfl rfl rfl (by decide +kernel) ⟨Nat.le_of_ble_eq_true rfl, Nat.le_of_ble_eq_true rfl⟩) (wC_preV (As := []) hC hP hD hS [0, 1] (by decide) rfl (q0 := 0) rfl rfl) rfl rfl hl.1 rfl (lv_room (Nat.le_of_ble_eq_true rfl)) d_DM_begin_12 ⟨Nat.le_of_ble_eq_true rfl, Nat.le_of_ble_eq_true rfl⟩) (fun u189 H locs hw190 hP hD hS => ?_)
  obtain ⟨z191, rfl⟩ : ∃ z, z = u189 := ⟨_, rfl⟩
  have hP : va_P D classes [(q116, .inr (11, [.ref z119, .int 0, .int 0, .int 0])), (q120, .inr (11, [.ref z123, .int 0, .int 0, .int 0])), (h0, .inr (0, [.ref q83, .ref q84, .ref q89, .ref q95, .ref q101, .ref q107, .ref q116, .ref q120, .ref q124])), (q84, .inr (1, [.ref z87])), (z87, .inl (cI, 245, .inl z191))] H := hP
  have hD : va_D A [(q116, .inr (11, [.ref z119, .int 0, .int 0, .int 0])), (q120, .inr (11, [.ref z123, .int 0, .int 0, .int 0])), (h0, .inr (0, [.ref q83, .ref q84, .ref q89, .ref q95, .ref q101, .ref q107, .ref q116, .ref q120, .ref q124])), (q84, .inr (1, [.ref z87])), (z87, .inl (cI, 245, .inl z191))] := hD
  refine W.widen (k := 0) (n := 0) (by omega) (by omega) ?_
  refine lv_aload_n hx hb d_DM_begin_15 rfl (lv_at hl 0 rfl) ?_
  refine va_get (D := D) (ci := 0) (v := .ref q116) (C := R_DM) (T := F_DM) (N := 9) hx hb htw i_DM hown hC.1 hP 2 rfl rfl 6 (by decide) (htw _ k272) (fun _ h9 => h9) rfl d_DM_begin_16 ?_
  refine lv_iconst (v := 0) hx hb d_DM_begin_19 (by decide) ?_
  refine va_put (D := D) (ci := 11) (v := .int 0) (ty := .int) (C := R_Prg) (T := F_Prg) (N := 4) hx hb htw i_Prg t_Prg t_Prg_ok n_Prg hown hC.1 hP hD hS 0 rfl rfl 1 (by decide) (htw _ k313) (fun _ h9 => h9) rfl (by decide +kernel) rfl rfl (Nat.le_of_ble_eq_true rfl) d_DM_begin_20 (fun H locs hP hD hS => ?_)
  have hP : va_P D classes [(q116, .inr (11, [.ref z119, .int 0, .int 0, .int 0])), (q120, .inr (11, [.ref z123, .int 0, .int 0, .int 0])), (h0, .inr (0, [.ref q83, .ref q84, .ref q89, .ref q95, .ref q101, .ref q107, .ref q116, .ref q120, .ref q124])), (q84, .inr (1, [.ref z87])), (z87, .inl (cI, 245, .inl z191))] H := hP
  have hD : va_D A [(q116, .inr (11, [.ref z119, .int 0, .int 0, .int 0])), (q120, .inr (11, [.ref z123, .int 0, .int 0, .int 0])), (h0, .inr (0, [.ref q83, .ref q84, .ref q89, .ref q95, .ref q101, .ref q107, .ref q116, .ref q120, .ref q124])), (q84, .inr (1, [.ref z87])), (z87, .inl (cI, 245, .inl z191))] := hD
  refine lv_aload_n hx hb d_DM_begin_23 rfl (lv_at hl 0 rfl) ?_
  refine va_get (D := D) (ci := 0) (v := .ref q120) (C := R_DM) (T := F_DM) (N := 9) hx hb htw i_DM hown hC.1 hP 2 rfl rfl 7 (by decide) (htw _ k273) (fun _ h9 => h9) rfl d_DM_begin_24 ?_
  refine lv_iconst (v := 0) hx hb d_DM_begin_27 (by decide) ?_
  refine va_put (D := D) (ci := 11) (v := .int 0) (ty := .int) (C := R_Prg) (T := F_Prg) (N := 4) hx hb htw i_Prg t_Prg t_Prg_ok n_Prg hown hC.1 hP hD hS 1 rfl rfl 1 (by decide) (htw _ k313) (fun _ h9 => h9) rfl (by decide +kernel) rfl rfl (Nat.le_of_ble_eq_true rfl) d_DM_begin_28 (fun H locs hP hD hS => ?_)
  have hP : va_P D classes [(q116, .inr (11, [.ref z119, .int 0, .int 0, .int 0])), (q120, .inr (11, [.ref z123, .int 0, .int 0, .int 0])), (h0, .inr (0, [.ref q83, .ref q84, .ref q89, .ref q95, .ref q101, .ref q107, .ref q116, .ref q120, .ref q124])), (q84, .inr (1, [.ref z87])), (z87, .inl (cI, 245, .inl z191))] H := hP
  have hD : va_D A [(q116, .inr (11, [.ref z119, .int 0, .int 0, .int 0])), (q120, .inr (11, [.ref z123, .int 0, .int 0, .int 0])), (h0, .inr (0, [.ref q83, .ref q84, .ref q89, .ref q95, .ref q101, .ref q107, .ref q116, .ref q120, .ref q124])), (q84, .inr (1, [.ref z87])), (z87, .inl (cI, 245, .inl z191))] := hD
  refine W.widen (k := 0) (n := 0) (Nat.le_of_ble_eq_true rfl) (Nat.le_of_ble_eq_true rfl) ?_
  have hP9 := hP.sub (ws' := []) [] rfl
  have hD9 := hD.sub (ws' := []) [] (by decide) rfl
  exact W.vret hx hb hr (fun t ht hW => ⟨⟨(), rfl, trivial, by rw [ht]; exact hP9, va_K.moved hW.alike hC.1, hD9⟩, hS.F ht⟩) hS.2.2 d_DM_begin_31

set_option maxHeartbeats 4000000 in
set_option maxRecDepth 100000 in
theorem c_begin_1 (l : Launch) (D : va_G) (cI cL : ClassId) (B sz : Nat) (h0 : Nat) (q83 : Nat) (q84 : Nat) (z87 : Nat) (q89 : Nat) (q95 : Nat) (z98 : Nat) (z99 : Nat) (z100 : Nat) (q101 : Nat) (q107 : Nat) (z110 : Nat) (z111 : Nat) (z112 : Nat) (z113 : Nat) (z114 : Nat) (z115 : Nat) (q116 : Nat) (q120 : Nat) (q124 : Nat) : Met l y_DM_begin ((Cond.code y_DM_begin prog_1_method_7_code 2 none) :: tw) ({ frames := 50, cells := 0, slots := 0, locals := 5000 }) (va_Pc [.ref h0, .int 1] (wP D cI cL B sz [(h0, .inr (0, [.ref q83, .ref q84, .ref q89, .ref q95, .ref q101, .ref q107, .ref q116, .ref q120, .ref q124])), (q95, .inr (3, [.ref z98, .int 0, .int 0, .int 0, .int 0, .int 0, .int (-1), .int (-1), .int 0, .long 0, .ref q83, .ref z99, .ref z100, .int 0, .int 0])), (q107, .inr (5, [.ref z110, .ref z111, .int (-1), .ref z87, .ref q89, .ref z112, .ref z113, .ref z114, .ref z115]))])) (va_Qv (S := Unit) (fun _ => True) (fun u => wB D cI cL (va_A [(h0, .inr (0, [.ref q83, .ref q84, .ref q89, .ref q95, .ref q101, .ref q107, .ref q116, .ref q120, .ref q124])), (q95, .inr (3, [.ref z98, .int 0, .int 0, .int 0, .int 0, .int 0, .int (-1), .int (-1), .int 0, .long 0, .ref q83, .ref z99, .ref z100, .int 0, .int 0])), (q107, .inr (5, [.ref z110, .ref z111, .int (-1), .ref z87, .ref q89, .ref z112, .ref z113, .ref z114, .ref z115]))] sz) ((fun _ : Unit => []) u)) (va_A [(h0, .inr (0, [.ref q83, .ref q84, .ref q89, .ref q95, .ref q101, .ref q107, .ref q116, .ref q120, .ref q124])), (q95, .inr (3, [.ref z98, .int 0, .int 0, .int 0, .int 0, .int 0, .int (-1), .int (-1), .int 0, .long 0, .ref q83, .ref z99, .ref z100, .int 0, .int 0])), (q107, .inr (5, [.ref z110, .ref z111, .int (-1), .ref z87, .ref q89, .ref z112, .ref z113, .ref z114, .ref z115]))] sz)) 0 0 (va_A [(h0, .inr (0, [.ref q83, .ref q84, .ref q89, .ref q95, .ref q101, .ref q107, .ref q116, .ref q120, .ref q124])), (q95, .inr (3, [.ref z98, .int 0, .int 0, .int 0, .int 0, .int 0, .int (-1), .int (-1), .int 0, .long 0, .ref q83, .ref z99, .ref z100, .int 0, .int 0])), (q107, .inr (5, [.ref z110, .ref z111, .int (-1), .ref z87, .ref q89, .ref z112, .ref z113, .ref z114, .ref z115]))] sz) := by
  refine Met.ofW (cc := prog_1_method_7_code) (maxL := 2) (ret := none) (by decide) rfl ?_
  intro p e s m args below meth c s₁ B0 hml hv
  obtain ⟨rfl, hv⟩ := hv
  have hx := B0.exec
  have hb := B0.bytes
  have hr := B0.returns
  have hts := atoms_spec (ws := (Cond.code y_DM_begin prog_1_method_7_code 2 none) :: tw) B0.pre
  have htw : ∀ w ∈ tw, w.before _ s = true := fun w hw => hts w (List.mem_cons_of_mem _ hw)
  have hown : s.vm.findClass "DrawingMachine" = some m.cls := findClass_of_methodNamed B0.named
  have hlocks := B0.notSynchronized
  obtain ⟨hC, hP, hD, hsz⟩ := wC_init hv
  subst hsz
  generalize hAe : va_A [(h0, .inr (0, [.ref q83, .ref q84, .ref q89, .ref q95, .ref q101, .ref q107, .ref q116, .ref q120, .ref q124])), (q95, .inr (3, [.ref z98, .int 0, .int 0, .int 0, .int 0, .int 0, .int (-1), .int (-1), .int 0, .long 0, .ref q83, .ref z99, .ref z100, .int 0, .int 0])), (q107, .inr (5, [.ref z110, .ref z111, .int (-1), .ref z87, .ref q89, .ref z112, .ref z113, .ref z114, .ref z115]))] s.heap.size = A at hC hD ⊢
  have hS : va_S A s.heap s.heap [] := va_S.rf
  have hl := lv_entry ([.ref h0, .int 1]) (n := 2) (Nat.le_of_ble_eq_true rfl)
  rw [lg_entry_eq]
  generalize (lg_sl ([.ref h0, .int 1]) ++ List.replicate (2 - (lg_sl ([.ref h0, .int 1])).length) Slot.unset).toArray = ls at hl ⊢
  have hl : lv_has ls 2 [(0, .ref h0), (1, .int 1)] := hl
  refine lv_aload_n hx hb d_DM_begin_0 rfl (lv_at hl 0 rfl) ?_
  refine wc_v (wr := []) hC hP hD hS [0, 1, 2] [] rfl rfl (by decide) (by decide) (va_runV (As := []) (rest := []) ⟨hx, hb, hml, hown, htw⟩ (c_DM_beginAnew l D cI cL B _ h0 q83 q84 z87 q89 q95 z98 z99 z100 q101 q107 z110 z111 z112 z113 z114 z115 q116 q120 q124) (cwV 0 htw gV_DM_108 rfl rfl rfl (by decide +kernel) ⟨Nat.le_of_ble_eq_true rfl, Nat.le_of_ble_eq_true rfl⟩) (wC_preV (As := []) hC hP hD hS [0, 1, 2] (by decide) rfl (q0 := 0) rfl rfl) rfl rfl hl.1 rfl (lv_room (Nat.le_of_ble_eq_true rfl)) d_DM_begin_1 ⟨Nat.le_of_ble_eq_true rfl, Nat.le_of_ble_eq_true rfl⟩) (fun u192 H locs hw193 hP hD hS => ?_)
  have hP : va_P D classes [(h0, .inr (0, [.ref q83, .ref q84, .ref q89, .ref q95, .ref q101, .ref q107, .ref q116, .ref q120, .ref q124]))] H := hP
  have hD : va_D A [(h0, .inr (0, [.ref q83, .ref q84, .ref q89, .ref q95, .ref q101, .ref q107, .ref q116, .ref q120, .ref q124]))] := hD
  refine W.widen (k := 0) (n := 0) (by omega) (by omega) ?_
  refine lv_iload_n hx hb d_DM_begin_4 rfl (lv_at hl 1 rfl) ?_
  refine lv_if_ne (tgt := 31) hx hb d_DM_begin_5 (by decide) (fun c_194 => ?_) (fun c_194 => absurd c_194 (by decide))
  refine W.widen (k := 0) (n := 0) (Nat.le_of_ble_eq_true rfl) (Nat.le_of_ble_eq_true rfl) ?_
  have hP9 := hP.sub (ws' := []) [] rfl
  have hD9 := hD.sub (ws' := []) [] (by decide) rfl
  exact W.vret hx hb hr (fun t ht hW => ⟨⟨(), rfl, trivial, by rw [ht]; exact hP9, va_K.moved hW.alike hC.1, hD9⟩, hS.F ht⟩) hS.2.2 d_DM_begin_31
