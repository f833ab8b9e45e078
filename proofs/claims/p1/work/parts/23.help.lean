theorem d_law_word_0 : decode method_4_code 0 = .ok (.aload_n 3, 1) := by decide +kernel
theorem d_law_word_1 : decode method_4_code 1 = .ok (.iconst 0, 1) := by decide +kernel
theorem d_law_word_2 : decode method_4_code 2 = .ok (.aload_n 0, 1) := by decide +kernel
theorem d_law_word_3 : decode method_4_code 3 = .ok (.iload_n 1, 1) := by decide +kernel
theorem d_law_word_4 : decode method_4_code 4 = .ok (.iload_n 2, 1) := by decide +kernel
theorem d_law_word_5 : decode method_4_code 5 = .ok (.invokevirtual 15, 3) := by decide +kernel
theorem d_law_word_8 : decode method_4_code 8 = .ok (.i2l, 1) := by decide +kernel
theorem d_law_word_9 : decode method_4_code 9 = .ok (.lastore, 1) := by decide +kernel
theorem d_law_word_10 : decode method_4_code 10 = .ok (.goto 7, 3) := by decide +kernel
theorem d_law_word_17 : decode method_4_code 17 = .ok (.iconst 0, 1) := by decide +kernel
theorem d_law_word_18 : decode method_4_code 18 = .ok (.ireturn, 1) := by decide +kernel
theorem gV_law_15 : GoodIn tw (wsV "DrawingMachineLaw" 15 "DrawingMachine" y_DM_word ((Cond.code y_DM_word prog_1_method_3_code 4 (some .int)) :: tw)) := tw_pre (fun _ h => h) (tw_good (fun _ h => h) k288) (List.forall_mem_cons.mpr ⟨k770, List.forall_mem_cons.mpr ⟨k771, List.forall_mem_cons.mpr ⟨k772, List.forall_mem_cons.mpr ⟨k0, fun _ h => absurd h List.not_mem_nil⟩⟩⟩⟩)
set_option maxHeartbeats 4000000 in
set_option maxRecDepth 100000 in
theorem c_hword_g (l : Launch) (D : va_G) (cI cL : ClassId) (B sz : Nat) (h0 : Nat) (q83 : Nat) (q84 : Nat) (q89 : Nat) (q95 : Nat) (q101 : Nat) (q107 : Nat) (q116 : Nat) (q120 : Nat) (q124 : Nat) (j : Nat) (v : Int32) (ou : Nat) (hj : j < 4096) : Met l y_law_word ((Cond.codeWith y_law_word method_4_code 5 (some .int) [(0, 10, 13, 19)]) :: tw) ({ frames := 70, cells := 0, slots := 0, locals := 7000 }) (va_Pc [.ref h0, .int (nI j), .int v, .ref ou] (wP D cI cL B sz [(h0, .inr (0, [.ref q83, .ref q84, .ref q89, .ref q95, .ref q101, .ref q107, .ref q116, .ref q120, .ref q124])), (q83, .inl (cI, 4096, .inl (fun _ => 0))), (ou, .inl (cL, 1, .inr (.inl (fun _ => 0))))])) (va_Qi (S := Unit) (fun r u => r = 0) (fun u => wB D cI cL (va_A [(h0, .inr (0, [.ref q83, .ref q84, .ref q89, .ref q95, .ref q101, .ref q107, .ref q116, .ref q120, .ref q124])), (q83, .inl (cI, 4096, .inl (fun _ => 0))), (ou, .inl (cL, 1, .inr (.inl (fun _ => 0))))] sz) ((fun _ : Unit => [(ou, .inl (cL, 1, .inr (.inl (vp_updL (fun _ => 0) (0 : Int32).toNatClampNeg 0))))]) u)) (va_A [(h0, .inr (0, [.ref q83, .ref q84, .ref q89, .ref q95, .ref q101, .ref q107, .ref q116, .ref q120, .ref q124])), (q83, .inl (cI, 4096, .inl (fun _ => 0))), (ou, .inl (cL, 1, .inr (.inl (fun _ => 0))))] sz)) 0 0 (va_A [(h0, .inr (0, [.ref q83, .ref q84, .ref q89, .ref q95, .ref q101, .ref q107, .ref q116, .ref q120, .ref q124])), (q83, .inl (cI, 4096, .inl (fun _ => 0))), (ou, .inl (cL, 1, .inr (.inl (fun _ => 0))))] sz) := by
  refine va_MetW (cc := method_4_code) (maxL := 5) (ret := (some .int)) (hh := [(0, 10, 13, 19)]) (by decide) rfl ?_
  intro p e s m args below meth c s₁ B0 hml hv
  obtain ⟨rfl, hv⟩ := hv
  have hx := B0.exec
  have hb := B0.bytes
  have hr := B0.returns
  have hts := atoms_spec (ws := (Cond.codeWith y_law_word method_4_code 5 (some .int) [(0, 10, 13, 19)]) :: tw) B0.pre
  have htw : ∀ w ∈ tw, w.before _ s = true := fun w hw => hts w (List.mem_cons_of_mem _ hw)
  have hown : s.vm.findClass "DrawingMachineLaw" = some m.cls := findClass_of_methodNamed B0.named
  have hlocks := B0.notSynchronized
  obtain ⟨hC, hP, hD, hsz⟩ := wC_init hv
  subst hsz
  generalize hAe : va_A [(h0, .inr (0, [.ref q83, .ref q84, .ref q89, .ref q95, .ref q101, .ref q107, .ref q116, .ref q120, .ref q124])), (q83, .inl (cI, 4096, .inl (fun _ => 0))), (ou, .inl (cL, 1, .inr (.inl (fun _ => 0))))] s.heap.size = A at hC hD ⊢
  have hS : va_S A s.heap s.heap [] := va_S.rf
  have hl := lv_entry ([.ref h0, .int (nI j), .int v, .ref ou]) (n := 5) (Nat.le_of_ble_eq_true rfl)
  rw [lg_entry_eq]
  generalize (lg_sl ([.ref h0, .int (nI j), .int v, .ref ou]) ++ List.replicate (5 - (lg_sl ([.ref h0, .int (nI j), .int v, .ref ou])).length) Slot.unset).toArray = ls at hl ⊢
  have hl : lv_has ls 5 [(0, .ref h0), (1, .int (nI j)), (2, .int v), (3, .ref ou)] := hl
  refine lv_aload_n hx hb d_law_word_0 rfl (lv_at hl 3 rfl) ?_
  refine lv_iconst (v := 0) hx hb d_law_word_1 (by decide) ?_
  refine lv_aload_n hx hb d_law_word_2 rfl (lv_at hl 0 rfl) ?_
  refine lv_iload_n hx hb d_law_word_3 rfl (lv_at hl 1 rfl) ?_
  refine lv_iload_n hx hb d_law_word_4 rfl (lv_at hl 2 rfl) ?_
  refine wc_i (wr := [(ou, .inl (cL, 1, .inr (.inl (fun _ => 0))))]) hC hP hD hS [0, 1] [2] rfl rfl (by decide) (by decide) (va_runV (As := [.int (nI j), .int v]) (rest := [.int 0, .ref ou]) ⟨hx, hb, hml, hown, htw⟩ (c_word_g l D cI cL B _ h0 q83 q84 q89 q95 q101 q107 q116 q120 q124 j v (hj)) (cwV 2 htw gV_law_15 rfl rfl rfl (by decide +kernel) ⟨Nat.le_of_ble_eq_true rfl, Nat.le_of_ble_eq_true rfl⟩) (wC_preV (As := [.int (nI j), .int v]) hC hP hD hS [0, 1] (by decide) rfl (q0 := 0) rfl rfl) rfl rfl hl.1 rfl (lv_room (Nat.le_of_ble_eq_true rfl)) d_law_word_5 ⟨Nat.le_of_ble_eq_true rfl, Nat.le_of_ble_eq_true rfl⟩) (fun r1374 u1372 H locs hw1373 hP hD hS => ?_)
  obtain rfl : r1374 = 0 := hw1373
  have hP : va_P D classes [(ou, .inl (cL, 1, .inr (.inl (fun _ => 0))))] H := hP
  have hD : va_D A [(ou, .inl (cL, 1, .inr (.inl (fun _ => 0))))] := hD
  refine W.widen (k := 0) (n := 0) (by omega) (by omega) ?_
  refine lv_i2l (v := 0) hx hb d_law_word_8 (by decide) ?_
  refine va_last hx hb hC.1 hP hD hS 0 1 rfl rfl (by unfold vp_in; decide) d_law_word_9 (fun H locs hP hD hS => ?_)
  have hP : va_P D classes [(ou, .inl (cL, 1, .inr (.inl (vp_updL (fun _ => 0) (0 : Int32).toNatClampNeg 0))))] H := hP
  have hD : va_D A [(ou, .inl (cL, 1, .inr (.inl (vp_updL (fun _ => 0) (0 : Int32).toNatClampNeg 0))))] := hD
  refine lv_goto (tgt := 17) hx hb d_law_word_10 (by decide) ?_
  refine lv_iconst (v := 0) hx hb d_law_word_17 (by decide) ?_
  refine W.widen (k := 0) (n := 0) (Nat.le_of_ble_eq_true rfl) (Nat.le_of_ble_eq_true rfl) ?_
  have hP9 := hP.sub (ws' := [(ou, .inl (cL, 1, .inr (.inl (vp_updL (fun _ => 0) (0 : Int32).toNatClampNeg 0))))]) [0] rfl
  have hD9 := hD.sub (ws' := [(ou, .inl (cL, 1, .inr (.inl (vp_updL (fun _ => 0) (0 : Int32).toNatClampNeg 0))))]) [0] (by decide) rfl
  exact W.iret (v := 0) hx hb hr (fun t ht hW => ⟨⟨0, (), rfl, rfl, by rw [ht]; exact hP9, va_K.moved hW.alike hC.1, hD9⟩, hS.F ht⟩) hS.2.2 d_law_word_18

theorem d_law_word_13 : decode method_4_code 13 = .ok (.astore 4, 2) := by decide +kernel
theorem d_law_word_15 : decode method_4_code 15 = .ok (.iconst 1, 1) := by decide +kernel
theorem d_law_word_16 : decode method_4_code 16 = .ok (.ireturn, 1) := by decide +kernel
set_option maxHeartbeats 4000000 in
set_option maxRecDepth 100000 in
theorem c_hword_b (l : Launch) (hfl : l.stackTraces = false) (D : va_G) (cI cL : ClassId) (B sz : Nat) (h0 : Nat) (q83 : Nat) (q84 : Nat) (q89 : Nat) (q95 : Nat) (q101 : Nat) (q107 : Nat) (q116 : Nat) (q120 : Nat) (q124 : Nat) (x : Int32) (v : Int32) (ou : Nat) (hbd : x < 0 ∨ 4096 ≤ x) : Met l y_law_word ((Cond.codeWith y_law_word method_4_code 5 (some .int) [(0, 10, 13, 19)]) :: tw) ({ frames := 70, cells := 1, slots := 6, locals := 7000 }) (va_Pc [.ref h0, .int x, .int v, .ref ou] (wP D cI cL B sz [(h0, .inr (0, [.ref q83, .ref q84, .ref q89, .ref q95, .ref q101, .ref q107, .ref q116, .ref q120, .ref q124])), (ou, .inl (cL, 1, .inr (.inl (fun _ => 0))))])) (va_Qi (S := Unit) (fun r u => r = 1) (fun u => wB D cI cL (va_A [(h0, .inr (0, [.ref q83, .ref q84, .ref q89, .ref q95, .ref q101, .ref q107, .ref q116, .ref q120, .ref q124])), (ou, .inl (cL, 1, .inr (.inl (fun _ => 0))))] sz) ((fun _ : Unit => []) u)) (va_A [(h0, .inr (0, [.ref q83, .ref q84, .ref q89, .ref q95, .ref q101, .ref q107, .ref q116, .ref q120, .ref q124])), (ou, .inl (cL, 1, .inr (.inl (fun _ => 0))))] sz)) 1 6 (va_A [(h0, .inr (0, [.ref q83, .ref q84, .ref q89, .ref q95, .ref q101, .ref q107, .ref q116, .ref q120, .ref q124])), (ou, .inl (cL, 1, .inr (.inl (fun _ => 0))))] sz) := by
  refine va_MetW (cc := method_4_code) (maxL := 5) (ret := (some .int)) (hh := [(0, 10, 13, 19)]) (by decide) rfl ?_
  intro p e s m args below meth c s₁ B0 hml hv
  obtain ⟨rfl, hv⟩ := hv
  have hx := B0.exec
  have hb := B0.bytes
  have hr := B0.returns
  have hts := atoms_spec (ws := (Cond.codeWith y_law_word method_4_code 5 (some .int) [(0, 10, 13, 19)]) :: tw) B0.pre
  have htw : ∀ w ∈ tw, w.before _ s = true := fun w hw => hts w (List.mem_cons_of_mem _ hw)
  have hown : s.vm.findClass "DrawingMachineLaw" = some m.cls := findClass_of_methodNamed B0.named
  have hlocks := B0.notSynchronized
  obtain ⟨hC, hP, hD, hsz⟩ := wC_init hv
  subst hsz
  generalize hAe : va_A [(h0, .inr (0, [.ref q83, .ref q84, .ref q89, .ref q95, .ref q101, .ref q107, .ref q116, .ref q120, .ref q124])), (ou, .inl (cL, 1, .inr (.inl (fun _ => 0))))] s.heap.size = A at hC hD ⊢
  have hS : va_S A s.heap s.heap [] := va_S.rf
  have hl := lv_entry ([.ref h0, .int x, .int v, .ref ou]) (n := 5) (Nat.le_of_ble_eq_true rfl)
  rw [lg_entry_eq]
  generalize (lg_sl ([.ref h0, .int x, .int v, .ref ou]) ++ List.replicate (5 - (lg_sl ([.ref h0, .int x, .int v, .ref ou])).length) Slot.unset).toArray = ls at hl ⊢
  have hl : lv_has ls 5 [(0, .ref h0), (1, .int x), (2, .int v), (3, .ref ou)] := hl
  refine lv_aload_n hx hb d_law_word_0 rfl (lv_at hl 3 rfl) ?_
  refine lv_iconst (v := 0) hx hb d_law_word_1 (by decide) ?_
  refine lv_aload_n hx hb d_law_word_2 rfl (lv_at hl 0 rfl) ?_
  refine lv_iload_n hx hb d_law_word_3 rfl (lv_at hl 1 rfl) ?_
  refine lv_iload_n hx hb d_law_word_4 rfl (lv_at hl 2 rfl) ?_
  have hta := tq_tab (hh := [(0, 10, 13, 19)]) B0 (hts _ List.mem_cons_self)
  refine tq_d1 (As := [.int x, .int v]) (rest := [.int 0, .ref ou]) ⟨hx, hb, hml, hown, htw⟩ (c_word_b l hfl D cI cL B _ h0 x v (hbd)) (cwV 2 htw gV_law_15 rfl rfl rfl (by decide +kernel) ⟨Nat.le_of_ble_eq_true rfl, Nat.le_of_ble_eq_true rfl⟩) (wC_preV (As := [.int x, .int v]) hC hP hD hS [] (by decide) rfl (q0 := 0) rfl rfl) rfl hl.1 rfl (Nat.le_of_ble_eq_true rfl) d_law_word_5 ⟨Nat.le_of_ble_eq_true rfl, Nat.le_of_ble_eq_true rfl⟩ hta (by decide) (by decide) (by decide) (htw _ k810) hS (fun a9 H hS => ?_)
  have hP : va_P D classes [] H := fun k q hq => by simp at hq
  have hD : va_D A [] := hD.sub (ws' := []) [] (by decide) rfl
  refine W.widen (k := 1) (n := 6) (by omega) (by omega) ?_
  refine lv_astore (lv' := [(4, .ref a9), (0, .ref h0), (1, .int x), (2, .int v), (3, .ref ou)]) hx hb d_law_word_13 hl (by decide) rfl (fun ls hl => ?_)
  refine lv_iconst (v := 1) hx hb d_law_word_15 (by decide) ?_
  refine W.widen (k := 1) (n := 6) (Nat.le_of_ble_eq_true rfl) (Nat.le_of_ble_eq_true rfl) ?_
  have hP9 := hP.sub (ws' := []) [] rfl
  have hD9 := hD.sub (ws' := []) [] (by decide) rfl
  exact W.iret (v := 1) hx hb hr (fun t ht hW => ⟨⟨1, (), rfl, rfl, by rw [ht]; exact hP9, va_K.moved hW.alike hC.1, hD9⟩, hS.F ht⟩) hS.2.2 d_law_word_16

theorem d_law_look_0 : decode method_5_code 0 = .ok (.aload_n 2, 1) := by decide +kernel
theorem d_law_look_1 : decode method_5_code 1 = .ok (.iconst 0, 1) := by decide +kernel
theorem d_law_look_2 : decode method_5_code 2 = .ok (.aload_n 0, 1) := by decide +kernel
theorem d_law_look_3 : decode method_5_code 3 = .ok (.iload_n 1, 1) := by decide +kernel
theorem d_law_look_4 : decode method_5_code 4 = .ok (.invokevirtual 21, 3) := by decide +kernel
theorem d_law_look_7 : decode method_5_code 7 = .ok (.i2l, 1) := by decide +kernel
theorem d_law_look_8 : decode method_5_code 8 = .ok (.lastore, 1) := by decide +kernel
theorem d_law_look_9 : decode method_5_code 9 = .ok (.goto 6, 3) := by decide +kernel
theorem d_law_look_15 : decode method_5_code 15 = .ok (.iconst 0, 1) := by decide +kernel
theorem d_law_look_16 : decode method_5_code 16 = .ok (.ireturn, 1) := by decide +kernel
theorem gV_law_21 : GoodIn tw (wsV "DrawingMachineLaw" 21 "DrawingMachine" y_DM_look ((Cond.code y_DM_look prog_1_method_4_code 2 (some .int)) :: tw)) := tw_pre (fun _ h => h) (tw_good (fun _ h => h) k291) (List.forall_mem_cons.mpr ⟨k774, List.forall_mem_cons.mpr ⟨k775, List.forall_mem_cons.mpr ⟨k776, List.forall_mem_cons.mpr ⟨k0, fun _ h => absurd h List.not_mem_nil⟩⟩⟩⟩)
set_option maxHeartbeats 4000000 in
set_option maxRecDepth 100000 in
theorem c_hlook_g (l : Launch) (D : va_G) (cI cL : ClassId) (B sz : Nat) (h0 : Nat) (q83 : Nat) (q84 : Nat) (q89 : Nat) (q95 : Nat) (q101 : Nat) (q107 : Nat) (q116 : Nat) (q120 : Nat) (q124 : Nat) (j : Nat) (ou : Nat) (hj : j < 4096) : Met l y_law_look ((Cond.codeWith y_law_look method_5_code 4 (some .int) [(0, 9, 12, 19)]) :: tw) ({ frames := 70, cells := 0, slots := 0, locals := 7000 }) (va_Pc [.ref h0, .int (nI j), .ref ou] (wP D cI cL B sz [(h0, .inr (0, [.ref q83, .ref q84, .ref q89, .ref q95, .ref q101, .ref q107, .ref q116, .ref q120, .ref q124])), (q83, .inl (cI, 4096, .inl (fun _ => 0))), (ou, .inl (cL, 1, .inr (.inl (fun _ => 0))))])) (va_Qi (S := Unit) (fun r u => r = 0) (fun u => wB D cI cL (va_A [(h0, .inr (0, [.ref q83, .ref q84, .ref q89, .ref q95, .ref q101, .ref q107, .ref q116, .ref q120, .ref q124])), (q83, .inl (cI, 4096, .inl (fun _ => 0))), (ou, .inl (cL, 1, .inr (.inl (fun _ => 0))))] sz) ((fun _ : Unit => [(ou, .inl (cL, 1, .inr (.inl (vp_updL (fun _ => 0) (0 : Int32).toNatClampNeg 0))))]) u)) (va_A [(h0, .inr (0, [.ref q83, .ref q84, .ref q89, .ref q95, .ref q101, .ref q107, .ref q116, .ref q120, .ref q124])), (q83, .inl (cI, 4096, .inl (fun _ => 0))), (ou, .inl (cL, 1, .inr (.inl (fun _ => 0))))] sz)) 0 0 (va_A [(h0, .inr (0, [.ref q83, .ref q84, .ref q89, .ref q95, .ref q101, .ref q107, .ref q116, .ref q120, .ref q124])), (q83, .inl (cI, 4096, .inl (fun _ => 0))), (ou, .inl (cL, 1, .inr (.inl (fun _ => 0))))] sz) := by
  refine va_MetW (cc := method_5_code) (maxL := 4) (ret := (some .int)) (hh := [(0, 9, 12, 19)]) (by decide) rfl ?_
  intro p e s m args below meth c s₁ B0 hml hv
  obtain ⟨rfl, hv⟩ := hv
  have hx := B0.exec
  have hb := B0.bytes
  have hr := B0.returns
  have hts := atoms_spec (ws := (Cond.codeWith y_law_look method_5_code 4 (some .int) [(0, 9, 12, 19)]) :: tw) B0.pre
  have htw : ∀ w ∈ tw, w.before _ s = true := fun w hw => hts w (List.mem_cons_of_mem _ hw)
  have hown : s.vm.findClass "DrawingMachineLaw" = some m.cls := findClass_of_methodNamed B0.named
  have hlocks := B0.notSynchronized
  obtain ⟨hC, hP, hD, hsz⟩ := wC_init hv
  subst hsz
  generalize hAe : va_A [(h0, .inr (0, [.ref q83, .ref q84, .ref q89, .ref q95, .ref q101, .ref q107, .ref q116, .ref q120, .ref q124])), (q83, .inl (cI, 4096, .inl (fun _ => 0))), (ou, .inl (cL, 1, .inr (.inl (fun _ => 0))))] s.heap.size = A at hC hD ⊢
  have hS : va_S A s.heap s.heap [] := va_S.rf
  have hl := lv_entry ([.ref h0, .int (nI j), .ref ou]) (n := 4) (Nat.le_of_ble_eq_true rfl)
  rw [lg_entry_eq]
  generalize (lg_sl ([.ref h0, .int (nI j), .ref ou]) ++ List.replicate (4 - (lg_sl ([.ref h0, .int (nI j), .ref ou])).length) Slot.unset).toArray = ls at hl ⊢
  have hl : lv_has ls 4 [(0, .ref h0), (1, .int (nI j)), (2, .ref ou)] := hl
  refine lv_aload_n hx hb d_law_look_0 rfl (lv_at hl 2 rfl) ?_
  refine lv_iconst (v := 0) hx hb d_law_look_1 (by decide) ?_
  refine lv_aload_n hx hb d_law_look_2 rfl (lv_at hl 0 rfl) ?_
  refine lv_iload_n hx hb d_law_look_3 rfl (lv_at hl 1 rfl) ?_
  refine wc_i (wr := [(ou, .inl (cL, 1, .inr (.inl (fun _ => 0))))]) hC hP hD hS [0, 1] [2] rfl rfl (by decide) (by decide) (va_runV (As := [.int (nI j)]) (rest := [.int 0, .ref ou]) ⟨hx, hb, hml, hown, htw⟩ (c_look_g l D cI cL B _ h0 q83 q84 q89 q95 q101 q107 q116 q120 q124 j (hj)) (cwV 1 htw gV_law_21 rfl rfl rfl (by decide +kernel) ⟨Nat.le_of_ble_eq_true rfl, Nat.le_of_ble_eq_true rfl⟩) (wC_preV (As := [.int (nI j)]) hC hP hD hS [0, 1] (by decide) rfl (q0 := 0) rfl rfl) rfl rfl hl.1 rfl (lv_room (Nat.le_of_ble_eq_true rfl)) d_law_look_4 ⟨Nat.le_of_ble_eq_true rfl, Nat.le_of_ble_eq_true rfl⟩) (fun r1377 u1375 H locs hw1376 hP hD hS => ?_)
  obtain rfl : r1377 = 0 := hw1376
  have hP : va_P D classes [(ou, .inl (cL, 1, .inr (.inl (fun _ => 0))))] H := hP
  have hD : va_D A [(ou, .inl (cL, 1, .inr (.inl (fun _ => 0))))] := hD
  refine W.widen (k := 0) (n := 0) (by omega) (by omega) ?_
  refine lv_i2l (v := 0) hx hb d_law_look_7 (by decide) ?_
  refine va_last hx hb hC.1 hP hD hS 0 1 rfl rfl (by unfold vp_in; decide) d_law_look_8 (fun H locs hP hD hS => ?_)
  have hP : va_P D classes [(ou, .inl (cL, 1, .inr (.inl (vp_updL (fun _ => 0) (0 : Int32).toNatClampNeg 0))))] H := hP
  have hD : va_D A [(ou, .inl (cL, 1, .inr (.inl (vp_updL (fun _ => 0) (0 : Int32).toNatClampNeg 0))))] := hD
  refine lv_goto (tgt := 15) hx hb d_law_look_9 (by decide) ?_
  refine lv_iconst (v := 0) hx hb d_law_look_15 (by decide) ?_
  refine W.widen (k := 0) (n := 0) (Nat.le_of_ble_eq_true rfl) (Nat.le_of_ble_eq_true rfl) ?_
  have hP9 := hP.sub (ws' := [(ou, .inl (cL, 1, .inr (.inl (vp_updL (fun _ => 0) (0 : Int32).toNatClampNeg 0))))]) [0] rfl
  have hD9 := hD.sub (ws' := [(ou, .inl (cL, 1, .inr (.inl (vp_updL (fun _ => 0) (0 : Int32).toNatClampNeg 0))))]) [0] (by decide) rfl
  exact W.iret (v := 0) hx hb hr (fun t ht hW => ⟨⟨0, (), rfl, rfl, by rw [ht]; exact hP9, va_K.moved hW.alike hC.1, hD9⟩, hS.F ht⟩) hS.2.2 d_law_look_16

theorem d_law_look_12 : decode method_5_code 12 = .ok (.astore_n 3, 1) := by decide +kernel
theorem d_law_look_13 : decode method_5_code 13 = .ok (.iconst 1, 1) := by decide +kernel
theorem d_law_look_14 : decode method_5_code 14 = .ok (.ireturn, 1) := by decide +kernel
set_option maxHeartbeats 4000000 in
set_option maxRecDepth 100000 in
theorem c_hlook_b (l : Launch) (hfl : l.stackTraces = false) (D : va_G) (cI cL : ClassId) (B sz : Nat) (h0 : Nat) (q83 : Nat) (q84 : Nat) (q89 : Nat) (q95 : Nat) (q101 : Nat) (q107 : Nat) (q116 : Nat) (q120 : Nat) (q124 : Nat) (x : Int32) (ou : Nat) (hbd : x < 0 ∨ 4096 ≤ x) : Met l y_law_look ((Cond.codeWith y_law_look method_5_code 4 (some .int) [(0, 9, 12, 19)]) :: tw) ({ frames := 70, cells := 1, slots := 6, locals := 7000 }) (va_Pc [.ref h0, .int x, .ref ou] (wP D cI cL B sz [(h0, .inr (0, [.ref q83, .ref q84, .ref q89, .ref q95, .ref q101, .ref q107, .ref q116, .ref q120, .ref q124])), (ou, .inl (cL, 1, .inr (.inl (fun _ => 0))))])) (va_Qi (S := Unit) (fun r u => r = 1) (fun u => wB D cI cL (va_A [(h0, .inr (0, [.ref q83, .ref q84, .ref q89, .ref q95, .ref q101, .ref q107, .ref q116, .ref q120, .ref q124])), (ou, .inl (cL, 1, .inr (.inl (fun _ => 0))))] sz) ((fun _ : Unit => []) u)) (va_A [(h0, .inr (0, [.ref q83, .ref q84, .ref q89, .ref q95, .ref q101, .ref q107, .ref q116, .ref q120, .ref q124])), (ou, .inl (cL, 1, .inr (.inl (fun _ => 0))))] sz)) 1 6 (va_A [(h0, .inr (0, [.ref q83, .ref q84, .ref q89, .ref q95, .ref q101, .ref q107, .ref q116, .ref q120, .ref q124])), (ou, .inl (cL, 1, .inr (.inl (fun _ => 0))))] sz) := by
  refine va_MetW (cc := method_5_code) (maxL := 4) (ret := (some .int)) (hh := [(0, 9, 12, 19)]) (by decide) rfl ?_
  intro p e s m args below meth c s₁ B0 hml hv
  obtain ⟨rfl, hv⟩ := hv
  have hx := B0.exec
  have hb := B0.bytes
  have hr := B0.returns
  have hts := atoms_spec (ws := (Cond.codeWith y_law_look method_5_code 4 (some .int) [(0, 9, 12, 19)]) :: tw) B0.pre
  have htw : ∀ w ∈ tw, w.before _ s = true := fun w hw => hts w (List.mem_cons_of_mem _ hw)
  have hown : s.vm.findClass "DrawingMachineLaw" = some m.cls := findClass_of_methodNamed B0.named
  have hlocks := B0.notSynchronized
  obtain ⟨hC, hP, hD, hsz⟩ := wC_init hv
  subst hsz
  generalize hAe : va_A [(h0, .inr (0, [.ref q83, .ref q84, .ref q89, .ref q95, .ref q101, .ref q107, .ref q116, .ref q120, .ref q124])), (ou, .inl (cL, 1, .inr (.inl (fun _ => 0))))] s.heap.size = A at hC hD ⊢
  have hS : va_S A s.heap s.heap [] := va_S.rf
  have hl := lv_entry ([.ref h0, .int x, .ref ou]) (n := 4) (Nat.le_of_ble_eq_true rfl)
  rw [lg_entry_eq]
  generalize (lg_sl ([.ref h0, .int x, .ref ou]) ++ List.replicate (4 - (lg_sl ([.ref h0, .int x, .ref ou])).length) Slot.unset).toArray = ls at hl ⊢
  have hl : lv_has ls 4 [(0, .ref h0), (1, .int x), (2, .ref ou)] := hl
  refine lv_aload_n hx hb d_law_look_0 rfl (lv_at hl 2 rfl) ?_
  refine lv_iconst (v := 0) hx hb d_law_look_1 (by decide) ?_
  refine lv_aload_n hx hb d_law_look_2 rfl (lv_at hl 0 rfl) ?_
  refine lv_iload_n hx hb d_law_look_3 rfl (lv_at hl 1 rfl) ?_
  have hta := tq_tab (hh := [(0, 9, 12, 19)]) B0 (hts _ List.mem_cons_self)
  refine tq_d1 (As := [.int x]) (rest := [.int 0, .ref ou]) ⟨hx, hb, hml, hown, htw⟩ (c_look_b l hfl D cI cL B _ h0 x (hbd)) (cwV 1 htw gV_law_21 rfl rfl rfl (by decide +kernel) ⟨Nat.le_of_ble_eq_true rfl, Nat.le_of_ble_eq_true rfl⟩) (wC_preV (As := [.int x]) hC hP hD hS [] (by decide) rfl (q0 := 0) rfl rfl) rfl hl.1 rfl (Nat.le_of_ble_eq_true rfl) d_law_look_4 ⟨Nat.le_of_ble_eq_true rfl, Nat.le_of_ble_eq_true rfl⟩ hta (by decide) (by decide) (by decide) (htw _ k810) hS (fun a9 H hS => ?_)
  have hP : va_P D classes [] H := fun k q hq => by simp at hq
  have hD : va_D A [] := hD.sub (ws' := []) [] (by decide) rfl
  refine W.widen (k := 1) (n := 6) (by omega) (by omega) ?_
  refine lv_astore_n (lv' := [(3, .ref a9), (0, .ref h0), (1, .int x), (2, .ref ou)]) hx hb d_law_look_12 rfl hl (by decide) rfl (fun ls hl => ?_)
  refine lv_iconst (v := 1) hx hb d_law_look_13 (by decide) ?_
  refine W.widen (k := 1) (n := 6) (Nat.le_of_ble_eq_true rfl) (Nat.le_of_ble_eq_true rfl) ?_
  have hP9 := hP.sub (ws' := []) [] rfl
  have hD9 := hD.sub (ws' := []) [] (by decide) rfl
  exact W.iret (v := 1) hx hb hr (fun t ht hW => ⟨⟨1, (), rfl, rfl, by rw [ht]; exact hP9, va_K.moved hW.alike hC.1, hD9⟩, hS.F ht⟩) hS.2.2 d_law_look_14

theorem d_law_feed_0 : decode method_6_code 0 = .ok (.aload 6, 2) := by decide +kernel
theorem d_law_feed_2 : decode method_6_code 2 = .ok (.iconst 0, 1) := by decide +kernel
theorem d_law_feed_3 : decode method_6_code 3 = .ok (.aload_n 0, 1) := by decide +kernel
theorem d_law_feed_4 : decode method_6_code 4 = .ok (.iload_n 1, 1) := by decide +kernel
theorem d_law_feed_5 : decode method_6_code 5 = .ok (.iload_n 2, 1) := by decide +kernel
theorem d_law_feed_6 : decode method_6_code 6 = .ok (.iload_n 3, 1) := by decide +kernel
theorem d_law_feed_7 : decode method_6_code 7 = .ok (.iload 4, 2) := by decide +kernel
theorem d_law_feed_9 : decode method_6_code 9 = .ok (.iload 5, 2) := by decide +kernel
theorem d_law_feed_11 : decode method_6_code 11 = .ok (.invokevirtual 25, 3) := by decide +kernel
theorem d_law_feed_14 : decode method_6_code 14 = .ok (.i2l, 1) := by decide +kernel
theorem d_law_feed_15 : decode method_6_code 15 = .ok (.lastore, 1) := by decide +kernel
theorem d_law_feed_16 : decode method_6_code 16 = .ok (.goto 7, 3) := by decide +kernel
theorem d_law_feed_23 : decode method_6_code 23 = .ok (.iconst 0, 1) := by decide +kernel
theorem d_law_feed_24 : decode method_6_code 24 = .ok (.ireturn, 1) := by decide +kernel
theorem gV_law_25 : GoodIn tw (wsV "DrawingMachineLaw" 25 "DrawingMachine" y_DM_feed ((Cond.code y_DM_feed prog_1_method_5_code 6 (some .int)) :: tw)) := tw_pre (fun _ h => h) (tw_good (fun _ h => h) k292) (List.forall_mem_cons.mpr ⟨k778, List.forall_mem_cons.mpr ⟨k779, List.forall_mem_cons.mpr ⟨k780, List.forall_mem_cons.mpr ⟨k0, fun _ h => absurd h List.not_mem_nil⟩⟩⟩⟩)
set_option maxHeartbeats 4000000 in
set_option maxRecDepth 100000 in
theorem c_hfeed_g (l : Launch) (D : va_G) (cI cL : ClassId) (B sz : Nat) (h0 : Nat) (q83 : Nat) (q84 : Nat) (q89 : Nat) (q95 : Nat) (z98 : Nat) (z99 : Nat) (z100 : Nat) (q101 : Nat) (q107 : Nat) (q116 : Nat) (q120 : Nat) (q124 : Nat) (a1 : Int32) (a2 : Int32) (a3 : Int32) (a4 : Int32) (a5 : Int32) (ou : Nat) : Met l y_law_feed ((Cond.codeWith y_law_feed method_6_code 8 (some .int) [(0, 16, 19, 29)]) :: tw) ({ frames := 70, cells := 0, slots := 0, locals := 7000 }) (va_Pc [.ref h0, .int a1, .int a2, .int a3, .int a4, .int a5, .ref ou] (wP D cI cL B sz [(h0, .inr (0, [.ref q83, .ref q84, .ref q89, .ref q95, .ref q101, .ref q107, .ref q116, .ref q120, .ref q124])), (q95, .inr (3, [.ref z98, .int 0, .int 0, .int 0, .int 0, .int 0, .int (-1), .int (-1), .int 0, .long 0, .ref q83, .ref z99, .ref z100, .int 0, .int 0])), (z100, .inl (cI, 64, .inl (fun _ => 0))), (ou, .inl (cL, 1, .inr (.inl (fun _ => 0))))])) (va_Qi (S := Unit) (fun r u => r = 0) (fun u => wB D cI cL (va_A [(h0, .inr (0, [.ref q83, .ref q84, .ref q89, .ref q95, .ref q101, .ref q107, .ref q116, .ref q120, .ref q124])), (q95, .inr (3, [.ref z98, .int 0, .int 0, .int 0, .int 0, .int 0, .int (-1), .int (-1), .int 0, .long 0, .ref q83, .ref z99, .ref z100, .int 0, .int 0])), (z100, .inl (cI, 64, .inl (fun _ => 0))), (ou, .inl (cL, 1, .inr (.inl (fun _ => 0))))] sz) ((fun _ : Unit => [(ou, .inl (cL, 1, .inr (.inl (vp_updL (fun _ => 0) (0 : Int32).toNatClampNeg 5))))]) u)) (va_A [(h0, .inr (0, [.ref q83, .ref q84, .ref q89, .ref q95, .ref q101, .ref q107, .ref q116, .ref q120, .ref q124])), (q95, .inr (3, [.ref z98, .int 0, .int 0, .int 0, .int 0, .int 0, .int (-1), .int (-1), .int 0, .long 0, .ref q83, .ref z99, .ref z100, .int 0, .int 0])), (z100, .inl (cI, 64, .inl (fun _ => 0))), (ou, .inl (cL, 1, .inr (.inl (fun _ => 0))))] sz)) 0 0 (va_A [(h0, .inr (0, [.ref q83, .ref q84, .ref q89, .ref q95, .ref q101, .ref q107, .ref q116, .ref q120, .ref q124])), (q95, .inr (3, [.ref z98, .int 0, .int 0, .int 0, .int 0, .int 0, .int (-1), .int (-1), .int 0, .long 0, .ref q83, .ref z99, .ref z100, .int 0, .int 0])), (z100, .inl (cI, 64, .inl (fun _ => 0))), (ou, .inl (cL, 1, .inr (.inl (fun _ => 0))))] sz) := by
  refine va_MetW (cc := method_6_code) (maxL := 8) (ret := (some .int)) (hh := [(0, 16, 19, 29)]) (by decide) rfl ?_
  intro p e s m args below meth c s₁ B0 hml hv
  obtain ⟨rfl, hv⟩ := hv
  have hx := B0.exec
  have hb := B0.bytes
  have hr := B0.returns
  have hts := atoms_spec (ws := (Cond.codeWith y_law_feed method_6_code 8 (some .int) [(0, 16, 19, 29)]) :: tw) B0.pre
  have htw : ∀ w ∈ tw, w.before _ s = true := fun w hw => hts w (List.mem_cons_of_mem _ hw)
  have hown : s.vm.findClass "DrawingMachineLaw" = some m.cls := findClass_of_methodNamed B0.named
  have hlocks := B0.notSynchronized
  obtain ⟨hC, hP, hD, hsz⟩ := wC_init hv
  subst hsz
  generalize hAe : va_A [(h0, .inr (0, [.ref q83, .ref q84, .ref q89, .ref q95, .ref q101, .ref q107, .ref q116, .ref q120, .ref q124])), (q95, .inr (3, [.ref z98, .int 0, .int 0, .int 0, .int 0, .int 0, .int (-1), .int (-1), .int 0, .long 0, .ref q83, .ref z99, .ref z100, .int 0, .int 0])), (z100, .inl (cI, 64, .inl (fun _ => 0))), (ou, .inl (cL, 1, .inr (.inl (fun _ => 0))))] s.heap.size = A at hC hD ⊢
  have hS : va_S A s.heap s.heap [] := va_S.rf
  have hl := lv_entry ([.ref h0, .int a1, .int a2, .int a3, .int a4, .int a5, .ref ou]) (n := 8) (Nat.le_of_ble_eq_true rfl)
  rw [lg_entry_eq]
  generalize (lg_sl ([.ref h0, .int a1, .int a2, .int a3, .int a4, .int a5, .ref ou]) ++ List.replicate (8 - (lg_sl ([.ref h0, .int a1, .int a2, .int a3, .int a4, .int a5, .ref ou])).length) Slot.unset).toArray = ls at hl ⊢
  have hl : lv_has ls 8 [(0, .ref h0), (1, .int a1), (2, .int a2), (3, .int a3), (4, .int a4), (5, .int a5), (6, .ref ou)] := hl
  refine lv_aload hx hb d_law_feed_0 (lv_at hl 6 rfl) ?_
  refine lv_iconst (v := 0) hx hb d_law_feed_2 (by decide) ?_
  refine lv_aload_n hx hb d_law_feed_3 rfl (lv_at hl 0 rfl) ?_
  refine lv_iload_n hx hb d_law_feed_4 rfl (lv_at hl 1 rfl) ?_
  refine lv_iload_n hx hb d_law_feed_5 rfl (lv_at hl 2 rfl) ?_
  refine lv_iload_n hx hb d_law_feed_6 rfl (lv_at hl 3 rfl) ?_
  refine lv_iload hx hb d_law_feed_7 (lv_at hl 4 rfl) ?_
  refine lv_iload hx hb d_law_feed_9 (lv_at hl 5 rfl) ?_
  refine wc_i (wr := [(ou, .inl (cL, 1, .inr (.inl (fun _ => 0))))]) hC hP hD hS [0, 1, 2] [3] rfl rfl (by decide) (by decide) (va_runV (As := [.int a1, .int a2, .int a3, .int a4, .int a5]) (rest := [.int 0, .ref ou]) ⟨hx, hb, hml, hown, htw⟩ (c_feed_g l D cI cL B _ h0 q83 q84 q89 q95 z98 z99 z100 q101 q107 q116 q120 q124 a1 a2 a3 a4 a5) (cwV 5 htw gV_law_25 rfl rfl rfl (by decide +kernel) ⟨Nat.le_of_ble_eq_true rfl, Nat.le_of_ble_eq_true rfl⟩) (wC_preV (As := [.int a1, .int a2, .int a3, .int a4, .int a5]) hC hP hD hS [0, 1, 2] (by decide) rfl (q0 := 0) rfl rfl) rfl rfl hl.1 rfl (lv_room (Nat.le_of_ble_eq_true rfl)) d_law_feed_11 ⟨Nat.le_of_ble_eq_true rfl, Nat.le_of_ble_eq_true rfl⟩) (fun r1380 u1378 H locs hw1379 hP hD hS => ?_)
  obtain rfl : r1380 = 5 := hw1379
  have hP : va_P D classes [(ou, .inl (cL, 1, .inr (.inl (fun _ => 0))))] H := hP
  have hD : va_D A [(ou, .inl (cL, 1, .inr (.inl (fun _ => 0))))] := hD
  refine W.widen (k := 0) (n := 0) (by omega) (by omega) ?_
  refine lv_i2l (v := 5) hx hb d_law_feed_14 (by decide) ?_
  refine va_last hx hb hC.1 hP hD hS 0 1 rfl rfl (by unfold vp_in; decide) d_law_feed_15 (fun H locs hP hD hS => ?_)
  have hP : va_P D classes [(ou, .inl (cL, 1, .inr (.inl (vp_updL (fun _ => 0) (0 : Int32).toNatClampNeg 5))))] H := hP
  have hD : va_D A [(ou, .inl (cL, 1, .inr (.inl (vp_updL (fun _ => 0) (0 : Int32).toNatClampNeg 5))))] := hD
  refine lv_goto (tgt := 23) hx hb d_law_feed_16 (by decide) ?_
  refine lv_iconst (v := 0) hx hb d_law_feed_23 (by decide) ?_
  refine W.widen (k := 0) (n := 0) (Nat.le_of_ble_eq_true rfl) (Nat.le_of_ble_eq_true rfl) ?_
  have hP9 := hP.sub (ws' := [(ou, .inl (cL, 1, .inr (.inl (vp_updL (fun _ => 0) (0 : Int32).toNatClampNeg 5))))]) [0] rfl
  have hD9 := hD.sub (ws' := [(ou, .inl (cL, 1, .inr (.inl (vp_updL (fun _ => 0) (0 : Int32).toNatClampNeg 5))))]) [0] (by decide) rfl
  exact W.iret (v := 0) hx hb hr (fun t ht hW => ⟨⟨0, (), rfl, rfl, by rw [ht]; exact hP9, va_K.moved hW.alike hC.1, hD9⟩, hS.F ht⟩) hS.2.2 d_law_feed_24

theorem d_law_end_0 : decode method_7_code 0 = .ok (.aload_n 0, 1) := by decide +kernel
theorem d_law_end_1 : decode method_7_code 1 = .ok (.iload_n 1, 1) := by decide +kernel
theorem d_law_end_2 : decode method_7_code 2 = .ok (.invokevirtual 31, 3) := by decide +kernel
theorem d_law_end_5 : decode method_7_code 5 = .ok (.goto 6, 3) := by decide +kernel
theorem d_law_end_11 : decode method_7_code 11 = .ok (.iconst 0, 1) := by decide +kernel
theorem d_law_end_12 : decode method_7_code 12 = .ok (.ireturn, 1) := by decide +kernel
theorem gV_law_31 : GoodIn tw (wsV "DrawingMachineLaw" 31 "DrawingMachine" y_DM_end ((Cond.code y_DM_end prog_1_method_6_code 2 none) :: tw)) := tw_pre (fun _ h => h) (tw_good (fun _ h => h) k304) (List.forall_mem_cons.mpr ⟨k782, List.forall_mem_cons.mpr ⟨k783, List.forall_mem_cons.mpr ⟨k784, List.forall_mem_cons.mpr ⟨k0, fun _ h => absurd h List.not_mem_nil⟩⟩⟩⟩)
set_option maxHeartbeats 4000000 in
set_option maxRecDepth 100000 in
theorem c_hend_g (l : Launch) (D : va_G) (cI cL : ClassId) (B sz : Nat) (h0 : Nat) (q83 : Nat) (q84 : Nat) (z87 : Nat) (q89 : Nat) (q95 : Nat) (z98 : Nat) (z99 : Nat) (z100 : Nat) (q101 : Nat) (q107 : Nat) (z110 : Nat) (z111 : Nat) (z112 : Nat) (z113 : Nat) (z114 : Nat) (z115 : Nat) (q116 : Nat) (q120 : Nat) (q124 : Nat) : Met l y_law_end ((Cond.codeWith y_law_end method_7_code 3 (some .int) [(0, 5, 8, 13)]) :: tw) ({ frames := 70, cells := 0, slots := 0, locals := 7000 }) (va_Pc [.ref h0, .int 0] (wP D cI cL B sz [(h0, .inr (0, [.ref q83, .ref q84, .ref q89, .ref q95, .ref q101, .ref q107, .ref q116, .ref q120, .ref q124])), (q95, .inr (3, [.ref z98, .int 0, .int 0, .int 0, .int 0, .int 0, .int (-1), .int (-1), .int 0, .long 0, .ref q83, .ref z99, .ref z100, .int 0, .int 0])), (q107, .inr (5, [.ref z110, .ref z111, .int (-1), .ref z87, .ref q89, .ref z112, .ref z113, .ref z114, .ref z115]))])) (va_Qi (S := Unit) (fun r u => r = 0) (fun u => wB D cI cL (va_A [(h0, .inr (0, [.ref q83, .ref q84, .ref q89, .ref q95, .ref q101, .ref q107, .ref q116, .ref q120, .ref q124])), (q95, .inr (3, [.ref z98, .int 0, .int 0, .int 0, .int 0, .int 0, .int (-1), .int (-1), .int 0, .long 0, .ref q83, .ref z99, .ref z100, .int 0, .int 0])), (q107, .inr (5, [.ref z110, .ref z111, .int (-1), .ref z87, .ref q89, .ref z112, .ref z113, .ref z114, .ref z115]))] sz) ((fun _ : Unit => []) u)) (va_A [(h0, .inr (0, [.ref q83, .ref q84, .ref q89, .ref q95, .ref q101, .ref q107, .ref q116, .ref q120, .ref q124])), (q95, .inr (3, [.ref z98, .int 0, .int 0, .int 0, .int 0, .int 0, .int (-1), .int (-1), .int 0, .long 0, .ref q83, .ref z99, .ref z100, .int 0, .int 0])), (q107, .inr (5, [.ref z110, .ref z111, .int (-1), .ref z87, .ref q89, .ref z112, .ref z113, .ref z114, .ref z115]))] sz)) 0 0 (va_A [(h0, .inr (0, [.ref q83, .ref q84, .ref q89, .ref q95, .ref q101, .ref q107, .ref q116, .ref q120, .ref q124])), (q95, .inr (3, [.ref z98, .int 0, .int 0, .int 0, .int 0, .int 0, .int (-1), .int (-1), .int 0, .long 0, .ref q83, .ref z99, .ref z100, .int 0, .int 0])), (q107, .inr (5, [.ref z110, .ref z111, .int (-1), .ref z87, .ref q89, .ref z112, .ref z113, .ref z114, .ref z115]))] sz) := by
  refine va_MetW (cc := method_7_code) (maxL := 3) (ret := (some .int)) (hh := [(0, 5, 8, 13)]) (by decide) rfl ?_
  intro p e s m args below meth c s₁ B0 hml hv
  obtain ⟨rfl, hv⟩ := hv
  have hx := B0.exec
  have hb := B0.bytes
  have hr := B0.returns
  have hts := atoms_spec (ws := (Cond.codeWith y_law_end method_7_code 3 (some .int) [(0, 5, 8, 13)]) :: tw) B0.pre
  have htw : ∀ w ∈ tw, w.before _ s = true := fun w hw => hts w (List.mem_cons_of_mem _ hw)
  have hown : s.vm.findClass "DrawingMachineLaw" = some m.cls := findClass_of_methodNamed B0.named
  have hlocks := B0.notSynchronized
  obtain ⟨hC, hP, hD, hsz⟩ := wC_init hv
  subst hsz
  generalize hAe : va_A [(h0, .inr (0, [.ref q83, .ref q84, .ref q89, .ref q95, .ref q101, .ref q107, .ref q116, .ref q120, .ref q124])), (q95, .inr (3, [.ref z98, .int 0, .int 0, .int 0, .int 0, .int 0, .int (-1), .int (-1), .int 0, .long 0, .ref q83, .ref z99, .ref z100, .int 0, .int 0])), (q107, .inr (5, [.ref z110, .ref z111, .int (-1), .ref z87, .ref q89, .ref z112, .ref z113, .ref z114, .ref z115]))] s.heap.size = A at hC hD ⊢
  have hS : va_S A s.heap s.heap [] := va_S.rf
  have hl := lv_entry ([.ref h0, .int 0]) (n := 3) (Nat.le_of_ble_eq_true rfl)
  rw [lg_entry_eq]
  generalize (lg_sl ([.ref h0, .int 0]) ++ List.replicate (3 - (lg_sl ([.ref h0, .int 0])).length) Slot.unset).toArray = ls at hl ⊢
  have hl : lv_has ls 3 [(0, .ref h0), (1, .int 0)] := hl
  refine lv_aload_n hx hb d_law_end_0 rfl (lv_at hl 0 rfl) ?_
  refine lv_iload_n hx hb d_law_end_1 rfl (lv_at hl 1 rfl) ?_
  refine wc_v (wr := []) hC hP hD hS [0, 1, 2] [] rfl rfl (by decide) (by decide) (va_runV (As := [.int 0]) (rest := []) ⟨hx, hb, hml, hown, htw⟩ (c_end_g l D cI cL B _ h0 q83 q84 z87 q89 q95 z98 z99 z100 q101 q107 z110 z111 z112 z113 z114 z115 q116 q120 q124) (cwV 1 htw gV_law_31 rfl rfl rfl (by decide +kernel) ⟨Nat.le_of_ble_eq_true rfl, Nat.le_of_ble_eq_true rfl⟩) (wC_preV (As := [.int 0]) hC hP hD hS [0, 1, 2] (by decide) rfl (q0 := 0) rfl rfl) rfl rfl hl.1 rfl (lv_room (Nat.le_of_ble_eq_true rfl)) d_law_end_2 ⟨Nat.le_of_ble_eq_true rfl, Nat.le_of_ble_eq_true rfl⟩) (fun u1381 H locs hw1382 hP hD hS => ?_)
  have hP : va_P D classes [] H := hP
  have hD : va_D A [] := hD
  refine W.widen (k := 0) (n := 0) (by omega) (by omega) ?_
  refine lv_goto (tgt := 11) hx hb d_law_end_5 (by decide) ?_
  refine lv_iconst (v := 0) hx hb d_law_end_11 (by decide) ?_
  refine W.widen (k := 0) (n := 0) (Nat.le_of_ble_eq_true rfl) (Nat.le_of_ble_eq_true rfl) ?_
  have hP9 := hP.sub (ws' := []) [] rfl
  have hD9 := hD.sub (ws' := []) [] (by decide) rfl
  exact W.iret (v := 0) hx hb hr (fun t ht hW => ⟨⟨0, (), rfl, rfl, by rw [ht]; exact hP9, va_K.moved hW.alike hC.1, hD9⟩, hS.F ht⟩) hS.2.2 d_law_end_12

theorem d_law_end_8 : decode method_7_code 8 = .ok (.astore_n 2, 1) := by decide +kernel
theorem d_law_end_9 : decode method_7_code 9 = .ok (.iconst 1, 1) := by decide +kernel
theorem d_law_end_10 : decode method_7_code 10 = .ok (.ireturn, 1) := by decide +kernel
set_option maxHeartbeats 4000000 in
set_option maxRecDepth 100000 in
theorem c_hend_b (l : Launch) (hfl : l.stackTraces = false) (D : va_G) (cI cL : ClassId) (B sz : Nat) (h0 : Nat) (q83 : Nat) (q84 : Nat) (q89 : Nat) (q95 : Nat) (z98 : Nat) (z99 : Nat) (z100 : Nat) (q101 : Nat) (q107 : Nat) (q116 : Nat) (q120 : Nat) (q124 : Nat) (x : Int32) (hbd : x < 0 ∨ 0 < x) : Met l y_law_end ((Cond.codeWith y_law_end method_7_code 3 (some .int) [(0, 5, 8, 13)]) :: tw) ({ frames := 70, cells := 1, slots := 6, locals := 7000 }) (va_Pc [.ref h0, .int x] (wP D cI cL B sz [(h0, .inr (0, [.ref q83, .ref q84, .ref q89, .ref q95, .ref q101, .ref q107, .ref q116, .ref q120, .ref q124])), (q95, .inr (3, [.ref z98, .int 0, .int 0, .int 0, .int 0, .int 0, .int (-1), .int (-1), .int 0, .long 0, .ref q83, .ref z99, .ref z100, .int 0, .int 0]))])) (va_Qi (S := Unit) (fun r u => r = 1) (fun u => wB D cI cL (va_A [(h0, .inr (0, [.ref q83, .ref q84, .ref q89, .ref q95, .ref q101, .ref q107, .ref q116, .ref q120, .ref q124])), (q95, .inr (3, [.ref z98, .int 0, .int 0, .int 0, .int 0, .int 0, .int (-1), .int (-1), .int 0, .long 0, .ref q83, .ref z99, .ref z100, .int 0, .int 0]))] sz) ((fun _ : Unit => []) u)) (va_A [(h0, .inr (0, [.ref q83, .ref q84, .ref q89, .ref q95, .ref q101, .ref q107, .ref q116, .ref q120, .ref q124])), (q95, .inr (3, [.ref z98, .int 0, .int 0, .int 0, .int 0, .int 0, .int (-1), .int (-1), .int 0, .long 0, .ref q83, .ref z99, .ref z100, .int 0, .int 0]))] sz)) 1 6 (va_A [(h0, .inr (0, [.ref q83, .ref q84, .ref q89, .ref q95, .ref q101, .ref q107, .ref q116, .ref q120, .ref q124])), (q95, .inr (3, [.ref z98, .int 0, .int 0, .int 0, .int 0, .int 0, .int (-1), .int (-1), .int 0, .long 0, .ref q83, .ref z99, .ref z100, .int 0, .int 0]))] sz) := by
  refine va_MetW (cc := method_7_code) (maxL := 3) (ret := (some .int)) (hh := [(0, 5, 8, 13)]) (by decide) rfl ?_
  intro p e s m args below meth c s₁ B0 hml hv
  obtain ⟨rfl, hv⟩ := hv
  have hx := B0.exec
  have hb := B0.bytes
  have hr := B0.returns
  have hts := atoms_spec (ws := (Cond.codeWith y_law_end method_7_code 3 (some .int) [(0, 5, 8, 13)]) :: tw) B0.pre
  have htw : ∀ w ∈ tw, w.before _ s = true := fun w hw => hts w (List.mem_cons_of_mem _ hw)
  have hown : s.vm.findClass "DrawingMachineLaw" = some m.cls := findClass_of_methodNamed B0.named
  have hlocks := B0.notSynchronized
  obtain ⟨hC, hP, hD, hsz⟩ := wC_init hv
  subst hsz
  generalize hAe : va_A [(h0, .inr (0, [.ref q83, .ref q84, .ref q89, .ref q95, .ref q101, .ref q107, .ref q116, .ref q120, .ref q124])), (q95, .inr (3, [.ref z98, .int 0, .int 0, .int 0, .int 0, .int 0, .int (-1), .int (-1), .int 0, .long 0, .ref q83, .ref z99, .ref z100, .int 0, .int 0]))] s.heap.size = A at hC hD ⊢
  have hS : va_S A s.heap s.heap [] := va_S.rf
  have hl := lv_entry ([.ref h0, .int x]) (n := 3) (Nat.le_of_ble_eq_true rfl)
  rw [lg_entry_eq]
  generalize (lg_sl ([.ref h0, .int x]) ++ List.replicate (3 - (lg_sl ([.ref h0, .int x])).length) Slot.unset).toArray = ls at hl ⊢
  have hl : lv_has ls 3 [(0, .ref h0), (1, .int x)] := hl
  refine lv_aload_n hx hb d_law_end_0 rfl (lv_at hl 0 rfl) ?_
  refine lv_iload_n hx hb d_law_end_1 rfl (lv_at hl 1 rfl) ?_
  have hta := tq_tab (hh := [(0, 5, 8, 13)]) B0 (hts _ List.mem_cons_self)
  refine tq_d1 (As := [.int x]) (rest := []) ⟨hx, hb, hml, hown, htw⟩ (c_end_b l hfl D cI cL B _ h0 q83 q84 q89 q95 z98 z99 z100 q101 q107 q116 q120 q124 x (hbd)) (cwV 1 htw gV_law_31 rfl rfl rfl (by decide +kernel) ⟨Nat.le_of_ble_eq_true rfl, Nat.le_of_ble_eq_true rfl⟩) (wC_preV (As := [.int x]) hC hP hD hS [0, 1] (by decide) rfl (q0 := 0) rfl rfl) rfl hl.1 rfl (Nat.le_of_ble_eq_true rfl) d_law_end_2 ⟨Nat.le_of_ble_eq_true rfl, Nat.le_of_ble_eq_true rfl⟩ hta (by decide) (by decide) (by decide) (htw _ k809) hS (fun a9 H hS => ?_)
  have hP : va_P D classes [] H := fun k q hq => by simp at hq
  have hD : va_D A [] := hD.sub (ws' := []) [] (by decide) rfl
  refine W.widen (k := 1) (n := 6) (by omega) (by omega) ?_
  refine lv_astore_n (lv' := [(2, .ref a9), (0, .ref h0), (1, .int x)]) hx hb d_law_end_8 rfl hl (by decide) rfl (fun ls hl => ?_)
  refine lv_iconst (v := 1) hx hb d_law_end_9 (by decide) ?_
  refine W.widen (k := 1) (n := 6) (Nat.le_of_ble_eq_true rfl) (Nat.le_of_ble_eq_true rfl) ?_
  have hP9 := hP.sub (ws' := []) [] rfl
  have hD9 := hD.sub (ws' := []) [] (by decide) rfl
  exact W.iret (v := 1) hx hb hr (fun t ht hW => ⟨⟨1, (), rfl, rfl, by rw [ht]; exact hP9, va_K.moved hW.alike hC.1, hD9⟩, hS.F ht⟩) hS.2.2 d_law_end_10

theorem d_law_run_0 : decode method_8_code 0 = .ok (.aload_n 2, 1) := by decide +kernel
theorem d_law_run_1 : decode method_8_code 1 = .ok (.iconst 0, 1) := by decide +kernel
theorem d_law_run_2 : decode method_8_code 2 = .ok (.aload_n 0, 1) := by decide +kernel
theorem d_law_run_3 : decode method_8_code 3 = .ok (.iload_n 1, 1) := by decide +kernel
theorem d_law_run_4 : decode method_8_code 4 = .ok (.invokevirtual 35, 3) := by decide +kernel
theorem d_law_run_7 : decode method_8_code 7 = .ok (.i2l, 1) := by decide +kernel
theorem d_law_run_8 : decode method_8_code 8 = .ok (.lastore, 1) := by decide +kernel
theorem d_law_run_9 : decode method_8_code 9 = .ok (.goto 9, 3) := by decide +kernel
theorem d_law_run_18 : decode method_8_code 18 = .ok (.iconst 0, 1) := by decide +kernel
theorem d_law_run_19 : decode method_8_code 19 = .ok (.ireturn, 1) := by decide +kernel
theorem gV_law_35 : GoodIn tw (wsV "DrawingMachineLaw" 35 "DrawingMachine" y_DM_run ((Cond.code y_DM_run prog_1_method_8_code 5 (some .int)) :: tw)) := tw_pre (fun _ h => h) (tw_good (fun _ h => h) k314) (List.forall_mem_cons.mpr ⟨k786, List.forall_mem_cons.mpr ⟨k787, List.forall_mem_cons.mpr ⟨k788, List.forall_mem_cons.mpr ⟨k0, fun _ h => absurd h List.not_mem_nil⟩⟩⟩⟩)
set_option maxHeartbeats 4000000 in
set_option maxRecDepth 100000 in
theorem c_hrun_0 (l : Launch) (D : va_G) (cI cL : ClassId) (B sz : Nat) (h0 : Nat) (q83 : Nat) (q84 : Nat) (q89 : Nat) (q95 : Nat) (z98 : Nat) (z99 : Nat) (z100 : Nat) (q101 : Nat) (q107 : Nat) (q116 : Nat) (q120 : Nat) (q124 : Nat) (ou : Nat) : Met l y_law_run ((Cond.codeWith y_law_run method_8_code 4 (some .int) [(0, 9, 12, 13), (0, 9, 15, 38)]) :: tw) ({ frames := 70, cells := 0, slots := 0, locals := 7000 }) (va_Pc [.ref h0, .int 0, .ref ou] (wP D cI cL B sz [(h0, .inr (0, [.ref q83, .ref q84, .ref q89, .ref q95, .ref q101, .ref q107, .ref q116, .ref q120, .ref q124])), (q95, .inr (3, [.ref z98, .int 0, .int 0, .int 0, .int 0, .int 0, .int (-1), .int (-1), .int 0, .long 0, .ref q83, .ref z99, .ref z100, .int 0, .int 0])), (ou, .inl (cL, 1, .inr (.inl (fun _ => 0))))])) (va_Qi (S := Unit) (fun r u => r = 0) (fun u => wB D cI cL (va_A [(h0, .inr (0, [.ref q83, .ref q84, .ref q89, .ref q95, .ref q101, .ref q107, .ref q116, .ref q120, .ref q124])), (q95, .inr (3, [.ref z98, .int 0, .int 0, .int 0, .int 0, .int 0, .int (-1), .int (-1), .int 0, .long 0, .ref q83, .ref z99, .ref z100, .int 0, .int 0])), (ou, .inl (cL, 1, .inr (.inl (fun _ => 0))))] sz) ((fun _ : Unit => [(ou, .inl (cL, 1, .inr (.inl (vp_updL (fun _ => 0) (0 : Int32).toNatClampNeg 0))))]) u)) (va_A [(h0, .inr (0, [.ref q83, .ref q84, .ref q89, .ref q95, .ref q101, .ref q107, .ref q116, .ref q120, .ref q124])), (q95, .inr (3, [.ref z98, .int 0, .int 0, .int 0, .int 0, .int 0, .int (-1), .int (-1), .int 0, .long 0, .ref q83, .ref z99, .ref z100, .int 0, .int 0])), (ou, .inl (cL, 1, .inr (.inl (fun _ => 0))))] sz)) 0 0 (va_A [(h0, .inr (0, [.ref q83, .ref q84, .ref q89, .ref q95, .ref q101, .ref q107, .ref q116, .ref q120, .ref q124])), (q95, .inr (3, [.ref z98, .int 0, .int 0, .int 0, .int 0, .int 0, .int (-1), .int (-1), .int 0, .long 0, .ref q83, .ref z99, .ref z100, .int 0, .int 0])), (ou, .inl (cL, 1, .inr (.inl (fun _ => 0))))] sz) := by
  refine va_MetW (cc := method_8_code) (maxL := 4) (ret := (some .int)) (hh := [(0, 9, 12, 13), (0, 9, 15, 38)]) (by decide) rfl ?_
  intro p e s m args below meth c s₁ B0 hml hv
  obtain ⟨rfl, hv⟩ := hv
  have hx := B0.exec
  have hb := B0.bytes
  have hr := B0.returns
  have hts := atoms_spec (ws := (Cond.codeWith y_law_run method_8_code 4 (some .int) [(0, 9, 12, 13), (0, 9, 15, 38)]) :: tw) B0.pre
  have htw : ∀ w ∈ tw, w.before _ s = true := fun w hw => hts w (List.mem_cons_of_mem _ hw)
  have hown : s.vm.findClass "DrawingMachineLaw" = some m.cls := findClass_of_methodNamed B0.named
  have hlocks := B0.notSynchronized
  obtain ⟨hC, hP, hD, hsz⟩ := wC_init hv
  subst hsz
  generalize hAe : va_A [(h0, .inr (0, [.ref q83, .ref q84, .ref q89, .ref q95, .ref q101, .ref q107, .ref q116, .ref q120, .ref q124])), (q95, .inr (3, [.ref z98, .int 0, .int 0, .int 0, .int 0, .int 0, .int (-1), .int (-1), .int 0, .long 0, .ref q83, .ref z99, .ref z100, .int 0, .int 0])), (ou, .inl (cL, 1, .inr (.inl (fun _ => 0))))] s.heap.size = A at hC hD ⊢
  have hS : va_S A s.heap s.heap [] := va_S.rf
  have hl := lv_entry ([.ref h0, .int 0, .ref ou]) (n := 4) (Nat.le_of_ble_eq_true rfl)
  rw [lg_entry_eq]
  generalize (lg_sl ([.ref h0, .int 0, .ref ou]) ++ List.replicate (4 - (lg_sl ([.ref h0, .int 0, .ref ou])).length) Slot.unset).toArray = ls at hl ⊢
  have hl : lv_has ls 4 [(0, .ref h0), (1, .int 0), (2, .ref ou)] := hl
  refine lv_aload_n hx hb d_law_run_0 rfl (lv_at hl 2 rfl) ?_
  refine lv_iconst (v := 0) hx hb d_law_run_1 (by decide) ?_
  refine lv_aload_n hx hb d_law_run_2 rfl (lv_at hl 0 rfl) ?_
  refine lv_iload_n hx hb d_law_run_3 rfl (lv_at hl 1 rfl) ?_
  refine wc_i (wr := [(ou, .inl (cL, 1, .inr (.inl (fun _ => 0))))]) hC hP hD hS [0, 1] [2] rfl rfl (by decide) (by decide) (va_runV (As := [.int 0]) (rest := [.int 0, .ref ou]) ⟨hx, hb, hml, hown, htw⟩ (c_run_0 l D cI cL B _ h0 q83 q84 q89 q95 z98 z99 z100 q101 q107 q116 q120 q124) (cwV 1 htw gV_law_35 rfl rfl rfl (by decide +kernel) ⟨Nat.le_of_ble_eq_true rfl, Nat.le_of_ble_eq_true rfl⟩) (wC_preV (As := [.int 0]) hC hP hD hS [0, 1] (by decide) rfl (q0 := 0) rfl rfl) rfl rfl hl.1 rfl (lv_room (Nat.le_of_ble_eq_true rfl)) d_law_run_4 ⟨Nat.le_of_ble_eq_true rfl, Nat.le_of_ble_eq_true rfl⟩) (fun r1385 u1383 H locs hw1384 hP hD hS => ?_)
  obtain rfl : r1385 = 0 := hw1384
  have hP : va_P D classes [(ou, .inl (cL, 1, .inr (.inl (fun _ => 0))))] H := hP
  have hD : va_D A [(ou, .inl (cL, 1, .inr (.inl (fun _ => 0))))] := hD
  refine W.widen (k := 0) (n := 0) (by omega) (by omega) ?_
  refine lv_i2l (v := 0) hx hb d_law_run_7 (by decide) ?_
  refine va_last hx hb hC.1 hP hD hS 0 1 rfl rfl (by unfold vp_in; decide) d_law_run_8 (fun H locs hP hD hS => ?_)
  have hP : va_P D classes [(ou, .inl (cL, 1, .inr (.inl (vp_updL (fun _ => 0) (0 : Int32).toNatClampNeg 0))))] H := hP
  have hD : va_D A [(ou, .inl (cL, 1, .inr (.inl (vp_updL (fun _ => 0) (0 : Int32).toNatClampNeg 0))))] := hD
  refine lv_goto (tgt := 18) hx hb d_law_run_9 (by decide) ?_
  refine lv_iconst (v := 0) hx hb d_law_run_18 (by decide) ?_
  refine W.widen (k := 0) (n := 0) (Nat.le_of_ble_eq_true rfl) (Nat.le_of_ble_eq_true rfl) ?_
  have hP9 := hP.sub (ws' := [(ou, .inl (cL, 1, .inr (.inl (vp_updL (fun _ => 0) (0 : Int32).toNatClampNeg 0))))]) [0] rfl
  have hD9 := hD.sub (ws' := [(ou, .inl (cL, 1, .inr (.inl (vp_updL (fun _ => 0) (0 : Int32).toNatClampNeg 0))))]) [0] (by decide) rfl
  exact W.iret (v := 0) hx hb hr (fun t ht hW => ⟨⟨0, (), rfl, rfl, by rw [ht]; exact hP9, va_K.moved hW.alike hC.1, hD9⟩, hS.F ht⟩) hS.2.2 d_law_run_19

set_option maxHeartbeats 4000000 in
set_option maxRecDepth 100000 in
theorem c_hrun_p (l : Launch) (D : va_G) (cI cL : ClassId) (B sz : Nat) (h0 : Nat) (q83 : Nat) (q84 : Nat) (z87 : Nat) (q89 : Nat) (q95 : Nat) (z98 : Nat) (z99 : Nat) (z100 : Nat) (q101 : Nat) (q107 : Nat) (q116 : Nat) (q120 : Nat) (q124 : Nat) (x : Int32) (ou : Nat) (hn : 0 < x) : Met l y_law_run ((Cond.codeWith y_law_run method_8_code 4 (some .int) [(0, 9, 12, 13), (0, 9, 15, 38)]) :: tw) ({ frames := 70, cells := 0, slots := 0, locals := 7000 }) (va_Pc [.ref h0, .int x, .ref ou] (wP D cI cL B sz [(h0, .inr (0, [.ref q83, .ref q84, .ref q89, .ref q95, .ref q101, .ref q107, .ref q116, .ref q120, .ref q124])), (q95, .inr (3, [.ref z98, .int 0, .int 0, .int 0, .int 0, .int 0, .int (-1), .int (-1), .int 0, .long 0, .ref q83, .ref z99, .ref z100, .int 0, .int 0])), (q84, .inr (1, [.ref z87])), (ou, .inl (cL, 1, .inr (.inl (fun _ => 0))))])) (va_Qi (S := Unit) (fun r u => r = 0) (fun u => wB D cI cL (va_A [(h0, .inr (0, [.ref q83, .ref q84, .ref q89, .ref q95, .ref q101, .ref q107, .ref q116, .ref q120, .ref q124])), (q95, .inr (3, [.ref z98, .int 0, .int 0, .int 0, .int 0, .int 0, .int (-1), .int (-1), .int 0, .long 0, .ref q83, .ref z99, .ref z100, .int 0, .int 0])), (q84, .inr (1, [.ref z87])), (ou, .inl (cL, 1, .inr (.inl (fun _ => 0))))] sz) ((fun _ : Unit => [(ou, .inl (cL, 1, .inr (.inl (vp_updL (fun _ => 0) (0 : Int32).toNatClampNeg 1))))]) u)) (va_A [(h0, .inr (0, [.ref q83, .ref q84, .ref q89, .ref q95, .ref q101, .ref q107, .ref q116, .ref q120, .ref q124])), (q95, .inr (3, [.ref z98, .int 0, .int 0, .int 0, .int 0, .int 0, .int (-1), .int (-1), .int 0, .long 0, .ref q83, .ref z99, .ref z100, .int 0, .int 0])), (q84, .inr (1, [.ref z87])), (ou, .inl (cL, 1, .inr (.inl (fun _ => 0))))] sz)) 0 0 (va_A [(h0, .inr (0, [.ref q83, .ref q84, .ref q89, .ref q95, .ref q101, .ref q107, .ref q116, .ref q120, .ref q124])), (q95, .inr (3, [.ref z98, .int 0, .int 0, .int 0, .int 0, .int 0, .int (-1), .int (-1), .int 0, .long 0, .ref q83, .ref z99, .ref z100, .int 0, .int 0])), (q84, .inr (1, [.ref z87])), (ou, .inl (cL, 1, .inr (.inl (fun _ => 0))))] sz) := by
  refine va_MetW (cc := method_8_code) (maxL := 4) (ret := (some .int)) (hh := [(0, 9, 12, 13), (0, 9, 15, 38)]) (by decide) rfl ?_
  intro p e s m args below meth c s₁ B0 hml hv
  obtain ⟨rfl, hv⟩ := hv
  have hx := B0.exec
  have hb := B0.bytes
  have hr := B0.returns
  have hts := atoms_spec (ws := (Cond.codeWith y_law_run method_8_code 4 (some .int) [(0, 9, 12, 13), (0, 9, 15, 38)]) :: tw) B0.pre
  have htw : ∀ w ∈ tw, w.before _ s = true := fun w hw => hts w (List.mem_cons_of_mem _ hw)
  have hown : s.vm.findClass "DrawingMachineLaw" = some m.cls := findClass_of_methodNamed B0.named
  have hlocks := B0.notSynchronized
  obtain ⟨hC, hP, hD, hsz⟩ := wC_init hv
  subst hsz
  generalize hAe : va_A [(h0, .inr (0, [.ref q83, .ref q84, .ref q89, .ref q95, .ref q101, .ref q107, .ref q116, .ref q120, .ref q124])), (q95, .inr (3, [.ref z98, .int 0, .int 0, .int 0, .int 0, .int 0, .int (-1), .int (-1), .int 0, .long 0, .ref q83, .ref z99, .ref z100, .int 0, .int 0])), (q84, .inr (1, [.ref z87])), (ou, .inl (cL, 1, .inr (.inl (fun _ => 0))))] s.heap.size = A at hC hD ⊢
  have hS : va_S A s.heap s.heap [] := va_S.rf
  have hl := lv_entry ([.ref h0, .int x, .ref ou]) (n := 4) (Nat.le_of_ble_eq_true rfl)
  rw [lg_entry_eq]
  generalize (lg_sl ([.ref h0, .int x, .ref ou]) ++ List.replicate (4 - (lg_sl ([.ref h0, .int x, .ref ou])).length) Slot.unset).toArray = ls at hl ⊢
  have hl : lv_has ls 4 [(0, .ref h0), (1, .int x), (2, .ref ou)] := hl
  refine lv_aload_n hx hb d_law_run_0 rfl (lv_at hl 2 rfl) ?_
  refine lv_iconst (v := 0) hx hb d_law_run_1 (by decide) ?_
  refine lv_aload_n hx hb d_law_run_2 rfl (lv_at hl 0 rfl) ?_
  refine lv_iload_n hx hb d_law_run_3 rfl (lv_at hl 1 rfl) ?_
  refine wc_i (wr := [(ou, .inl (cL, 1, .inr (.inl (fun _ => 0))))]) hC hP hD hS [0, 1, 2] [3] rfl rfl (by decide) (by decide) (va_runV (As := [.int x]) (rest := [.int 0, .ref ou]) ⟨hx, hb, hml, hown, htw⟩ (c_run_p l D cI cL B _ h0 q83 q84 z87 q89 q95 z98 z99 z100 q101 q107 q116 q120 q124 x (hn)) (cwV 1 htw gV_law_35 rfl rfl rfl (by decide +kernel) ⟨Nat.le_of_ble_eq_true rfl, Nat.le_of_ble_eq_true rfl⟩) (wC_preV (As := [.int x]) hC hP hD hS [0, 1, 2] (by decide) rfl (q0 := 0) rfl rfl) rfl rfl hl.1 rfl (lv_room (Nat.le_of_ble_eq_true rfl)) d_law_run_4 ⟨Nat.le_of_ble_eq_true rfl, Nat.le_of_ble_eq_true rfl⟩) (fun r1388 u1386 H locs hw1387 hP hD hS => ?_)
  obtain rfl : r1388 = 1 := hw1387
  have hP : va_P D classes [(ou, .inl (cL, 1, .inr (.inl (fun _ => 0))))] H := hP
  have hD : va_D A [(ou, .inl (cL, 1, .inr (.inl (fun _ => 0))))] := hD
  refine W.widen (k := 0) (n := 0) (by omega) (by omega) ?_
  refine lv_i2l (v := 1) hx hb d_law_run_7 (by decide) ?_
  refine va_last hx hb hC.1 hP hD hS 0 1 rfl rfl (by unfold vp_in; decide) d_law_run_8 (fun H locs hP hD hS => ?_)
  have hP : va_P D classes [(ou, .inl (cL, 1, .inr (.inl (vp_updL (fun _ => 0) (0 : Int32).toNatClampNeg 1))))] H := hP
  have hD : va_D A [(ou, .inl (cL, 1, .inr (.inl (vp_updL (fun _ => 0) (0 : Int32).toNatClampNeg 1))))] := hD
  refine lv_goto (tgt := 18) hx hb d_law_run_9 (by decide) ?_
  refine lv_iconst (v := 0) hx hb d_law_run_18 (by decide) ?_
  refine W.widen (k := 0) (n := 0) (Nat.le_of_ble_eq_true rfl) (Nat.le_of_ble_eq_true rfl) ?_
  have hP9 := hP.sub (ws' := [(ou, .inl (cL, 1, .inr (.inl (vp_updL (fun _ => 0) (0 : Int32).toNatClampNeg 1))))]) [0] rfl
  have hD9 := hD.sub (ws' := [(ou, .inl (cL, 1, .inr (.inl (vp_updL (fun _ => 0) (0 : Int32).toNatClampNeg 1))))]) [0] (by decide) rfl
  exact W.iret (v := 0) hx hb hr (fun t ht hW => ⟨⟨0, (), rfl, rfl, by rw [ht]; exact hP9, va_K.moved hW.alike hC.1, hD9⟩, hS.F ht⟩) hS.2.2 d_law_run_19

theorem d_law_run_12 : decode method_8_code 12 = .ok (.astore_n 3, 1) := by decide +kernel
theorem d_law_run_13 : decode method_8_code 13 = .ok (.iconst 1, 1) := by decide +kernel
theorem d_law_run_14 : decode method_8_code 14 = .ok (.ireturn, 1) := by decide +kernel
set_option maxHeartbeats 4000000 in
set_option maxRecDepth 100000 in
theorem c_hrun_b (l : Launch) (hfl : l.stackTraces = false) (D : va_G) (cI cL : ClassId) (B sz : Nat) (h0 : Nat) (q83 : Nat) (q84 : Nat) (q89 : Nat) (q95 : Nat) (q101 : Nat) (q107 : Nat) (q116 : Nat) (q120 : Nat) (q124 : Nat) (x : Int32) (ou : Nat) (hn : x < 0) : Met l y_law_run ((Cond.codeWith y_law_run method_8_code 4 (some .int) [(0, 9, 12, 13), (0, 9, 15, 38)]) :: tw) ({ frames := 70, cells := 1, slots := 6, locals := 7000 }) (va_Pc [.ref h0, .int x, .ref ou] (wP D cI cL B sz [(h0, .inr (0, [.ref q83, .ref q84, .ref q89, .ref q95, .ref q101, .ref q107, .ref q116, .ref q120, .ref q124])), (ou, .inl (cL, 1, .inr (.inl (fun _ => 0))))])) (va_Qi (S := Unit) (fun r u => r = 1) (fun u => wB D cI cL (va_A [(h0, .inr (0, [.ref q83, .ref q84, .ref q89, .ref q95, .ref q101, .ref q107, .ref q116, .ref q120, .ref q124])), (ou, .inl (cL, 1, .inr (.inl (fun _ => 0))))] sz) ((fun _ : Unit => []) u)) (va_A [(h0, .inr (0, [.ref q83, .ref q84, .ref q89, .ref q95, .ref q101, .ref q107, .ref q116, .ref q120, .ref q124])), (ou, .inl (cL, 1, .inr (.inl (fun _ => 0))))] sz)) 1 6 (va_A [(h0, .inr (0, [.ref q83, .ref q84, .ref q89, .ref q95, .ref q101, .ref q107, .ref q116, .ref q120, .ref q124])), (ou, .inl (cL, 1, .inr (.inl (fun _ => 0))))] sz) := by
  refine va_MetW (cc := method_8_code) (maxL := 4) (ret := (some .int)) (hh := [(0, 9, 12, 13), (0, 9, 15, 38)]) (by decide) rfl ?_
  intro p e s m args below meth c s₁ B0 hml hv
  obtain ⟨rfl, hv⟩ := hv
  have hx := B0.exec
  have hb := B0.bytes
  have hr := B0.returns
  have hts := atoms_spec (ws := (Cond.codeWith y_law_run method_8_code 4 (some .int) [(0, 9, 12, 13), (0, 9, 15, 38)]) :: tw) B0.pre
  have htw : ∀ w ∈ tw, w.before _ s = true := fun w hw => hts w (List.mem_cons_of_mem _ hw)
  have hown : s.vm.findClass "DrawingMachineLaw" = some m.cls := findClass_of_methodNamed B0.named
  have hlocks := B0.notSynchronized
  obtain ⟨hC, hP, hD, hsz⟩ := wC_init hv
  subst hsz
  generalize hAe : va_A [(h0, .inr (0, [.ref q83, .ref q84, .ref q89, .ref q95, .ref q101, .ref q107, .ref q116, .ref q120, .ref q124])), (ou, .inl (cL, 1, .inr (.inl (fun _ => 0))))] s.heap.size = A at hC hD ⊢
  have hS : va_S A s.heap s.heap [] := va_S.rf
  have hl := lv_entry ([.ref h0, .int x, .ref ou]) (n := 4) (Nat.le_of_ble_eq_true rfl)
  rw [lg_entry_eq]
  generalize (lg_sl ([.ref h0, .int x, .ref ou]) ++ List.replicate (4 - (lg_sl ([.ref h0, .int x, .ref ou])).length) Slot.unset).toArray = ls at hl ⊢
  have hl : lv_has ls 4 [(0, .ref h0), (1, .int x), (2, .ref ou)] := hl
  refine lv_aload_n hx hb d_law_run_0 rfl (lv_at hl 2 rfl) ?_
  refine lv_iconst (v := 0) hx hb d_law_run_1 (by decide) ?_
  refine lv_aload_n hx hb d_law_run_2 rfl (lv_at hl 0 rfl) ?_
  refine lv_iload_n hx hb d_law_run_3 rfl (lv_at hl 1 rfl) ?_
  have hta := tq_tab (hh := [(0, 9, 12, 13), (0, 9, 15, 38)]) B0 (hts _ List.mem_cons_self)
  refine tq_d1 (As := [.int x]) (rest := [.int 0, .ref ou]) ⟨hx, hb, hml, hown, htw⟩ (c_run_b l hfl D cI cL B _ h0 x (hn)) (cwV 1 htw gV_law_35 rfl rfl rfl (by decide +kernel) ⟨Nat.le_of_ble_eq_true rfl, Nat.le_of_ble_eq_true rfl⟩) (wC_preV (As := [.int x]) hC hP hD hS [] (by decide) rfl (q0 := 0) rfl rfl) rfl hl.1 rfl (Nat.le_of_ble_eq_true rfl) d_law_run_4 ⟨Nat.le_of_ble_eq_true rfl, Nat.le_of_ble_eq_true rfl⟩ hta (by decide) (by decide) (by decide) (htw _ k809) hS (fun a9 H hS => ?_)
  have hP : va_P D classes [] H := fun k q hq => by simp at hq
  have hD : va_D A [] := hD.sub (ws' := []) [] (by decide) rfl
  refine W.widen (k := 1) (n := 6) (by omega) (by omega) ?_
  refine lv_astore_n (lv' := [(3, .ref a9), (0, .ref h0), (1, .int x), (2, .ref ou)]) hx hb d_law_run_12 rfl hl (by decide) rfl (fun ls hl => ?_)
  refine lv_iconst (v := 1) hx hb d_law_run_13 (by decide) ?_
  refine W.widen (k := 1) (n := 6) (Nat.le_of_ble_eq_true rfl) (Nat.le_of_ble_eq_true rfl) ?_
  have hP9 := hP.sub (ws' := []) [] rfl
  have hD9 := hD.sub (ws' := []) [] (by decide) rfl
  exact W.iret (v := 1) hx hb hr (fun t ht hW => ⟨⟨1, (), rfl, rfl, by rw [ht]; exact hP9, va_K.moved hW.alike hC.1, hD9⟩, hS.F ht⟩) hS.2.2 d_law_run_14

theorem d_law_about_0 : decode method_9_code 0 = .ok (.aload_n 2, 1) := by decide +kernel
theorem d_law_about_1 : decode method_9_code 1 = .ok (.iconst 0, 1) := by decide +kernel
theorem d_law_about_2 : decode method_9_code 2 = .ok (.aload_n 0, 1) := by decide +kernel
theorem d_law_about_3 : decode method_9_code 3 = .ok (.iload_n 1, 1) := by decide +kernel
theorem d_law_about_4 : decode method_9_code 4 = .ok (.invokevirtual 40, 3) := by decide +kernel
theorem d_law_about_7 : decode method_9_code 7 = .ok (.i2l, 1) := by decide +kernel
theorem d_law_about_8 : decode method_9_code 8 = .ok (.lastore, 1) := by decide +kernel
theorem d_law_about_9 : decode method_9_code 9 = .ok (.goto 6, 3) := by decide +kernel
theorem d_law_about_15 : decode method_9_code 15 = .ok (.iconst 0, 1) := by decide +kernel
theorem d_law_about_16 : decode method_9_code 16 = .ok (.ireturn, 1) := by decide +kernel
theorem gV_law_40 : GoodIn tw (wsV "DrawingMachineLaw" 40 "DrawingMachine" y_DM_about ((Cond.code y_DM_about prog_1_method_9_code 2 (some .int)) :: tw)) := tw_pre (fun _ h => h) (tw_good (fun _ h => h) k333) (List.forall_mem_cons.mpr ⟨k790, List.forall_mem_cons.mpr ⟨k791, List.forall_mem_cons.mpr ⟨k792, List.forall_mem_cons.mpr ⟨k0, fun _ h => absurd h List.not_mem_nil⟩⟩⟩⟩)
set_option maxHeartbeats 4000000 in
set_option maxRecDepth 100000 in
theorem c_habout_0 (l : Launch) (D : va_G) (cI cL : ClassId) (B sz : Nat) (h0 : Nat) (q83 : Nat) (q84 : Nat) (z87 : Nat) (q89 : Nat) (q95 : Nat) (z98 : Nat) (z99 : Nat) (z100 : Nat) (q101 : Nat) (z104 : Nat) (z105 : Nat) (z106 : Nat) (q107 : Nat) (z110 : Nat) (z111 : Nat) (z112 : Nat) (z113 : Nat) (z114 : Nat) (z115 : Nat) (q116 : Nat) (q120 : Nat) (q124 : Nat) (ou : Nat) : Met l y_law_about ((Cond.codeWith y_law_about method_9_code 4 (some .int) [(0, 9, 12, 13)]) :: tw) ({ frames := 70, cells := 0, slots := 0, locals := 7000 }) (va_Pc [.ref h0, .int 0, .ref ou] (wP D cI cL B sz [(h0, .inr (0, [.ref q83, .ref q84, .ref q89, .ref q95, .ref q101, .ref q107, .ref q116, .ref q120, .ref q124])), (q95, .inr (3, [.ref z98, .int 0, .int 0, .int 0, .int 0, .int 0, .int (-1), .int (-1), .int 0, .long 0, .ref q83, .ref z99, .ref z100, .int 0, .int 0])), (q107, .inr (5, [.ref z110, .ref z111, .int (-1), .ref z87, .ref q89, .ref z112, .ref z113, .ref z114, .ref z115])), (q101, .inr (4, [.int 0, .int (-1), .ref z104, .ref z105, .ref z106, .int 0, .long 0])), (ou, .inl (cL, 1, .inr (.inl (fun _ => 0))))])) (va_Qi (S := Unit) (fun r u => r = 0) (fun u => wB D cI cL (va_A [(h0, .inr (0, [.ref q83, .ref q84, .ref q89, .ref q95, .ref q101, .ref q107, .ref q116, .ref q120, .ref q124])), (q95, .inr (3, [.ref z98, .int 0, .int 0, .int 0, .int 0, .int 0, .int (-1), .int (-1), .int 0, .long 0, .ref q83, .ref z99, .ref z100, .int 0, .int 0])), (q107, .inr (5, [.ref z110, .ref z111, .int (-1), .ref z87, .ref q89, .ref z112, .ref z113, .ref z114, .ref z115])), (q101, .inr (4, [.int 0, .int (-1), .ref z104, .ref z105, .ref z106, .int 0, .long 0])), (ou, .inl (cL, 1, .inr (.inl (fun _ => 0))))] sz) ((fun _ : Unit => [(ou, .inl (cL, 1, .inr (.inl (vp_updL (fun _ => 0) (0 : Int32).toNatClampNeg 0))))]) u)) (va_A [(h0, .inr (0, [.ref q83, .ref q84, .ref q89, .ref q95, .ref q101, .ref q107, .ref q116, .ref q120, .ref q124])), (q95, .inr (3, [.ref z98, .int 0, .int 0, .int 0, .int 0, .int 0, .int (-1), .int (-1), .int 0, .long 0, .ref q83, .ref z99, .ref z100, .int 0, .int 0])), (q107, .inr (5, [.ref z110, .ref z111, .int (-1), .ref z87, .ref q89, .ref z112, .ref z113, .ref z114, .ref z115])), (q101, .inr (4, [.int 0, .int (-1), .ref z104, .ref z105, .ref z106, .int 0, .long 0])), (ou, .inl (cL, 1, .inr (.inl (fun _ => 0))))] sz)) 0 0 (va_A [(h0, .inr (0, [.ref q83, .ref q84, .ref q89, .ref q95, .ref q101, .ref q107, .ref q116, .ref q120, .ref q124])), (q95, .inr (3, [.ref z98, .int 0, .int 0, .int 0, .int 0, .int 0, .int (-1), .int (-1), .int 0, .long 0, .ref q83, .ref z99, .ref z100, .int 0, .int 0])), (q107, .inr (5, [.ref z110, .ref z111, .int (-1), .ref z87, .ref q89, .ref z112, .ref z113, .ref z114, .ref z115])), (q101, .inr (4, [.int 0, .int (-1), .ref z104, .ref z105, .ref z106, .int 0, .long 0])), (ou, .inl (cL, 1, .inr (.inl (fun _ => 0))))] sz) := by
  refine va_MetW (cc := method_9_code) (maxL := 4) (ret := (some .int)) (hh := [(0, 9, 12, 13)]) (by decide) rfl ?_
  intro p e s m args below meth c s₁ B0 hml hv
  obtain ⟨rfl, hv⟩ := hv
  have hx := B0.exec
  have hb := B0.bytes
  have hr := B0.returns
  have hts := atoms_spec (ws := (Cond.codeWith y_law_about method_9_code 4 (some .int) [(0, 9, 12, 13)]) :: tw) B0.pre
  have htw : ∀ w ∈ tw, w.before _ s = true := fun w hw => hts w (List.mem_cons_of_mem _ hw)
  have hown : s.vm.findClass "DrawingMachineLaw" = some m.cls := findClass_of_methodNamed B0.named
  have hlocks := B0.notSynchronized
  obtain ⟨hC, hP, hD, hsz⟩ := wC_init hv
  subst hsz
  generalize hAe : va_A [(h0, .inr (0, [.ref q83, .ref q84, .ref q89, .ref q95, .ref q101, .ref q107, .ref q116, .ref q120, .ref q124])), (q95, .inr (3, [.ref z98, .int 0, .int 0, .int 0, .int 0, .int 0, .int (-1), .int (-1), .int 0, .long 0, .ref q83, .ref z99, .ref z100, .int 0, .int 0])), (q107, .inr (5, [.ref z110, .ref z111, .int (-1), .ref z87, .ref q89, .ref z112, .ref z113, .ref z114, .ref z115])), (q101, .inr (4, [.int 0, .int (-1), .ref z104, .ref z105, .ref z106, .int 0, .long 0])), (ou, .inl (cL, 1, .inr (.inl (fun _ => 0))))] s.heap.size = A at hC hD ⊢
  have hS : va_S A s.heap s.heap [] := va_S.rf
  have hl := lv_entry ([.ref h0, .int 0, .ref ou]) (n := 4) (Nat.le_of_ble_eq_true rfl)
  rw [lg_entry_eq]
  generalize (lg_sl ([.ref h0, .int 0, .ref ou]) ++ List.replicate (4 - (lg_sl ([.ref h0, .int 0, .ref ou])).length) Slot.unset).toArray = ls at hl ⊢
  have hl : lv_has ls 4 [(0, .ref h0), (1, .int 0), (2, .ref ou)] := hl
  refine lv_aload_n hx hb d_law_about_0 rfl (lv_at hl 2 rfl) ?_
  refine lv_iconst (v := 0) hx hb d_law_about_1 (by decide) ?_
  refine lv_aload_n hx hb d_law_about_2 rfl (lv_at hl 0 rfl) ?_
  refine lv_iload_n hx hb d_law_about_3 rfl (lv_at hl 1 rfl) ?_
  refine wc_i (wr := [(ou, .inl (cL, 1, .inr (.inl (fun _ => 0))))]) hC hP hD hS [0, 1, 2, 3] [4] rfl rfl (by decide) (by decide) (va_runV (As := [.int 0]) (rest := [.int 0, .ref ou]) ⟨hx, hb, hml, hown, htw⟩ (c_about_0 l D cI cL B _ h0 q83 q84 z87 q89 q95 z98 z99 z100 q101 z104 z105 z106 q107 z110 z111 z112 z113 z114 z115 q116 q120 q124) (cwV 1 htw gV_law_40 rfl rfl rfl (by decide +kernel) ⟨Nat.le_of_ble_eq_true rfl, Nat.le_of_ble_eq_true rfl⟩) (wC_preV (As := [.int 0]) hC hP hD hS [0, 1, 2, 3] (by decide) rfl (q0 := 0) rfl rfl) rfl rfl hl.1 rfl (lv_room (Nat.le_of_ble_eq_true rfl)) d_law_about_4 ⟨Nat.le_of_ble_eq_true rfl, Nat.le_of_ble_eq_true rfl⟩) (fun r1391 u1389 H locs hw1390 hP hD hS => ?_)
  obtain rfl : r1391 = 0 := hw1390
  have hP : va_P D classes [(ou, .inl (cL, 1, .inr (.inl (fun _ => 0))))] H := hP
  have hD : va_D A [(ou, .inl (cL, 1, .inr (.inl (fun _ => 0))))] := hD
  refine W.widen (k := 0) (n := 0) (by omega) (by omega) ?_
  refine lv_i2l (v := 0) hx hb d_law_about_7 (by decide) ?_
  refine va_last hx hb hC.1 hP hD hS 0 1 rfl rfl (by unfold vp_in; decide) d_law_about_8 (fun H locs hP hD hS => ?_)
  have hP : va_P D classes [(ou, .inl (cL, 1, .inr (.inl (vp_updL (fun _ => 0) (0 : Int32).toNatClampNeg 0))))] H := hP
  have hD : va_D A [(ou, .inl (cL, 1, .inr (.inl (vp_updL (fun _ => 0) (0 : Int32).toNatClampNeg 0))))] := hD
  refine lv_goto (tgt := 15) hx hb d_law_about_9 (by decide) ?_
  refine lv_iconst (v := 0) hx hb d_law_about_15 (by decide) ?_
  refine W.widen (k := 0) (n := 0) (Nat.le_of_ble_eq_true rfl) (Nat.le_of_ble_eq_true rfl) ?_
  have hP9 := hP.sub (ws' := [(ou, .inl (cL, 1, .inr (.inl (vp_updL (fun _ => 0) (0 : Int32).toNatClampNeg 0))))]) [0] rfl
  have hD9 := hD.sub (ws' := [(ou, .inl (cL, 1, .inr (.inl (vp_updL (fun _ => 0) (0 : Int32).toNatClampNeg 0))))]) [0] (by decide) rfl
  exact W.iret (v := 0) hx hb hr (fun t ht hW => ⟨⟨0, (), rfl, rfl, by rw [ht]; exact hP9, va_K.moved hW.alike hC.1, hD9⟩, hS.F ht⟩) hS.2.2 d_law_about_16

set_option maxHeartbeats 4000000 in
set_option maxRecDepth 100000 in
theorem c_habout_1 (l : Launch) (D : va_G) (cI cL : ClassId) (B sz : Nat) (h0 : Nat) (q83 : Nat) (q84 : Nat) (z87 : Nat) (q89 : Nat) (q95 : Nat) (z98 : Nat) (z99 : Nat) (z100 : Nat) (q101 : Nat) (z104 : Nat) (z105 : Nat) (z106 : Nat) (q107 : Nat) (z110 : Nat) (z111 : Nat) (z112 : Nat) (z113 : Nat) (z114 : Nat) (z115 : Nat) (q116 : Nat) (q120 : Nat) (q124 : Nat) (ou : Nat) : Met l y_law_about ((Cond.codeWith y_law_about method_9_code 4 (some .int) [(0, 9, 12, 13)]) :: tw) ({ frames := 70, cells := 0, slots := 0, locals := 7000 }) (va_Pc [.ref h0, .int 1, .ref ou] (wP D cI cL B sz [(h0, .inr (0, [.ref q83, .ref q84, .ref q89, .ref q95, .ref q101, .ref q107, .ref q116, .ref q120, .ref q124])), (q95, .inr (3, [.ref z98, .int 0, .int 0, .int 0, .int 0, .int 0, .int (-1), .int (-1), .int 0, .long 0, .ref q83, .ref z99, .ref z100, .int 0, .int 0])), (q107, .inr (5, [.ref z110, .ref z111, .int (-1), .ref z87, .ref q89, .ref z112, .ref z113, .ref z114, .ref z115])), (q101, .inr (4, [.int 0, .int (-1), .ref z104, .ref z105, .ref z106, .int 0, .long 0])), (ou, .inl (cL, 1, .inr (.inl (fun _ => 0))))])) (va_Qi (S := Unit) (fun r u => r = 0) (fun u => wB D cI cL (va_A [(h0, .inr (0, [.ref q83, .ref q84, .ref q89, .ref q95, .ref q101, .ref q107, .ref q116, .ref q120, .ref q124])), (q95, .inr (3, [.ref z98, .int 0, .int 0, .int 0, .int 0, .int 0, .int (-1), .int (-1), .int 0, .long 0, .ref q83, .ref z99, .ref z100, .int 0, .int 0])), (q107, .inr (5, [.ref z110, .ref z111, .int (-1), .ref z87, .ref q89, .ref z112, .ref z113, .ref z114, .ref z115])), (q101, .inr (4, [.int 0, .int (-1), .ref z104, .ref z105, .ref z106, .int 0, .long 0])), (ou, .inl (cL, 1, .inr (.inl (fun _ => 0))))] sz) ((fun _ : Unit => [(ou, .inl (cL, 1, .inr (.inl (vp_updL (fun _ => 0) (0 : Int32).toNatClampNeg 0))))]) u)) (va_A [(h0, .inr (0, [.ref q83, .ref q84, .ref q89, .ref q95, .ref q101, .ref q107, .ref q116, .ref q120, .ref q124])), (q95, .inr (3, [.ref z98, .int 0, .int 0, .int 0, .int 0, .int 0, .int (-1), .int (-1), .int 0, .long 0, .ref q83, .ref z99, .ref z100, .int 0, .int 0])), (q107, .inr (5, [.ref z110, .ref z111, .int (-1), .ref z87, .ref q89, .ref z112, .ref z113, .ref z114, .ref z115])), (q101, .inr (4, [.int 0, .int (-1), .ref z104, .ref z105, .ref z106, .int 0, .long 0])), (ou, .inl (cL, 1, .inr (.inl (fun _ => 0))))] sz)) 0 0 (va_A [(h0, .inr (0, [.ref q83, .ref q84, .ref q89, .ref q95, .ref q101, .ref q107, .ref q116, .ref q120, .ref q124])), (q95, .inr (3, [.ref z98, .int 0, .int 0, .int 0, .int 0, .int 0, .int (-1), .int (-1), .int 0, .long 0, .ref q83, .ref z99, .ref z100, .int 0, .int 0])), (q107, .inr (5, [.ref z110, .ref z111, .int (-1), .ref z87, .ref q89, .ref z112, .ref z113, .ref z114, .ref z115])), (q101, .inr (4, [.int 0, .int (-1), .ref z104, .ref z105, .ref z106, .int 0, .long 0])), (ou, .inl (cL, 1, .inr (.inl (fun _ => 0))))] sz) := by
  refine va_MetW (cc := method_9_code) (maxL := 4) (ret := (some .int)) (hh := [(0, 9, 12, 13)]) (by decide) rfl ?_
  intro p e s m args below meth c s₁ B0 hml hv
  obtain ⟨rfl, hv⟩ := hv
  have hx := B0.exec
  have hb := B0.bytes
  have hr := B0.returns
  have hts := atoms_spec (ws := (Cond.codeWith y_law_about method_9_code 4 (some .int) [(0, 9, 12, 13)]) :: tw) B0.pre
  have htw : ∀ w ∈ tw, w.before _ s = true := fun w hw => hts w (List.mem_cons_of_mem _ hw)
  have hown : s.vm.findClass "DrawingMachineLaw" = some m.cls := findClass_of_methodNamed B0.named
  have hlocks := B0.notSynchronized
  obtain ⟨hC, hP, hD, hsz⟩ := wC_init hv
  subst hsz
  generalize hAe : va_A [(h0, .inr (0, [.ref q83, .ref q84, .ref q89, .ref q95, .ref q101, .ref q107, .ref q116, .ref q120, .ref q124])), (q95, .inr (3, [.ref z98, .int 0, .int 0, .int 0, .int 0, .int 0, .int (-1), .int (-1), .int 0, .long 0, .ref q83, .ref z99, .ref z100, .int 0, .int 0])), (q107, .inr (5, [.ref z110, .ref z111, .int (-1), .ref z87, .ref q89, .ref z112, .ref z113, .ref z114, .ref z115])), (q101, .inr (4, [.int 0, .int (-1), .ref z104, .ref z105, .ref z106, .int 0, .long 0])), (ou, .inl (cL, 1, .inr (.inl (fun _ => 0))))] s.heap.size = A at hC hD ⊢
  have hS : va_S A s.heap s.heap [] := va_S.rf
  have hl := lv_entry ([.ref h0, .int 1, .ref ou]) (n := 4) (Nat.le_of_ble_eq_true rfl)
  rw [lg_entry_eq]
  generalize (lg_sl ([.ref h0, .int 1, .ref ou]) ++ List.replicate (4 - (lg_sl ([.ref h0, .int 1, .ref ou])).length) Slot.unset).toArray = ls at hl ⊢
  have hl : lv_has ls 4 [(0, .ref h0), (1, .int 1), (2, .ref ou)] := hl
  refine lv_aload_n hx hb d_law_about_0 rfl (lv_at hl 2 rfl) ?_
  refine lv_iconst (v := 0) hx hb d_law_about_1 (by decide) ?_
  refine lv_aload_n hx hb d_law_about_2 rfl (lv_at hl 0 rfl) ?_
  refine lv_iload_n hx hb d_law_about_3 rfl (lv_at hl 1 rfl) ?_
  refine wc_i (wr := [(ou, .inl (cL, 1, .inr (.inl (fun _ => 0))))]) hC hP hD hS [0, 1, 2, 3] [4] rfl rfl (by decide) (by decide) (va_runV (As := [.int 1]) (rest := [.int 0, .ref ou]) ⟨hx, hb, hml, hown, htw⟩ (c_about_1 l D cI cL B _ h0 q83 q84 z87 q89 q95 z98 z99 z100 q101 z104 z105 z106 q107 z110 z111 z112 z113 z114 z115 q116 q120 q124) (cwV 1 htw gV_law_40 rfl rfl rfl (by decide +kernel) ⟨Nat.le_of_ble_eq_true rfl, Nat.le_of_ble_eq_true rfl⟩) (wC_preV (As := [.int 1]) hC hP hD hS [0, 1, 2, 3] (by decide) rfl (q0 := 0) rfl rfl) rfl rfl hl.1 rfl (lv_room (Nat.le_of_ble_eq_true rfl)) d_law_about_4 ⟨Nat.le_of_ble_eq_true rfl, Nat.le_of_ble_eq_true rfl⟩) (fun r1394 u1392 H locs hw1393 hP hD hS => ?_)
  obtain rfl : r1394 = 0 := hw1393
  have hP : va_P D classes [(ou, .inl (cL, 1, .inr (.inl (fun _ => 0))))] H := hP
  have hD : va_D A [(ou, .inl (cL, 1, .inr (.inl (fun _ => 0))))] := hD
  refine W.widen (k := 0) (n := 0) (by omega) (by omega) ?_
  refine lv_i2l (v := 0) hx hb d_law_about_7 (by decide) ?_
  refine va_last hx hb hC.1 hP hD hS 0 1 rfl rfl (by unfold vp_in; decide) d_law_about_8 (fun H locs hP hD hS => ?_)
  have hP : va_P D classes [(ou, .inl (cL, 1, .inr (.inl (vp_updL (fun _ => 0) (0 : Int32).toNatClampNeg 0))))] H := hP
  have hD : va_D A [(ou, .inl (cL, 1, .inr (.inl (vp_updL (fun _ => 0) (0 : Int32).toNatClampNeg 0))))] := hD
  refine lv_goto (tgt := 15) hx hb d_law_about_9 (by decide) ?_
  refine lv_iconst (v := 0) hx hb d_law_about_15 (by decide) ?_
  refine W.widen (k := 0) (n := 0) (Nat.le_of_ble_eq_true rfl) (Nat.le_of_ble_eq_true rfl) ?_
  have hP9 := hP.sub (ws' := [(ou, .inl (cL, 1, .inr (.inl (vp_updL (fun _ => 0) (0 : Int32).toNatClampNeg 0))))]) [0] rfl
  have hD9 := hD.sub (ws' := [(ou, .inl (cL, 1, .inr (.inl (vp_updL (fun _ => 0) (0 : Int32).toNatClampNeg 0))))]) [0] (by decide) rfl
  exact W.iret (v := 0) hx hb hr (fun t ht hW => ⟨⟨0, (), rfl, rfl, by rw [ht]; exact hP9, va_K.moved hW.alike hC.1, hD9⟩, hS.F ht⟩) hS.2.2 d_law_about_16

set_option maxHeartbeats 4000000 in
set_option maxRecDepth 100000 in
theorem c_habout_2 (l : Launch) (D : va_G) (cI cL : ClassId) (B sz : Nat) (h0 : Nat) (q83 : Nat) (q84 : Nat) (z87 : Nat) (q89 : Nat) (q95 : Nat) (z98 : Nat) (z99 : Nat) (z100 : Nat) (q101 : Nat) (z104 : Nat) (z105 : Nat) (z106 : Nat) (q107 : Nat) (z110 : Nat) (z111 : Nat) (z112 : Nat) (z113 : Nat) (z114 : Nat) (z115 : Nat) (q116 : Nat) (q120 : Nat) (q124 : Nat) (ou : Nat) : Met l y_law_about ((Cond.codeWith y_law_about method_9_code 4 (some .int) [(0, 9, 12, 13)]) :: tw) ({ frames := 70, cells := 0, slots := 0, locals := 7000 }) (va_Pc [.ref h0, .int 2, .ref ou] (wP D cI cL B sz [(h0, .inr (0, [.ref q83, .ref q84, .ref q89, .ref q95, .ref q101, .ref q107, .ref q116, .ref q120, .ref q124])), (q95, .inr (3, [.ref z98, .int 0, .int 0, .int 0, .int 0, .int 0, .int (-1), .int (-1), .int 0, .long 0, .ref q83, .ref z99, .ref z100, .int 0, .int 0])), (q107, .inr (5, [.ref z110, .ref z111, .int (-1), .ref z87, .ref q89, .ref z112, .ref z113, .ref z114, .ref z115])), (q101, .inr (4, [.int 0, .int (-1), .ref z104, .ref z105, .ref z106, .int 0, .long 0])), (ou, .inl (cL, 1, .inr (.inl (fun _ => 0))))])) (va_Qi (S := Unit) (fun r u => r = 0) (fun u => wB D cI cL (va_A [(h0, .inr (0, [.ref q83, .ref q84, .ref q89, .ref q95, .ref q101, .ref q107, .ref q116, .ref q120, .ref q124])), (q95, .inr (3, [.ref z98, .int 0, .int 0, .int 0, .int 0, .int 0, .int (-1), .int (-1), .int 0, .long 0, .ref q83, .ref z99, .ref z100, .int 0, .int 0])), (q107, .inr (5, [.ref z110, .ref z111, .int (-1), .ref z87, .ref q89, .ref z112, .ref z113, .ref z114, .ref z115])), (q101, .inr (4, [.int 0, .int (-1), .ref z104, .ref z105, .ref z106, .int 0, .long 0])), (ou, .inl (cL, 1, .inr (.inl (fun _ => 0))))] sz) ((fun _ : Unit => [(ou, .inl (cL, 1, .inr (.inl (vp_updL (fun _ => 0) (0 : Int32).toNatClampNeg (-1)))))]) u)) (va_A [(h0, .inr (0, [.ref q83, .ref q84, .ref q89, .ref q95, .ref q101, .ref q107, .ref q116, .ref q120, .ref q124])), (q95, .inr (3, [.ref z98, .int 0, .int 0, .int 0, .int 0, .int 0, .int (-1), .int (-1), .int 0, .long 0, .ref q83, .ref z99, .ref z100, .int 0, .int 0])), (q107, .inr (5, [.ref z110, .ref z111, .int (-1), .ref z87, .ref q89, .ref z112, .ref z113, .ref z114, .ref z115])), (q101, .inr (4, [.int 0, .int (-1), .ref z104, .ref z105, .ref z106, .int 0, .long 0])), (ou, .inl (cL, 1, .inr (.inl (fun _ => 0))))] sz)) 0 0 (va_A [(h0, .inr (0, [.ref q83, .ref q84, .ref q89, .ref q95, .ref q101, .ref q107, .ref q116, .ref q120, .ref q124])), (q95, .inr (3, [.ref z98, .int 0, .int 0, .int 0, .int 0, .int 0, .int (-1), .int (-1), .int 0, .long 0, .ref q83, .ref z99, .ref z100, .int 0, .int 0])), (q107, .inr (5, [.ref z110, .ref z111, .int (-1), .ref z87, .ref q89, .ref z112, .ref z113, .ref z114, .ref z115])), (q101, .inr (4, [.int 0, .int (-1), .ref z104, .ref z105, .ref z106, .int 0, .long 0])), (ou, .inl (cL, 1, .inr (.inl (fun _ => 0))))] sz) := by
  refine va_MetW (cc := method_9_code) (maxL := 4) (ret := (some .int)) (hh := [(0, 9, 12, 13)]) (by decide) rfl ?_
  intro p e s m args below meth c s₁ B0 hml hv
  obtain ⟨rfl, hv⟩ := hv
  have hx := B0.exec
  have hb := B0.bytes
  have hr := B0.returns
  have hts := atoms_spec (ws := (Cond.codeWith y_law_about method_9_code 4 (some .int) [(0, 9, 12, 13)]) :: tw) B0.pre
  have htw : ∀ w ∈ tw, w.before _ s = true := fun w hw => hts w (List.mem_cons_of_mem _ hw)
  have hown : s.vm.findClass "DrawingMachineLaw" = some m.cls := findClass_of_methodNamed B0.named
  have hlocks := B0.notSynchronized
  obtain ⟨hC, hP, hD, hsz⟩ := wC_init hv
  subst hsz
  generalize hAe : va_A [(h0, .inr (0, [.ref q83, .ref q84, .ref q89, .ref q95, .ref q101, .ref q107, .ref q116, .ref q120, .ref q124])), (q95, .inr (3, [.ref z98, .int 0, .int 0, .int 0, .int 0, .int 0, .int (-1), .int (-1), .int 0, .long 0, .ref q83, .ref z99, .ref z100, .int 0, .int 0])), (q107, .inr (5, [.ref z110, .ref z111, .int (-1), .ref z87, .ref q89, .ref z112, .ref z113, .ref z114, .ref z115])), (q101, .inr (4, [.int 0, .int (-1), .ref z104, .ref z105, .ref z106, .int 0, .long 0])), (ou, .inl (cL, 1, .inr (.inl (fun _ => 0))))] s.heap.size = A at hC hD ⊢
  have hS : va_S A s.heap s.heap [] := va_S.rf
  have hl := lv_entry ([.ref h0, .int 2, .ref ou]) (n := 4) (Nat.le_of_ble_eq_true rfl)
  rw [lg_entry_eq]
  generalize (lg_sl ([.ref h0, .int 2, .ref ou]) ++ List.replicate (4 - (lg_sl ([.ref h0, .int 2, .ref ou])).length) Slot.unset).toArray = ls at hl ⊢
  have hl : lv_has ls 4 [(0, .ref h0), (1, .int 2), (2, .ref ou)] := hl
  refine lv_aload_n hx hb d_law_about_0 rfl (lv_at hl 2 rfl) ?_
  refine lv_iconst (v := 0) hx hb d_law_about_1 (by decide) ?_
  refine lv_aload_n hx hb d_law_about_2 rfl (lv_at hl 0 rfl) ?_
  refine lv_iload_n hx hb d_law_about_3 rfl (lv_at hl 1 rfl) ?_
  refine wc_i (wr := [(ou, .inl (cL, 1, .inr (.inl (fun _ => 0))))]) hC hP hD hS [0, 1, 2, 3] [4] rfl rfl (by decide) (by decide) (va_runV (As := [.int 2]) (rest := [.int 0, .ref ou]) ⟨hx, hb, hml, hown, htw⟩ (c_about_2 l D cI cL B _ h0 q83 q84 z87 q89 q95 z98 z99 z100 q101 z104 z105 z106 q107 z110 z111 z112 z113 z114 z115 q116 q120 q124) (cwV 1 htw gV_law_40 rfl rfl rfl (by decide +kernel) ⟨Nat.le_of_ble_eq_true rfl, Nat.le_of_ble_eq_true rfl⟩) (wC_preV (As := [.int 2]) hC hP hD hS [0, 1, 2, 3] (by decide) rfl (q0 := 0) rfl rfl) rfl rfl hl.1 rfl (lv_room (Nat.le_of_ble_eq_true rfl)) d_law_about_4 ⟨Nat.le_of_ble_eq_true rfl, Nat.le_of_ble_eq_true rfl⟩) (fun r1397 u1395 H locs hw1396 hP hD hS => ?_)
  obtain rfl : r1397 = (-1) := hw1396
  have hP : va_P D classes [(ou, .inl (cL, 1, .inr (.inl (fun _ => 0))))] H := hP
  have hD : va_D A [(ou, .inl (cL, 1, .inr (.inl (fun _ => 0))))] := hD
  refine W.widen (k := 0) (n := 0) (by omega) (by omega) ?_
  refine lv_i2l (v := (-1)) hx hb d_law_about_7 (by decide) ?_
  refine va_last hx hb hC.1 hP hD hS 0 1 rfl rfl (by unfold vp_in; decide) d_law_about_8 (fun H locs hP hD hS => ?_)
  have hP : va_P D classes [(ou, .inl (cL, 1, .inr (.inl (vp_updL (fun _ => 0) (0 : Int32).toNatClampNeg (-1)))))] H := hP
  have hD : va_D A [(ou, .inl (cL, 1, .inr (.inl (vp_updL (fun _ => 0) (0 : Int32).toNatClampNeg (-1)))))] := hD
  refine lv_goto (tgt := 15) hx hb d_law_about_9 (by decide) ?_
  refine lv_iconst (v := 0) hx hb d_law_about_15 (by decide) ?_
  refine W.widen (k := 0) (n := 0) (Nat.le_of_ble_eq_true rfl) (Nat.le_of_ble_eq_true rfl) ?_
  have hP9 := hP.sub (ws' := [(ou, .inl (cL, 1, .inr (.inl (vp_updL (fun _ => 0) (0 : Int32).toNatClampNeg (-1)))))]) [0] rfl
  have hD9 := hD.sub (ws' := [(ou, .inl (cL, 1, .inr (.inl (vp_updL (fun _ => 0) (0 : Int32).toNatClampNeg (-1)))))]) [0] (by decide) rfl
  exact W.iret (v := 0) hx hb hr (fun t ht hW => ⟨⟨0, (), rfl, rfl, by rw [ht]; exact hP9, va_K.moved hW.alike hC.1, hD9⟩, hS.F ht⟩) hS.2.2 d_law_about_16

set_option maxHeartbeats 4000000 in
set_option maxRecDepth 100000 in
theorem c_habout_3 (l : Launch) (D : va_G) (cI cL : ClassId) (B sz : Nat) (h0 : Nat) (q83 : Nat) (q84 : Nat) (z87 : Nat) (q89 : Nat) (q95 : Nat) (z98 : Nat) (z99 : Nat) (z100 : Nat) (q101 : Nat) (z104 : Nat) (z105 : Nat) (z106 : Nat) (q107 : Nat) (z110 : Nat) (z111 : Nat) (z112 : Nat) (z113 : Nat) (z114 : Nat) (z115 : Nat) (q116 : Nat) (q120 : Nat) (q124 : Nat) (ou : Nat) : Met l y_law_about ((Cond.codeWith y_law_about method_9_code 4 (some .int) [(0, 9, 12, 13)]) :: tw) ({ frames := 70, cells := 0, slots := 0, locals := 7000 }) (va_Pc [.ref h0, .int 3, .ref ou] (wP D cI cL B sz [(h0, .inr (0, [.ref q83, .ref q84, .ref q89, .ref q95, .ref q101, .ref q107, .ref q116, .ref q120, .ref q124])), (q95, .inr (3, [.ref z98, .int 0, .int 0, .int 0, .int 0, .int 0, .int (-1), .int (-1), .int 0, .long 0, .ref q83, .ref z99, .ref z100, .int 0, .int 0])), (q107, .inr (5, [.ref z110, .ref z111, .int (-1), .ref z87, .ref q89, .ref z112, .ref z113, .ref z114, .ref z115])), (q101, .inr (4, [.int 0, .int (-1), .ref z104, .ref z105, .ref z106, .int 0, .long 0])), (ou, .inl (cL, 1, .inr (.inl (fun _ => 0))))])) (va_Qi (S := Unit) (fun r u => r = 0) (fun u => wB D cI cL (va_A [(h0, .inr (0, [.ref q83, .ref q84, .ref q89, .ref q95, .ref q101, .ref q107, .ref q116, .ref q120, .ref q124])), (q95, .inr (3, [.ref z98, .int 0, .int 0, .int 0, .int 0, .int 0, .int (-1), .int (-1), .int 0, .long 0, .ref q83, .ref z99, .ref z100, .int 0, .int 0])), (q107, .inr (5, [.ref z110, .ref z111, .int (-1), .ref z87, .ref q89, .ref z112, .ref z113, .ref z114, .ref z115])), (q101, .inr (4, [.int 0, .int (-1), .ref z104, .ref z105, .ref z106, .int 0, .long 0])), (ou, .inl (cL, 1, .inr (.inl (fun _ => 0))))] sz) ((fun _ : Unit => [(ou, .inl (cL, 1, .inr (.inl (vp_updL (fun _ => 0) (0 : Int32).toNatClampNeg (-1)))))]) u)) (va_A [(h0, .inr (0, [.ref q83, .ref q84, .ref q89, .ref q95, .ref q101, .ref q107, .ref q116, .ref q120, .ref q124])), (q95, .inr (3, [.ref z98, .int 0, .int 0, .int 0, .int 0, .int 0, .int (-1), .int (-1), .int 0, .long 0, .ref q83, .ref z99, .ref z100, .int 0, .int 0])), (q107, .inr (5, [.ref z110, .ref z111, .int (-1), .ref z87, .ref q89, .ref z112, .ref z113, .ref z114, .ref z115])), (q101, .inr (4, [.int 0, .int (-1), .ref z104, .ref z105, .ref z106, .int 0, .long 0])), (ou, .inl (cL, 1, .inr (.inl (fun _ => 0))))] sz)) 0 0 (va_A [(h0, .inr (0, [.ref q83, .ref q84, .ref q89, .ref q95, .ref q101, .ref q107, .ref q116, .ref q120, .ref q124])), (q95, .inr (3, [.ref z98, .int 0, .int 0, .int 0, .int 0, .int 0, .int (-1), .int (-1), .int 0, .long 0, .ref q83, .ref z99, .ref z100, .int 0, .int 0])), (q107, .inr (5, [.ref z110, .ref z111, .int (-1), .ref z87, .ref q89, .ref z112, .ref z113, .ref z114, .ref z115])), (q101, .inr (4, [.int 0, .int (-1), .ref z104, .ref z105, .ref z106, .int 0, .long 0])), (ou, .inl (cL, 1, .inr (.inl (fun _ => 0))))] sz) := by
  refine va_MetW (cc := method_9_code) (maxL := 4) (ret := (some .int)) (hh := [(0, 9, 12, 13)]) (by decide) rfl ?_
  intro p e s m args below meth c s₁ B0 hml hv
  obtain ⟨rfl, hv⟩ := hv
  have hx := B0.exec
  have hb := B0.bytes
  have hr := B0.returns
  have hts := atoms_spec (ws := (Cond.codeWith y_law_about method_9_code 4 (some .int) [(0, 9, 12, 13)]) :: tw) B0.pre
  have htw : ∀ w ∈ tw, w.before _ s = true := fun w hw => hts w (List.mem_cons_of_mem _ hw)
  have hown : s.vm.findClass "DrawingMachineLaw" = some m.cls := findClass_of_methodNamed B0.named
  have hlocks := B0.notSynchronized
  obtain ⟨hC, hP, hD, hsz⟩ := wC_init hv
  subst hsz
  generalize hAe : va_A [(h0, .inr (0, [.ref q83, .ref q84, .ref q89, .ref q95, .ref q101, .ref q107, .ref q116, .ref q120, .ref q124])), (q95, .inr (3, [.ref z98, .int 0, .int 0, .int 0, .int 0, .int 0, .int (-1), .int (-1), .int 0, .long 0, .ref q83, .ref z99, .ref z100, .int 0, .int 0])), (q107, .inr (5, [.ref z110, .ref z111, .int (-1), .ref z87, .ref q89, .ref z112, .ref z113, .ref z114, .ref z115])), (q101, .inr (4, [.int 0, .int (-1), .ref z104, .ref z105, .ref z106, .int 0, .long 0])), (ou, .inl (cL, 1, .inr (.inl (fun _ => 0))))] s.heap.size = A at hC hD ⊢
  have hS : va_S A s.heap s.heap [] := va_S.rf
  have hl := lv_entry ([.ref h0, .int 3, .ref ou]) (n := 4) (Nat.le_of_ble_eq_true rfl)
  rw [lg_entry_eq]
  generalize (lg_sl ([.ref h0, .int 3, .ref ou]) ++ List.replicate (4 - (lg_sl ([.ref h0, .int 3, .ref ou])).length) Slot.unset).toArray = ls at hl ⊢
  have hl : lv_has ls 4 [(0, .ref h0), (1, .int 3), (2, .ref ou)] := hl
  refine lv_aload_n hx hb d_law_about_0 rfl (lv_at hl 2 rfl) ?_
  refine lv_iconst (v := 0) hx hb d_law_about_1 (by decide) ?_
  refine lv_aload_n hx hb d_law_about_2 rfl (lv_at hl 0 rfl) ?_
  refine lv_iload_n hx hb d_law_about_3 rfl (lv_at hl 1 rfl) ?_
  refine wc_i (wr := [(ou, .inl (cL, 1, .inr (.inl (fun _ => 0))))]) hC hP hD hS [0, 1, 2, 3] [4] rfl rfl (by decide) (by decide) (va_runV (As := [.int 3]) (rest := [.int 0, .ref ou]) ⟨hx, hb, hml, hown, htw⟩ (c_about_3 l D cI cL B _ h0 q83 q84 z87 q89 q95 z98 z99 z100 q101 z104 z105 z106 q107 z110 z111 z112 z113 z114 z115 q116 q120 q124) (cwV 1 htw gV_law_40 rfl rfl rfl (by decide +kernel) ⟨Nat.le_of_ble_eq_true rfl, Nat.le_of_ble_eq_true rfl⟩) (wC_preV (As := [.int 3]) hC hP hD hS [0, 1, 2, 3] (by decide) rfl (q0 := 0) rfl rfl) rfl rfl hl.1 rfl (lv_room (Nat.le_of_ble_eq_true rfl)) d_law_about_4 ⟨Nat.le_of_ble_eq_true rfl, Nat.le_of_ble_eq_true rfl⟩) (fun r1400 u1398 H locs hw1399 hP hD hS => ?_)
  obtain rfl : r1400 = (-1) := hw1399
  have hP : va_P D classes [(ou, .inl (cL, 1, .inr (.inl (fun _ => 0))))] H := hP
  have hD : va_D A [(ou, .inl (cL, 1, .inr (.inl (fun _ => 0))))] := hD
  refine W.widen (k := 0) (n := 0) (by omega) (by omega) ?_
  refine lv_i2l (v := (-1)) hx hb d_law_about_7 (by decide) ?_
  refine va_last hx hb hC.1 hP hD hS 0 1 rfl rfl (by unfold vp_in; decide) d_law_about_8 (fun H locs hP hD hS => ?_)
  have hP : va_P D classes [(ou, .inl (cL, 1, .inr (.inl (vp_updL (fun _ => 0) (0 : Int32).toNatClampNeg (-1)))))] H := hP
  have hD : va_D A [(ou, .inl (cL, 1, .inr (.inl (vp_updL (fun _ => 0) (0 : Int32).toNatClampNeg (-1)))))] := hD
  refine lv_goto (tgt := 15) hx hb d_law_about_9 (by decide) ?_
  refine lv_iconst (v := 0) hx hb d_law_about_15 (by decide) ?_
  refine W.widen (k := 0) (n := 0) (Nat.le_of_ble_eq_true rfl) (Nat.le_of_ble_eq_true rfl) ?_
  have hP9 := hP.sub (ws' := [(ou, .inl (cL, 1, .inr (.inl (vp_updL (fun _ => 0) (0 : Int32).toNatClampNeg (-1)))))]) [0] rfl
  have hD9 := hD.sub (ws' := [(ou, .inl (cL, 1, .inr (.inl (vp_updL (fun _ => 0) (0 : Int32).toNatClampNeg (-1)))))]) [0] (by decide) rfl
  exact W.iret (v := 0) hx hb hr (fun t ht hW => ⟨⟨0, (), rfl, rfl, by rw [ht]; exact hP9, va_K.moved hW.alike hC.1, hD9⟩, hS.F ht⟩) hS.2.2 d_law_about_16

set_option maxHeartbeats 4000000 in
set_option maxRecDepth 100000 in
theorem c_habout_4 (l : Launch) (D : va_G) (cI cL : ClassId) (B sz : Nat) (h0 : Nat) (q83 : Nat) (q84 : Nat) (z87 : Nat) (q89 : Nat) (q95 : Nat) (z98 : Nat) (z99 : Nat) (z100 : Nat) (q101 : Nat) (z104 : Nat) (z105 : Nat) (z106 : Nat) (q107 : Nat) (z110 : Nat) (z111 : Nat) (z112 : Nat) (z113 : Nat) (z114 : Nat) (z115 : Nat) (q116 : Nat) (q120 : Nat) (q124 : Nat) (ou : Nat) : Met l y_law_about ((Cond.codeWith y_law_about method_9_code 4 (some .int) [(0, 9, 12, 13)]) :: tw) ({ frames := 70, cells := 0, slots := 0, locals := 7000 }) (va_Pc [.ref h0, .int 4, .ref ou] (wP D cI cL B sz [(h0, .inr (0, [.ref q83, .ref q84, .ref q89, .ref q95, .ref q101, .ref q107, .ref q116, .ref q120, .ref q124])), (q95, .inr (3, [.ref z98, .int 0, .int 0, .int 0, .int 0, .int 0, .int (-1), .int (-1), .int 0, .long 0, .ref q83, .ref z99, .ref z100, .int 0, .int 0])), (q107, .inr (5, [.ref z110, .ref z111, .int (-1), .ref z87, .ref q89, .ref z112, .ref z113, .ref z114, .ref z115])), (q101, .inr (4, [.int 0, .int (-1), .ref z104, .ref z105, .ref z106, .int 0, .long 0])), (ou, .inl (cL, 1, .inr (.inl (fun _ => 0))))])) (va_Qi (S := Unit) (fun r u => r = 0) (fun u => wB D cI cL (va_A [(h0, .inr (0, [.ref q83, .ref q84, .ref q89, .ref q95, .ref q101, .ref q107, .ref q116, .ref q120, .ref q124])), (q95, .inr (3, [.ref z98, .int 0, .int 0, .int 0, .int 0, .int 0, .int (-1), .int (-1), .int 0, .long 0, .ref q83, .ref z99, .ref z100, .int 0, .int 0])), (q107, .inr (5, [.ref z110, .ref z111, .int (-1), .ref z87, .ref q89, .ref z112, .ref z113, .ref z114, .ref z115])), (q101, .inr (4, [.int 0, .int (-1), .ref z104, .ref z105, .ref z106, .int 0, .long 0])), (ou, .inl (cL, 1, .inr (.inl (fun _ => 0))))] sz) ((fun _ : Unit => [(ou, .inl (cL, 1, .inr (.inl (vp_updL (fun _ => 0) (0 : Int32).toNatClampNeg 0))))]) u)) (va_A [(h0, .inr (0, [.ref q83, .ref q84, .ref q89, .ref q95, .ref q101, .ref q107, .ref q116, .ref q120, .ref q124])), (q95, .inr (3, [.ref z98, .int 0, .int 0, .int 0, .int 0, .int 0, .int (-1), .int (-1), .int 0, .long 0, .ref q83, .ref z99, .ref z100, .int 0, .int 0])), (q107, .inr (5, [.ref z110, .ref z111, .int (-1), .ref z87, .ref q89, .ref z112, .ref z113, .ref z114, .ref z115])), (q101, .inr (4, [.int 0, .int (-1), .ref z104, .ref z105, .ref z106, .int 0, .long 0])), (ou, .inl (cL, 1, .inr (.inl (fun _ => 0))))] sz)) 0 0 (va_A [(h0, .inr (0, [.ref q83, .ref q84, .ref q89, .ref q95, .ref q101, .ref q107, .ref q116, .ref q120, .ref q124])), (q95, .inr (3, [.ref z98, .int 0, .int 0, .int 0, .int 0, .int 0, .int (-1), .int (-1), .int 0, .long 0, .ref q83, .ref z99, .ref z100, .int 0, .int 0])), (q107, .inr (5, [.ref z110, .ref z111, .int (-1), .ref z87, .ref q89, .ref z112, .ref z113, .ref z114, .ref z115])), (q101, .inr (4, [.int 0, .int (-1), .ref z104, .ref z105, .ref z106, .int 0, .long 0])), (ou, .inl (cL, 1, .inr (.inl (fun _ => 0))))] sz) := by
  refine va_MetW (cc := method_9_code) (maxL := 4) (ret := (some .int)) (hh := [(0, 9, 12, 13)]) (by decide) rfl ?_
  intro p e s m args below meth c s₁ B0 hml hv
  obtain ⟨rfl, hv⟩ := hv
  have hx := B0.exec
  have hb := B0.bytes
  have hr := B0.returns
  have hts := atoms_spec (ws := (Cond.codeWith y_law_about method_9_code 4 (some .int) [(0, 9, 12, 13)]) :: tw) B0.pre
  have htw : ∀ w ∈ tw, w.before _ s = true := fun w hw => hts w (List.mem_cons_of_mem _ hw)
  have hown : s.vm.findClass "DrawingMachineLaw" = some m.cls := findClass_of_methodNamed B0.named
  have hlocks := B0.notSynchronized
  obtain ⟨hC, hP, hD, hsz⟩ := wC_init hv
  subst hsz
  generalize hAe : va_A [(h0, .inr (0, [.ref q83, .ref q84, .ref q89, .ref q95, .ref q101, .ref q107, .ref q116, .ref q120, .ref q124])), (q95, .inr (3, [.ref z98, .int 0, .int 0, .int 0, .int 0, .int 0, .int (-1), .int (-1), .int 0, .long 0, .ref q83, .ref z99, .ref z100, .int 0, .int 0])), (q107, .inr (5, [.ref z110, .ref z111, .int (-1), .ref z87, .ref q89, .ref z112, .ref z113, .ref z114, .ref z115])), (q101, .inr (4, [.int 0, .int (-1), .ref z104, .ref z105, .ref z106, .int 0, .long 0])), (ou, .inl (cL, 1, .inr (.inl (fun _ => 0))))] s.heap.size = A at hC hD ⊢
  have hS : va_S A s.heap s.heap [] := va_S.rf
  have hl := lv_entry ([.ref h0, .int 4, .ref ou]) (n := 4) (Nat.le_of_ble_eq_true rfl)
  rw [lg_entry_eq]
  generalize (lg_sl ([.ref h0, .int 4, .ref ou]) ++ List.replicate (4 - (lg_sl ([.ref h0, .int 4, .ref ou])).length) Slot.unset).toArray = ls at hl ⊢
  have hl : lv_has ls 4 [(0, .ref h0), (1, .int 4), (2, .ref ou)] := hl
  refine lv_aload_n hx hb d_law_about_0 rfl (lv_at hl 2 rfl) ?_
  refine lv_iconst (v := 0) hx hb d_law_about_1 (by decide) ?_
  refine lv_aload_n hx hb d_law_about_2 rfl (lv_at hl 0 rfl) ?_
  refine lv_iload_n hx hb d_law_about_3 rfl (lv_at hl 1 rfl) ?_
  refine wc_i (wr := [(ou, .inl (cL, 1, .inr (.inl (fun _ => 0))))]) hC hP hD hS [0, 1, 2, 3] [4] rfl rfl (by decide) (by decide) (va_runV (As := [.int 4]) (rest := [.int 0, .ref ou]) ⟨hx, hb, hml, hown, htw⟩ (c_about_4 l D cI cL B _ h0 q83 q84 z87 q89 q95 z98 z99 z100 q101 z104 z105 z106 q107 z110 z111 z112 z113 z114 z115 q116 q120 q124) (cwV 1 htw gV_law_40 rfl rfl rfl (by decide +kernel) ⟨Nat.le_of_ble_eq_true rfl, Nat.le_of_ble_eq_true rfl⟩) (wC_preV (As := [.int 4]) hC hP hD hS [0, 1, 2, 3] (by decide) rfl (q0 := 0) rfl rfl) rfl rfl hl.1 rfl (lv_room (Nat.le_of_ble_eq_true rfl)) d_law_about_4 ⟨Nat.le_of_ble_eq_true rfl, Nat.le_of_ble_eq_true rfl⟩) (fun r1403 u1401 H locs hw1402 hP hD hS => ?_)
  obtain rfl : r1403 = 0 := hw1402
  have hP : va_P D classes [(ou, .inl (cL, 1, .inr (.inl (fun _ => 0))))] H := hP
  have hD : va_D A [(ou, .inl (cL, 1, .inr (.inl (fun _ => 0))))] := hD
  refine W.widen (k := 0) (n := 0) (by omega) (by omega) ?_
  refine lv_i2l (v := 0) hx hb d_law_about_7 (by decide) ?_
  refine va_last hx hb hC.1 hP hD hS 0 1 rfl rfl (by unfold vp_in; decide) d_law_about_8 (fun H locs hP hD hS => ?_)
  have hP : va_P D classes [(ou, .inl (cL, 1, .inr (.inl (vp_updL (fun _ => 0) (0 : Int32).toNatClampNeg 0))))] H := hP
  have hD : va_D A [(ou, .inl (cL, 1, .inr (.inl (vp_updL (fun _ => 0) (0 : Int32).toNatClampNeg 0))))] := hD
  refine lv_goto (tgt := 15) hx hb d_law_about_9 (by decide) ?_
  refine lv_iconst (v := 0) hx hb d_law_about_15 (by decide) ?_
  refine W.widen (k := 0) (n := 0) (Nat.le_of_ble_eq_true rfl) (Nat.le_of_ble_eq_true rfl) ?_
  have hP9 := hP.sub (ws' := [(ou, .inl (cL, 1, .inr (.inl (vp_updL (fun _ => 0) (0 : Int32).toNatClampNeg 0))))]) [0] rfl
  have hD9 := hD.sub (ws' := [(ou, .inl (cL, 1, .inr (.inl (vp_updL (fun _ => 0) (0 : Int32).toNatClampNeg 0))))]) [0] (by decide) rfl
  exact W.iret (v := 0) hx hb hr (fun t ht hW => ⟨⟨0, (), rfl, rfl, by rw [ht]; exact hP9, va_K.moved hW.alike hC.1, hD9⟩, hS.F ht⟩) hS.2.2 d_law_about_16

set_option maxHeartbeats 4000000 in
set_option maxRecDepth 100000 in
theorem c_habout_5 (l : Launch) (D : va_G) (cI cL : ClassId) (B sz : Nat) (h0 : Nat) (q83 : Nat) (q84 : Nat) (z87 : Nat) (q89 : Nat) (q95 : Nat) (z98 : Nat) (z99 : Nat) (z100 : Nat) (q101 : Nat) (z104 : Nat) (z105 : Nat) (z106 : Nat) (q107 : Nat) (z110 : Nat) (z111 : Nat) (z112 : Nat) (z113 : Nat) (z114 : Nat) (z115 : Nat) (q116 : Nat) (q120 : Nat) (q124 : Nat) (ou : Nat) : Met l y_law_about ((Cond.codeWith y_law_about method_9_code 4 (some .int) [(0, 9, 12, 13)]) :: tw) ({ frames := 70, cells := 0, slots := 0, locals := 7000 }) (va_Pc [.ref h0, .int 5, .ref ou] (wP D cI cL B sz [(h0, .inr (0, [.ref q83, .ref q84, .ref q89, .ref q95, .ref q101, .ref q107, .ref q116, .ref q120, .ref q124])), (q95, .inr (3, [.ref z98, .int 0, .int 0, .int 0, .int 0, .int 0, .int (-1), .int (-1), .int 0, .long 0, .ref q83, .ref z99, .ref z100, .int 0, .int 0])), (q107, .inr (5, [.ref z110, .ref z111, .int (-1), .ref z87, .ref q89, .ref z112, .ref z113, .ref z114, .ref z115])), (q101, .inr (4, [.int 0, .int (-1), .ref z104, .ref z105, .ref z106, .int 0, .long 0])), (ou, .inl (cL, 1, .inr (.inl (fun _ => 0))))])) (va_Qi (S := Unit) (fun r u => r = 0) (fun u => wB D cI cL (va_A [(h0, .inr (0, [.ref q83, .ref q84, .ref q89, .ref q95, .ref q101, .ref q107, .ref q116, .ref q120, .ref q124])), (q95, .inr (3, [.ref z98, .int 0, .int 0, .int 0, .int 0, .int 0, .int (-1), .int (-1), .int 0, .long 0, .ref q83, .ref z99, .ref z100, .int 0, .int 0])), (q107, .inr (5, [.ref z110, .ref z111, .int (-1), .ref z87, .ref q89, .ref z112, .ref z113, .ref z114, .ref z115])), (q101, .inr (4, [.int 0, .int (-1), .ref z104, .ref z105, .ref z106, .int 0, .long 0])), (ou, .inl (cL, 1, .inr (.inl (fun _ => 0))))] sz) ((fun _ : Unit => [(ou, .inl (cL, 1, .inr (.inl (vp_updL (fun _ => 0) (0 : Int32).toNatClampNeg (-1)))))]) u)) (va_A [(h0, .inr (0, [.ref q83, .ref q84, .ref q89, .ref q95, .ref q101, .ref q107, .ref q116, .ref q120, .ref q124])), (q95, .inr (3, [.ref z98, .int 0, .int 0, .int 0, .int 0, .int 0, .int (-1), .int (-1), .int 0, .long 0, .ref q83, .ref z99, .ref z100, .int 0, .int 0])), (q107, .inr (5, [.ref z110, .ref z111, .int (-1), .ref z87, .ref q89, .ref z112, .ref z113, .ref z114, .ref z115])), (q101, .inr (4, [.int 0, .int (-1), .ref z104, .ref z105, .ref z106, .int 0, .long 0])), (ou, .inl (cL, 1, .inr (.inl (fun _ => 0))))] sz)) 0 0 (va_A [(h0, .inr (0, [.ref q83, .ref q84, .ref q89, .ref q95, .ref q101, .ref q107, .ref q116, .ref q120, .ref q124])), (q95, .inr (3, [.ref z98, .int 0, .int 0, .int 0, .int 0, .int 0, .int (-1), .int (-1), .int 0, .long 0, .ref q83, .ref z99, .ref z100, .int 0, .int 0])), (q107, .inr (5, [.ref z110, .ref z111, .int (-1), .ref z87, .ref q89, .ref z112, .ref z113, .ref z114, .ref z115])), (q101, .inr (4, [.int 0, .int (-1), .ref z104, .ref z105, .ref z106, .int 0, .long 0])), (ou, .inl (cL, 1, .inr (.inl (fun _ => 0))))] sz) := by
  refine va_MetW (cc := method_9_code) (maxL := 4) (ret := (some .int)) (hh := [(0, 9, 12, 13)]) (by decide) rfl ?_
  intro p e s m args below meth c s₁ B0 hml hv
  obtain ⟨rfl, hv⟩ := hv
  have hx := B0.exec
  have hb := B0.bytes
  have hr := B0.returns
  have hts := atoms_spec (ws := (Cond.codeWith y_law_about method_9_code 4 (some .int) [(0, 9, 12, 13)]) :: tw) B0.pre
  have htw : ∀ w ∈ tw, w.before _ s = true := fun w hw => hts w (List.mem_cons_of_mem _ hw)
  have hown : s.vm.findClass "DrawingMachineLaw" = some m.cls := findClass_of_methodNamed B0.named
  have hlocks := B0.notSynchronized
  obtain ⟨hC, hP, hD, hsz⟩ := wC_init hv
  subst hsz
  generalize hAe : va_A [(h0, .inr (0, [.ref q83, .ref q84, .ref q89, .ref q95, .ref q101, .ref q107, .ref q116, .ref q120, .ref q124])), (q95, .inr (3, [.ref z98, .int 0, .int 0, .int 0, .int 0, .int 0, .int (-1), .int (-1), .int 0, .long 0, .ref q83, .ref z99, .ref z100, .int 0, .int 0])), (q107, .inr (5, [.ref z110, .ref z111, .int (-1), .ref z87, .ref q89, .ref z112, .ref z113, .ref z114, .ref z115])), (q101, .inr (4, [.int 0, .int (-1), .ref z104, .ref z105, .ref z106, .int 0, .long 0])), (ou, .inl (cL, 1, .inr (.inl (fun _ => 0))))] s.heap.size = A at hC hD ⊢
  have hS : va_S A s.heap s.heap [] := va_S.rf
  have hl := lv_entry ([.ref h0, .int 5, .ref ou]) (n := 4) (Nat.le_of_ble_eq_true rfl)
  rw [lg_entry_eq]
  generalize (lg_sl ([.ref h0, .int 5, .ref ou]) ++ List.replicate (4 - (lg_sl ([.ref h0, .int 5, .ref ou])).length) Slot.unset).toArray = ls at hl ⊢
  have hl : lv_has ls 4 [(0, .ref h0), (1, .int 5), (2, .ref ou)] := hl
  refine lv_aload_n hx hb d_law_about_0 rfl (lv_at hl 2 rfl) ?_
  refine lv_iconst (v := 0) hx hb d_law_about_1 (by decide) ?_
  refine lv_aload_n hx hb d_law_about_2 rfl (lv_at hl 0 rfl) ?_
  refine lv_iload_n hx hb d_law_about_3 rfl (lv_at hl 1 rfl) ?_
  refine wc_i (wr := [(ou, .inl (cL, 1, .inr (.inl (fun _ => 0))))]) hC hP hD hS [0, 1, 2, 3] [4] rfl rfl (by decide) (by decide) (va_runV (As := [.int 5]) (rest := [.int 0, .ref ou]) ⟨hx, hb, hml, hown, htw⟩ (c_about_5 l D cI cL B _ h0 q83 q84 z87 q89 q95 z98 z99 z100 q101 z104 z105 z106 q107 z110 z111 z112 z113 z114 z115 q116 q120 q124) (cwV 1 htw gV_law_40 rfl rfl rfl (by decide +kernel) ⟨Nat.le_of_ble_eq_true rfl, Nat.le_of_ble_eq_true rfl⟩) (wC_preV (As := [.int 5]) hC hP hD hS [0, 1, 2, 3] (by decide) rfl (q0 := 0) rfl rfl) rfl rfl hl.1 rfl (lv_room (Nat.le_of_ble_eq_true rfl)) d_law_about_4 ⟨Nat.le_of_ble_eq_true rfl, Nat.le_of_ble_eq_true rfl⟩) (fun r1406 u1404 H locs hw1405 hP hD hS => ?_)
  obtain rfl : r1406 = (-1) := hw1405
  have hP : va_P D classes [(ou, .inl (cL, 1, .inr (.inl (fun _ => 0))))] H := hP
  have hD : va_D A [(ou, .inl (cL, 1, .inr (.inl (fun _ => 0))))] := hD
  refine W.widen (k := 0) (n := 0) (by omega) (by omega) ?_
  refine lv_i2l (v := (-1)) hx hb d_law_about_7 (by decide) ?_
  refine va_last hx hb hC.1 hP hD hS 0 1 rfl rfl (by unfold vp_in; decide) d_law_about_8 (fun H locs hP hD hS => ?_)
  have hP : va_P D classes [(ou, .inl (cL, 1, .inr (.inl (vp_updL (fun _ => 0) (0 : Int32).toNatClampNeg (-1)))))] H := hP
  have hD : va_D A [(ou, .inl (cL, 1, .inr (.inl (vp_updL (fun _ => 0) (0 : Int32).toNatClampNeg (-1)))))] := hD
  refine lv_goto (tgt := 15) hx hb d_law_about_9 (by decide) ?_
  refine lv_iconst (v := 0) hx hb d_law_about_15 (by decide) ?_
  refine W.widen (k := 0) (n := 0) (Nat.le_of_ble_eq_true rfl) (Nat.le_of_ble_eq_true rfl) ?_
  have hP9 := hP.sub (ws' := [(ou, .inl (cL, 1, .inr (.inl (vp_updL (fun _ => 0) (0 : Int32).toNatClampNeg (-1)))))]) [0] rfl
  have hD9 := hD.sub (ws' := [(ou, .inl (cL, 1, .inr (.inl (vp_updL (fun _ => 0) (0 : Int32).toNatClampNeg (-1)))))]) [0] (by decide) rfl
  exact W.iret (v := 0) hx hb hr (fun t ht hW => ⟨⟨0, (), rfl, rfl, by rw [ht]; exact hP9, va_K.moved hW.alike hC.1, hD9⟩, hS.F ht⟩) hS.2.2 d_law_about_16

set_option maxHeartbeats 4000000 in
set_option maxRecDepth 100000 in
theorem c_habout_6 (l : Launch) (D : va_G) (cI cL : ClassId) (B sz : Nat) (h0 : Nat) (q83 : Nat) (q84 : Nat) (z87 : Nat) (q89 : Nat) (q95 : Nat) (z98 : Nat) (z99 : Nat) (z100 : Nat) (q101 : Nat) (z104 : Nat) (z105 : Nat) (z106 : Nat) (q107 : Nat) (z110 : Nat) (z111 : Nat) (z112 : Nat) (z113 : Nat) (z114 : Nat) (z115 : Nat) (q116 : Nat) (q120 : Nat) (q124 : Nat) (ou : Nat) : Met l y_law_about ((Cond.codeWith y_law_about method_9_code 4 (some .int) [(0, 9, 12, 13)]) :: tw) ({ frames := 70, cells := 0, slots := 0, locals := 7000 }) (va_Pc [.ref h0, .int 6, .ref ou] (wP D cI cL B sz [(h0, .inr (0, [.ref q83, .ref q84, .ref q89, .ref q95, .ref q101, .ref q107, .ref q116, .ref q120, .ref q124])), (q95, .inr (3, [.ref z98, .int 0, .int 0, .int 0, .int 0, .int 0, .int (-1), .int (-1), .int 0, .long 0, .ref q83, .ref z99, .ref z100, .int 0, .int 0])), (q107, .inr (5, [.ref z110, .ref z111, .int (-1), .ref z87, .ref q89, .ref z112, .ref z113, .ref z114, .ref z115])), (q101, .inr (4, [.int 0, .int (-1), .ref z104, .ref z105, .ref z106, .int 0, .long 0])), (ou, .inl (cL, 1, .inr (.inl (fun _ => 0))))])) (va_Qi (S := Unit) (fun r u => r = 0) (fun u => wB D cI cL (va_A [(h0, .inr (0, [.ref q83, .ref q84, .ref q89, .ref q95, .ref q101, .ref q107, .ref q116, .ref q120, .ref q124])), (q95, .inr (3, [.ref z98, .int 0, .int 0, .int 0, .int 0, .int 0, .int (-1), .int (-1), .int 0, .long 0, .ref q83, .ref z99, .ref z100, .int 0, .int 0])), (q107, .inr (5, [.ref z110, .ref z111, .int (-1), .ref z87, .ref q89, .ref z112, .ref z113, .ref z114, .ref z115])), (q101, .inr (4, [.int 0, .int (-1), .ref z104, .ref z105, .ref z106, .int 0, .long 0])), (ou, .inl (cL, 1, .inr (.inl (fun _ => 0))))] sz) ((fun _ : Unit => [(ou, .inl (cL, 1, .inr (.inl (vp_updL (fun _ => 0) (0 : Int32).toNatClampNeg 0))))]) u)) (va_A [(h0, .inr (0, [.ref q83, .ref q84, .ref q89, .ref q95, .ref q101, .ref q107, .ref q116, .ref q120, .ref q124])), (q95, .inr (3, [.ref z98, .int 0, .int 0, .int 0, .int 0, .int 0, .int (-1), .int (-1), .int 0, .long 0, .ref q83, .ref z99, .ref z100, .int 0, .int 0])), (q107, .inr (5, [.ref z110, .ref z111, .int (-1), .ref z87, .ref q89, .ref z112, .ref z113, .ref z114, .ref z115])), (q101, .inr (4, [.int 0, .int (-1), .ref z104, .ref z105, .ref z106, .int 0, .long 0])), (ou, .inl (cL, 1, .inr (.inl (fun _ => 0))))] sz)) 0 0 (va_A [(h0, .inr (0, [.ref q83, .ref q84, .ref q89, .ref q95, .ref q101, .ref q107, .ref q116, .ref q120, .ref q124])), (q95, .inr (3, [.ref z98, .int 0, .int 0, .int 0, .int 0, .int 0, .int (-1), .int (-1), .int 0, .long 0, .ref q83, .ref z99, .ref z100, .int 0, .int 0])), (q107, .inr (5, [.ref z110, .ref z111, .int (-1), .ref z87, .ref q89, .ref z112, .ref z113, .ref z114, .ref z115])), (q101, .inr (4, [.int 0, .int (-1), .ref z104, .ref z105, .ref z106, .int 0, .long 0])), (ou, .inl (cL, 1, .inr (.inl (fun _ => 0))))] sz) := by
  refine va_MetW (cc := method_9_code) (maxL := 4) (ret := (some .int)) (hh := [(0, 9, 12, 13)]) (by decide) rfl ?_
  intro p e s m args below meth c s₁ B0 hml hv
  obtain ⟨rfl, hv⟩ := hv
  have hx := B0.exec
  have hb := B0.bytes
  have hr := B0.returns
  have hts := atoms_spec (ws := (Cond.codeWith y_law_about method_9_code 4 (some .int) [(0, 9, 12, 13)]) :: tw) B0.pre
  have htw : ∀ w ∈ tw, w.before _ s = true := fun w hw => hts w (List.mem_cons_of_mem _ hw)
  have hown : s.vm.findClass "DrawingMachineLaw" = some m.cls := findClass_of_methodNamed B0.named
  have hlocks := B0.notSynchronized
  obtain ⟨hC, hP, hD, hsz⟩ := wC_init hv
  subst hsz
  generalize hAe : va_A [(h0, .inr (0, [.ref q83, .ref q84, .ref q89, .ref q95, .ref q101, .ref q107, .ref q116, .ref q120, .ref q124])), (q95, .inr (3, [.ref z98, .int 0, .int 0, .int 0, .int 0, .int 0, .int (-1), .int (-1), .int 0, .long 0, .ref q83, .ref z99, .ref z100, .int 0, .int 0])), (q107, .inr (5, [.ref z110, .ref z111, .int (-1), .ref z87, .ref q89, .ref z112, .ref z113, .ref z114, .ref z115])), (q101, .inr (4, [.int 0, .int (-1), .ref z104, .ref z105, .ref z106, .int 0, .long 0])), (ou, .inl (cL, 1, .inr (.inl (fun _ => 0))))] s.heap.size = A at hC hD ⊢
  have hS : va_S A s.heap s.heap [] := va_S.rf
  have hl := lv_entry ([.ref h0, .int 6, .ref ou]) (n := 4) (Nat.le_of_ble_eq_true rfl)
  rw [lg_entry_eq]
  generalize (lg_sl ([.ref h0, .int 6, .ref ou]) ++ List.replicate (4 - (lg_sl ([.ref h0, .int 6, .ref ou])).length) Slot.unset).toArray = ls at hl ⊢
  have hl : lv_has ls 4 [(0, .ref h0), (1, .int 6), (2, .ref ou)] := hl
  refine lv_aload_n hx hb d_law_about_0 rfl (lv_at hl 2 rfl) ?_
  refine lv_iconst (v := 0) hx hb d_law_about_1 (by decide) ?_
  refine lv_aload_n hx hb d_law_about_2 rfl (lv_at hl 0 rfl) ?_
  refine lv_iload_n hx hb d_law_about_3 rfl (lv_at hl 1 rfl) ?_
  refine wc_i (wr := [(ou, .inl (cL, 1, .inr (.inl (fun _ => 0))))]) hC hP hD hS [0, 1, 2, 3] [4] rfl rfl (by decide) (by decide) (va_runV (As := [.int 6]) (rest := [.int 0, .ref ou]) ⟨hx, hb, hml, hown, htw⟩ (c_about_6 l D cI cL B _ h0 q83 q84 z87 q89 q95 z98 z99 z100 q101 z104 z105 z106 q107 z110 z111 z112 z113 z114 z115 q116 q120 q124) (cwV 1 htw gV_law_40 rfl rfl rfl (by decide +kernel) ⟨Nat.le_of_ble_eq_true rfl, Nat.le_of_ble_eq_true rfl⟩) (wC_preV (As := [.int 6]) hC hP hD hS [0, 1, 2, 3] (by decide) rfl (q0 := 0) rfl rfl) rfl rfl hl.1 rfl (lv_room (Nat.le_of_ble_eq_true rfl)) d_law_about_4 ⟨Nat.le_of_ble_eq_true rfl, Nat.le_of_ble_eq_true rfl⟩) (fun r1409 u1407 H locs hw1408 hP hD hS => ?_)
  obtain rfl : r1409 = 0 := hw1408
  have hP : va_P D classes [(ou, .inl (cL, 1, .inr (.inl (fun _ => 0))))] H := hP
  have hD : va_D A [(ou, .inl (cL, 1, .inr (.inl (fun _ => 0))))] := hD
  refine W.widen (k := 0) (n := 0) (by omega) (by omega) ?_
  refine lv_i2l (v := 0) hx hb d_law_about_7 (by decide) ?_
  refine va_last hx hb hC.1 hP hD hS 0 1 rfl rfl (by unfold vp_in; decide) d_law_about_8 (fun H locs hP hD hS => ?_)
  have hP : va_P D classes [(ou, .inl (cL, 1, .inr (.inl (vp_updL (fun _ => 0) (0 : Int32).toNatClampNeg 0))))] H := hP
  have hD : va_D A [(ou, .inl (cL, 1, .inr (.inl (vp_updL (fun _ => 0) (0 : Int32).toNatClampNeg 0))))] := hD
  refine lv_goto (tgt := 15) hx hb d_law_about_9 (by decide) ?_
  refine lv_iconst (v := 0) hx hb d_law_about_15 (by decide) ?_
  refine W.widen (k := 0) (n := 0) (Nat.le_of_ble_eq_true rfl) (Nat.le_of_ble_eq_true rfl) ?_
  have hP9 := hP.sub (ws' := [(ou, .inl (cL, 1, .inr (.inl (vp_updL (fun _ => 0) (0 : Int32).toNatClampNeg 0))))]) [0] rfl
  have hD9 := hD.sub (ws' := [(ou, .inl (cL, 1, .inr (.inl (vp_updL (fun _ => 0) (0 : Int32).toNatClampNeg 0))))]) [0] (by decide) rfl
  exact W.iret (v := 0) hx hb hr (fun t ht hW => ⟨⟨0, (), rfl, rfl, by rw [ht]; exact hP9, va_K.moved hW.alike hC.1, hD9⟩, hS.F ht⟩) hS.2.2 d_law_about_16

set_option maxHeartbeats 4000000 in
set_option maxRecDepth 100000 in
theorem c_habout_7 (l : Launch) (D : va_G) (cI cL : ClassId) (B sz : Nat) (h0 : Nat) (q83 : Nat) (q84 : Nat) (z87 : Nat) (q89 : Nat) (q95 : Nat) (z98 : Nat) (z99 : Nat) (z100 : Nat) (q101 : Nat) (z104 : Nat) (z105 : Nat) (z106 : Nat) (q107 : Nat) (z110 : Nat) (z111 : Nat) (z112 : Nat) (z113 : Nat) (z114 : Nat) (z115 : Nat) (q116 : Nat) (q120 : Nat) (q124 : Nat) (ou : Nat) : Met l y_law_about ((Cond.codeWith y_law_about method_9_code 4 (some .int) [(0, 9, 12, 13)]) :: tw) ({ frames := 70, cells := 0, slots := 0, locals := 7000 }) (va_Pc [.ref h0, .int 7, .ref ou] (wP D cI cL B sz [(h0, .inr (0, [.ref q83, .ref q84, .ref q89, .ref q95, .ref q101, .ref q107, .ref q116, .ref q120, .ref q124])), (q95, .inr (3, [.ref z98, .int 0, .int 0, .int 0, .int 0, .int 0, .int (-1), .int (-1), .int 0, .long 0, .ref q83, .ref z99, .ref z100, .int 0, .int 0])), (q107, .inr (5, [.ref z110, .ref z111, .int (-1), .ref z87, .ref q89, .ref z112, .ref z113, .ref z114, .ref z115])), (q101, .inr (4, [.int 0, .int (-1), .ref z104, .ref z105, .ref z106, .int 0, .long 0])), (ou, .inl (cL, 1, .inr (.inl (fun _ => 0))))])) (va_Qi (S := Unit) (fun r u => r = 0) (fun u => wB D cI cL (va_A [(h0, .inr (0, [.ref q83, .ref q84, .ref q89, .ref q95, .ref q101, .ref q107, .ref q116, .ref q120, .ref q124])), (q95, .inr (3, [.ref z98, .int 0, .int 0, .int 0, .int 0, .int 0, .int (-1), .int (-1), .int 0, .long 0, .ref q83, .ref z99, .ref z100, .int 0, .int 0])), (q107, .inr (5, [.ref z110, .ref z111, .int (-1), .ref z87, .ref q89, .ref z112, .ref z113, .ref z114, .ref z115])), (q101, .inr (4, [.int 0, .int (-1), .ref z104, .ref z105, .ref z106, .int 0, .long 0])), (ou, .inl (cL, 1, .inr (.inl (fun _ => 0))))] sz) ((fun _ : Unit => [(ou, .inl (cL, 1, .inr (.inl (vp_updL (fun _ => 0) (0 : Int32).toNatClampNeg 0))))]) u)) (va_A [(h0, .inr (0, [.ref q83, .ref q84, .ref q89, .ref q95, .ref q101, .ref q107, .ref q116, .ref q120, .ref q124])), (q95, .inr (3, [.ref z98, .int 0, .int 0, .int 0, .int 0, .int 0, .int (-1), .int (-1), .int 0, .long 0, .ref q83, .ref z99, .ref z100, .int 0, .int 0])), (q107, .inr (5, [.ref z110, .ref z111, .int (-1), .ref z87, .ref q89, .ref z112, .ref z113, .ref z114, .ref z115])), (q101, .inr (4, [.int 0, .int (-1), .ref z104, .ref z105, .ref z106, .int 0, .long 0])), (ou, .inl (cL, 1, .inr (.inl (fun _ => 0))))] sz)) 0 0 (va_A [(h0, .inr (0, [.ref q83, .ref q84, .ref q89, .ref q95, .ref q101, .ref q107, .ref q116, .ref q120, .ref q124])), (q95, .inr (3, [.ref z98, .int 0, .int 0, .int 0, .int 0, .int 0, .int (-1), .int (-1), .int 0, .long 0, .ref q83, .ref z99, .ref z100, .int 0, .int 0])), (q107, .inr (5, [.ref z110, .ref z111, .int (-1), .ref z87, .ref q89, .ref z112, .ref z113, .ref z114, .ref z115])), (q101, .inr (4, [.int 0, .int (-1), .ref z104, .ref z105, .ref z106, .int 0, .long 0])), (ou, .inl (cL, 1, .inr (.inl (fun _ => 0))))] sz) := by
  refine va_MetW (cc := method_9_code) (maxL := 4) (ret := (some .int)) (hh := [(0, 9, 12, 13)]) (by decide) rfl ?_
  intro p e s m args below meth c s₁ B0 hml hv
  obtain ⟨rfl, hv⟩ := hv
  have hx := B0.exec
  have hb := B0.bytes
  have hr := B0.returns
  have hts := atoms_spec (ws := (Cond.codeWith y_law_about method_9_code 4 (some .int) [(0, 9, 12, 13)]) :: tw) B0.pre
  have htw : ∀ w ∈ tw, w.before _ s = true := fun w hw => hts w (List.mem_cons_of_mem _ hw)
  have hown : s.vm.findClass "DrawingMachineLaw" = some m.cls := findClass_of_methodNamed B0.named
  have hlocks := B0.notSynchronized
  obtain ⟨hC, hP, hD, hsz⟩ := wC_init hv
  subst hsz
  generalize hAe : va_A [(h0, .inr (0, [.ref q83, .ref q84, .ref q89, .ref q95, .ref q101, .ref q107, .ref q116, .ref q120, .ref q124])), (q95, .inr (3, [.ref z98, .int 0, .int 0, .int 0, .int 0, .int 0, .int (-1), .int (-1), .int 0, .long 0, .ref q83, .ref z99, .ref z100, .int 0, .int 0])), (q107, .inr (5, [.ref z110, .ref z111, .int (-1), .ref z87, .ref q89, .ref z112, .ref z113, .ref z114, .ref z115])), (q101, .inr (4, [.int 0, .int (-1), .ref z104, .ref z105, .ref z106, .int 0, .long 0])), (ou, .inl (cL, 1, .inr (.inl (fun _ => 0))))] s.heap.size = A at hC hD ⊢
  have hS : va_S A s.heap s.heap [] := va_S.rf
  have hl := lv_entry ([.ref h0, .int 7, .ref ou]) (n := 4) (Nat.le_of_ble_eq_true rfl)
  rw [lg_entry_eq]
  generalize (lg_sl ([.ref h0, .int 7, .ref ou]) ++ List.replicate (4 - (lg_sl ([.ref h0, .int 7, .ref ou])).length) Slot.unset).toArray = ls at hl ⊢
  have hl : lv_has ls 4 [(0, .ref h0), (1, .int 7), (2, .ref ou)] := hl
  refine lv_aload_n hx hb d_law_about_0 rfl (lv_at hl 2 rfl) ?_
  refine lv_iconst (v := 0) hx hb d_law_about_1 (by decide) ?_
  refine lv_aload_n hx hb d_law_about_2 rfl (lv_at hl 0 rfl) ?_
  refine lv_iload_n hx hb d_law_about_3 rfl (lv_at hl 1 rfl) ?_
  refine wc_i (wr := [(ou, .inl (cL, 1, .inr (.inl (fun _ => 0))))]) hC hP hD hS [0, 1, 2, 3] [4] rfl rfl (by decide) (by decide) (va_runV (As := [.int 7]) (rest := [.int 0, .ref ou]) ⟨hx, hb, hml, hown, htw⟩ (c_about_7 l D cI cL B _ h0 q83 q84 z87 q89 q95 z98 z99 z100 q101 z104 z105 z106 q107 z110 z111 z112 z113 z114 z115 q116 q120 q124) (cwV 1 htw gV_law_40 rfl rfl rfl (by decide +kernel) ⟨Nat.le_of_ble_eq_true rfl, Nat.le_of_ble_eq_true rfl⟩) (wC_preV (As := [.int 7]) hC hP hD hS [0, 1, 2, 3] (by decide) rfl (q0 := 0) rfl rfl) rfl rfl hl.1 rfl (lv_room (Nat.le_of_ble_eq_true rfl)) d_law_about_4 ⟨Nat.le_of_ble_eq_true rfl, Nat.le_of_ble_eq_true rfl⟩) (fun r1412 u1410 H locs hw1411 hP hD hS => ?_)
  obtain rfl : r1412 = 0 := hw1411
  have hP : va_P D classes [(ou, .inl (cL, 1, .inr (.inl (fun _ => 0))))] H := hP
  have hD : va_D A [(ou, .inl (cL, 1, .inr (.inl (fun _ => 0))))] := hD
  refine W.widen (k := 0) (n := 0) (by omega) (by omega) ?_
  refine lv_i2l (v := 0) hx hb d_law_about_7 (by decide) ?_
  refine va_last hx hb hC.1 hP hD hS 0 1 rfl rfl (by unfold vp_in; decide) d_law_about_8 (fun H locs hP hD hS => ?_)
  have hP : va_P D classes [(ou, .inl (cL, 1, .inr (.inl (vp_updL (fun _ => 0) (0 : Int32).toNatClampNeg 0))))] H := hP
  have hD : va_D A [(ou, .inl (cL, 1, .inr (.inl (vp_updL (fun _ => 0) (0 : Int32).toNatClampNeg 0))))] := hD
  refine lv_goto (tgt := 15) hx hb d_law_about_9 (by decide) ?_
  refine lv_iconst (v := 0) hx hb d_law_about_15 (by decide) ?_
  refine W.widen (k := 0) (n := 0) (Nat.le_of_ble_eq_true rfl) (Nat.le_of_ble_eq_true rfl) ?_
  have hP9 := hP.sub (ws' := [(ou, .inl (cL, 1, .inr (.inl (vp_updL (fun _ => 0) (0 : Int32).toNatClampNeg 0))))]) [0] rfl
  have hD9 := hD.sub (ws' := [(ou, .inl (cL, 1, .inr (.inl (vp_updL (fun _ => 0) (0 : Int32).toNatClampNeg 0))))]) [0] (by decide) rfl
  exact W.iret (v := 0) hx hb hr (fun t ht hW => ⟨⟨0, (), rfl, rfl, by rw [ht]; exact hP9, va_K.moved hW.alike hC.1, hD9⟩, hS.F ht⟩) hS.2.2 d_law_about_16

set_option maxHeartbeats 4000000 in
set_option maxRecDepth 100000 in
theorem c_habout_8 (l : Launch) (D : va_G) (cI cL : ClassId) (B sz : Nat) (h0 : Nat) (q83 : Nat) (q84 : Nat) (z87 : Nat) (q89 : Nat) (q95 : Nat) (z98 : Nat) (z99 : Nat) (z100 : Nat) (q101 : Nat) (z104 : Nat) (z105 : Nat) (z106 : Nat) (q107 : Nat) (z110 : Nat) (z111 : Nat) (z112 : Nat) (z113 : Nat) (z114 : Nat) (z115 : Nat) (q116 : Nat) (q120 : Nat) (q124 : Nat) (ou : Nat) : Met l y_law_about ((Cond.codeWith y_law_about method_9_code 4 (some .int) [(0, 9, 12, 13)]) :: tw) ({ frames := 70, cells := 0, slots := 0, locals := 7000 }) (va_Pc [.ref h0, .int 8, .ref ou] (wP D cI cL B sz [(h0, .inr (0, [.ref q83, .ref q84, .ref q89, .ref q95, .ref q101, .ref q107, .ref q116, .ref q120, .ref q124])), (q95, .inr (3, [.ref z98, .int 0, .int 0, .int 0, .int 0, .int 0, .int (-1), .int (-1), .int 0, .long 0, .ref q83, .ref z99, .ref z100, .int 0, .int 0])), (q107, .inr (5, [.ref z110, .ref z111, .int (-1), .ref z87, .ref q89, .ref z112, .ref z113, .ref z114, .ref z115])), (q101, .inr (4, [.int 0, .int (-1), .ref z104, .ref z105, .ref z106, .int 0, .long 0])), (ou, .inl (cL, 1, .inr (.inl (fun _ => 0))))])) (va_Qi (S := Unit) (fun r u => r = 0) (fun u => wB D cI cL (va_A [(h0, .inr (0, [.ref q83, .ref q84, .ref q89, .ref q95, .ref q101, .ref q107, .ref q116, .ref q120, .ref q124])), (q95, .inr (3, [.ref z98, .int 0, .int 0, .int 0, .int 0, .int 0, .int (-1), .int (-1), .int 0, .long 0, .ref q83, .ref z99, .ref z100, .int 0, .int 0])), (q107, .inr (5, [.ref z110, .ref z111, .int (-1), .ref z87, .ref q89, .ref z112, .ref z113, .ref z114, .ref z115])), (q101, .inr (4, [.int 0, .int (-1), .ref z104, .ref z105, .ref z106, .int 0, .long 0])), (ou, .inl (cL, 1, .inr (.inl (fun _ => 0))))] sz) ((fun _ : Unit => [(ou, .inl (cL, 1, .inr (.inl (vp_updL (fun _ => 0) (0 : Int32).toNatClampNeg (-1)))))]) u)) (va_A [(h0, .inr (0, [.ref q83, .ref q84, .ref q89, .ref q95, .ref q101, .ref q107, .ref q116, .ref q120, .ref q124])), (q95, .inr (3, [.ref z98, .int 0, .int 0, .int 0, .int 0, .int 0, .int (-1), .int (-1), .int 0, .long 0, .ref q83, .ref z99, .ref z100, .int 0, .int 0])), (q107, .inr (5, [.ref z110, .ref z111, .int (-1), .ref z87, .ref q89, .ref z112, .ref z113, .ref z114, .ref z115])), (q101, .inr (4, [.int 0, .int (-1), .ref z104, .ref z105, .ref z106, .int 0, .long 0])), (ou, .inl (cL, 1, .inr (.inl (fun _ => 0))))] sz)) 0 0 (va_A [(h0, .inr (0, [.ref q83, .ref q84, .ref q89, .ref q95, .ref q101, .ref q107, .ref q116, .ref q120, .ref q124])), (q95, .inr (3, [.ref z98, .int 0, .int 0, .int 0, .int 0, .int 0, .int (-1), .int (-1), .int 0, .long 0, .ref q83, .ref z99, .ref z100, .int 0, .int 0])), (q107, .inr (5, [.ref z110, .ref z111, .int (-1), .ref z87, .ref q89, .ref z112, .ref z113, .ref z114, .ref z115])), (q101, .inr (4, [.int 0, .int (-1), .ref z104, .ref z105, .ref z106, .int 0, .long 0])), (ou, .inl (cL, 1, .inr (.inl (fun _ => 0))))] sz) := by
  refine va_MetW (cc := method_9_code) (maxL := 4) (ret := (some .int)) (hh := [(0, 9, 12, 13)]) (by decide) rfl ?_
  intro p e s m args below meth c s₁ B0 hml hv
  obtain ⟨rfl, hv⟩ := hv
  have hx := B0.exec
  have hb := B0.bytes
  have hr := B0.returns
  have hts := atoms_spec (ws := (Cond.codeWith y_law_about method_9_code 4 (some .int) [(0, 9, 12, 13)]) :: tw) B0.pre
  have htw : ∀ w ∈ tw, w.before _ s = true := fun w hw => hts w (List.mem_cons_of_mem _ hw)
  have hown : s.vm.findClass "DrawingMachineLaw" = some m.cls := findClass_of_methodNamed B0.named
  have hlocks := B0.notSynchronized
  obtain ⟨hC, hP, hD, hsz⟩ := wC_init hv
  subst hsz
  generalize hAe : va_A [(h0, .inr (0, [.ref q83, .ref q84, .ref q89, .ref q95, .ref q101, .ref q107, .ref q116, .ref q120, .ref q124])), (q95, .inr (3, [.ref z98, .int 0, .int 0, .int 0, .int 0, .int 0, .int (-1), .int (-1), .int 0, .long 0, .ref q83, .ref z99, .ref z100, .int 0, .int 0])), (q107, .inr (5, [.ref z110, .ref z111, .int (-1), .ref z87, .ref q89, .ref z112, .ref z113, .ref z114, .ref z115])), (q101, .inr (4, [.int 0, .int (-1), .ref z104, .ref z105, .ref z106, .int 0, .long 0])), (ou, .inl (cL, 1, .inr (.inl (fun _ => 0))))] s.heap.size = A at hC hD ⊢
  have hS : va_S A s.heap s.heap [] := va_S.rf
  have hl := lv_entry ([.ref h0, .int 8, .ref ou]) (n := 4) (Nat.le_of_ble_eq_true rfl)
  rw [lg_entry_eq]
  generalize (lg_sl ([.ref h0, .int 8, .ref ou]) ++ List.replicate (4 - (lg_sl ([.ref h0, .int 8, .ref ou])).length) Slot.unset).toArray = ls at hl ⊢
  have hl : lv_has ls 4 [(0, .ref h0), (1, .int 8), (2, .ref ou)] := hl
  refine lv_aload_n hx hb d_law_about_0 rfl (lv_at hl 2 rfl) ?_
  refine lv_iconst (v := 0) hx hb d_law_about_1 (by decide) ?_
  refine lv_aload_n hx hb d_law_about_2 rfl (lv_at hl 0 rfl) ?_
  refine lv_iload_n hx hb d_law_about_3 rfl (lv_at hl 1 rfl) ?_
  refine wc_i (wr := [(ou, .inl (cL, 1, .inr (.inl (fun _ => 0))))]) hC hP hD hS [0, 1, 2, 3] [4] rfl rfl (by decide) (by decide) (va_runV (As := [.int 8]) (rest := [.int 0, .ref ou]) ⟨hx, hb, hml, hown, htw⟩ (c_about_8 l D cI cL B _ h0 q83 q84 z87 q89 q95 z98 z99 z100 q101 z104 z105 z106 q107 z110 z111 z112 z113 z114 z115 q116 q120 q124) (cwV 1 htw gV_law_40 rfl rfl rfl (by decide +kernel) ⟨Nat.le_of_ble_eq_true rfl, Nat.le_of_ble_eq_true rfl⟩) (wC_preV (As := [.int 8]) hC hP hD hS [0, 1, 2, 3] (by decide) rfl (q0 := 0) rfl rfl) rfl rfl hl.1 rfl (lv_room (Nat.le_of_ble_eq_true rfl)) d_law_about_4 ⟨Nat.le_of_ble_eq_true rfl, Nat.le_of_ble_eq_true rfl⟩) (fun r1415 u1413 H locs hw1414 hP hD hS => ?_)
  obtain rfl : r1415 = (-1) := hw1414
  have hP : va_P D classes [(ou, .inl (cL, 1, .inr (.inl (fun _ => 0))))] H := hP
  have hD : va_D A [(ou, .inl (cL, 1, .inr (.inl (fun _ => 0))))] := hD
  refine W.widen (k := 0) (n := 0) (by omega) (by omega) ?_
  refine lv_i2l (v := (-1)) hx hb d_law_about_7 (by decide) ?_
  refine va_last hx hb hC.1 hP hD hS 0 1 rfl rfl (by unfold vp_in; decide) d_law_about_8 (fun H locs hP hD hS => ?_)
  have hP : va_P D classes [(ou, .inl (cL, 1, .inr (.inl (vp_updL (fun _ => 0) (0 : Int32).toNatClampNeg (-1)))))] H := hP
  have hD : va_D A [(ou, .inl (cL, 1, .inr (.inl (vp_updL (fun _ => 0) (0 : Int32).toNatClampNeg (-1)))))] := hD
  refine lv_goto (tgt := 15) hx hb d_law_about_9 (by decide) ?_
  refine lv_iconst (v := 0) hx hb d_law_about_15 (by decide) ?_
  refine W.widen (k := 0) (n := 0) (Nat.le_of_ble_eq_true rfl) (Nat.le_of_ble_eq_true rfl) ?_
  have hP9 := hP.sub (ws' := [(ou, .inl (cL, 1, .inr (.inl (vp_updL (fun _ => 0) (0 : Int32).toNatClampNeg (-1)))))]) [0] rfl
  have hD9 := hD.sub (ws' := [(ou, .inl (cL, 1, .inr (.inl (vp_updL (fun _ => 0) (0 : Int32).toNatClampNeg (-1)))))]) [0] (by decide) rfl
  exact W.iret (v := 0) hx hb hr (fun t ht hW => ⟨⟨0, (), rfl, rfl, by rw [ht]; exact hP9, va_K.moved hW.alike hC.1, hD9⟩, hS.F ht⟩) hS.2.2 d_law_about_16

theorem d_law_about_12 : decode method_9_code 12 = .ok (.astore_n 3, 1) := by decide +kernel
theorem d_law_about_13 : decode method_9_code 13 = .ok (.iconst 1, 1) := by decide +kernel
theorem d_law_about_14 : decode method_9_code 14 = .ok (.ireturn, 1) := by decide +kernel
set_option maxHeartbeats 4000000 in
set_option maxRecDepth 100000 in
theorem c_habout_b (l : Launch) (hfl : l.stackTraces = false) (D : va_G) (cI cL : ClassId) (B sz : Nat) (h0 : Nat) (q83 : Nat) (q84 : Nat) (q89 : Nat) (q95 : Nat) (q101 : Nat) (q107 : Nat) (q116 : Nat) (q120 : Nat) (q124 : Nat) (x : Int32) (ou : Nat) (hbd : x < 0 ∨ 8 < x) : Met l y_law_about ((Cond.codeWith y_law_about method_9_code 4 (some .int) [(0, 9, 12, 13)]) :: tw) ({ frames := 70, cells := 1, slots := 6, locals := 7000 }) (va_Pc [.ref h0, .int x, .ref ou] (wP D cI cL B sz [(h0, .inr (0, [.ref q83, .ref q84, .ref q89, .ref q95, .ref q101, .ref q107, .ref q116, .ref q120, .ref q124])), (ou, .inl (cL, 1, .inr (.inl (fun _ => 0))))])) (va_Qi (S := Unit) (fun r u => r = 1) (fun u => wB D cI cL (va_A [(h0, .inr (0, [.ref q83, .ref q84, .ref q89, .ref q95, .ref q101, .ref q107, .ref q116, .ref q120, .ref q124])), (ou, .inl (cL, 1, .inr (.inl (fun _ => 0))))] sz) ((fun _ : Unit => []) u)) (va_A [(h0, .inr (0, [.ref q83, .ref q84, .ref q89, .ref q95, .ref q101, .ref q107, .ref q116, .ref q120, .ref q124])), (ou, .inl (cL, 1, .inr (.inl (fun _ => 0))))] sz)) 1 6 (va_A [(h0, .inr (0, [.ref q83, .ref q84, .ref q89, .ref q95, .ref q101, .ref q107, .ref q116, .ref q120, .ref q124])), (ou, .inl (cL, 1, .inr (.inl (fun _ => 0))))] sz) := by
  refine va_MetW (cc := method_9_code) (maxL := 4) (ret := (some .int)) (hh := [(0, 9, 12, 13)]) (by decide) rfl ?_
  intro p e s m args below meth c s₁ B0 hml hv
  obtain ⟨rfl, hv⟩ := hv
  have hx := B0.exec
  have hb := B0.bytes
  have hr := B0.returns
  have hts := atoms_spec (ws := (Cond.codeWith y_law_about method_9_code 4 (some .int) [(0, 9, 12, 13)]) :: tw) B0.pre
  have htw : ∀ w ∈ tw, w.before _ s = true := fun w hw => hts w (List.mem_cons_of_mem _ hw)
  have hown : s.vm.findClass "DrawingMachineLaw" = some m.cls := findClass_of_methodNamed B0.named
  have hlocks := B0.notSynchronized
  obtain ⟨hC, hP, hD, hsz⟩ := wC_init hv
  subst hsz
  generalize hAe : va_A [(h0, .inr (0, [.ref q83, .ref q84, .ref q89, .ref q95, .ref q101, .ref q107, .ref q116, .ref q120, .ref q124])), (ou, .inl (cL, 1, .inr (.inl (fun _ => 0))))] s.heap.size = A at hC hD ⊢
  have hS : va_S A s.heap s.heap [] := va_S.rf
  have hl := lv_entry ([.ref h0, .int x, .ref ou]) (n := 4) (Nat.le_of_ble_eq_true rfl)
  rw [lg_entry_eq]
  generalize (lg_sl ([.ref h0, .int x, .ref ou]) ++ List.replicate (4 - (lg_sl ([.ref h0, .int x, .ref ou])).length) Slot.unset).toArray = ls at hl ⊢
  have hl : lv_has ls 4 [(0, .ref h0), (1, .int x), (2, .ref ou)] := hl
  refine lv_aload_n hx hb d_law_about_0 rfl (lv_at hl 2 rfl) ?_
  refine lv_iconst (v := 0) hx hb d_law_about_1 (by decide) ?_
  refine lv_aload_n hx hb d_law_about_2 rfl (lv_at hl 0 rfl) ?_
  refine lv_iload_n hx hb d_law_about_3 rfl (lv_at hl 1 rfl) ?_
  have hta := tq_tab (hh := [(0, 9, 12, 13)]) B0 (hts _ List.mem_cons_self)
  refine tq_d1 (As := [.int x]) (rest := [.int 0, .ref ou]) ⟨hx, hb, hml, hown, htw⟩ (c_about_b l hfl D cI cL B _ h0 x (hbd)) (cwV 1 htw gV_law_40 rfl rfl rfl (by decide +kernel) ⟨Nat.le_of_ble_eq_true rfl, Nat.le_of_ble_eq_true rfl⟩) (wC_preV (As := [.int x]) hC hP hD hS [] (by decide) rfl (q0 := 0) rfl rfl) rfl hl.1 rfl (Nat.le_of_ble_eq_true rfl) d_law_about_4 ⟨Nat.le_of_ble_eq_true rfl, Nat.le_of_ble_eq_true rfl⟩ hta (by decide) (by decide) (by decide) (htw _ k809) hS (fun a9 H hS => ?_)
  have hP : va_P D classes [] H := fun k q hq => by simp at hq
  have hD : va_D A [] := hD.sub (ws' := []) [] (by decide) rfl
  refine W.widen (k := 1) (n := 6) (by omega) (by omega) ?_
  refine lv_astore_n (lv' := [(3, .ref a9), (0, .ref h0), (1, .int x), (2, .ref ou)]) hx hb d_law_about_12 rfl hl (by decide) rfl (fun ls hl => ?_)
  refine lv_iconst (v := 1) hx hb d_law_about_13 (by decide) ?_
  refine W.widen (k := 1) (n := 6) (Nat.le_of_ble_eq_true rfl) (Nat.le_of_ble_eq_true rfl) ?_
  have hP9 := hP.sub (ws' := []) [] rfl
  have hD9 := hD.sub (ws' := []) [] (by decide) rfl
  exact W.iret (v := 1) hx hb hr (fun t ht hW => ⟨⟨1, (), rfl, rfl, by rw [ht]; exact hP9, va_K.moved hW.alike hC.1, hD9⟩, hS.F ht⟩) hS.2.2 d_law_about_14

theorem d_law_at_0 : decode method_10_code 0 = .ok (.aload 4, 2) := by decide +kernel
theorem d_law_at_2 : decode method_10_code 2 = .ok (.iconst 0, 1) := by decide +kernel
theorem d_law_at_3 : decode method_10_code 3 = .ok (.aload_n 0, 1) := by decide +kernel
theorem d_law_at_4 : decode method_10_code 4 = .ok (.iload_n 1, 1) := by decide +kernel
theorem d_law_at_5 : decode method_10_code 5 = .ok (.iload_n 2, 1) := by decide +kernel
theorem d_law_at_6 : decode method_10_code 6 = .ok (.iload_n 3, 1) := by decide +kernel
theorem d_law_at_7 : decode method_10_code 7 = .ok (.invokevirtual 43, 3) := by decide +kernel
theorem d_law_at_10 : decode method_10_code 10 = .ok (.i2l, 1) := by decide +kernel
theorem d_law_at_11 : decode method_10_code 11 = .ok (.lastore, 1) := by decide +kernel
theorem d_law_at_12 : decode method_10_code 12 = .ok (.goto 11, 3) := by decide +kernel
theorem d_law_at_23 : decode method_10_code 23 = .ok (.iconst 0, 1) := by decide +kernel
theorem d_law_at_24 : decode method_10_code 24 = .ok (.ireturn, 1) := by decide +kernel
theorem gV_law_43 : GoodIn tw (wsV "DrawingMachineLaw" 43 "DrawingMachine" y_DM_at ((Cond.code y_DM_at prog_1_method_10_code 4 (some .int)) :: tw)) := tw_pre (fun _ h => h) (tw_good (fun _ h => h) k340) (List.forall_mem_cons.mpr ⟨k794, List.forall_mem_cons.mpr ⟨k795, List.forall_mem_cons.mpr ⟨k796, List.forall_mem_cons.mpr ⟨k0, fun _ h => absurd h List.not_mem_nil⟩⟩⟩⟩)
set_option maxHeartbeats 4000000 in
set_option maxRecDepth 100000 in
theorem c_hat_0 (l : Launch) (D : va_G) (cI cL : ClassId) (B sz : Nat) (h0 : Nat) (q83 : Nat) (q84 : Nat) (z87 : Nat) (q89 : Nat) (z92 : Nat) (z93 : Nat) (z94 : Nat) (q95 : Nat) (q101 : Nat) (q107 : Nat) (q116 : Nat) (q120 : Nat) (q124 : Nat) (ou : Nat) : Met l y_law_at ((Cond.codeWith y_law_at method_10_code 6 (some .int) [(0, 12, 15, 13), (0, 12, 19, 19)]) :: tw) ({ frames := 70, cells := 0, slots := 0, locals := 7000 }) (va_Pc [.ref h0, .int 0, .int 0, .int 0, .ref ou] (wP D cI cL B sz [(h0, .inr (0, [.ref q83, .ref q84, .ref q89, .ref q95, .ref q101, .ref q107, .ref q116, .ref q120, .ref q124])), (q89, .inr (2, [.int 1, .int 1, .ref z92, .ref z93, .ref z94, .ref q84, .ref z87])), (z92, .inl (cI, 1, .inl (fun _ => 0))), (z93, .inl (cI, 1, .inl (fun _ => 0))), (z94, .inl (cI, 1, .inl (fun _ => 0))), (ou, .inl (cL, 1, .inr (.inl (fun _ => 0))))])) (va_Qi (S := Unit) (fun r u => r = 0) (fun u => wB D cI cL (va_A [(h0, .inr (0, [.ref q83, .ref q84, .ref q89, .ref q95, .ref q101, .ref q107, .ref q116, .ref q120, .ref q124])), (q89, .inr (2, [.int 1, .int 1, .ref z92, .ref z93, .ref z94, .ref q84, .ref z87])), (z92, .inl (cI, 1, .inl (fun _ => 0))), (z93, .inl (cI, 1, .inl (fun _ => 0))), (z94, .inl (cI, 1, .inl (fun _ => 0))), (ou, .inl (cL, 1, .inr (.inl (fun _ => 0))))] sz) ((fun _ : Unit => [(ou, .inl (cL, 1, .inr (.inl (vp_updL (fun _ => 0) (0 : Int32).toNatClampNeg 0))))]) u)) (va_A [(h0, .inr (0, [.ref q83, .ref q84, .ref q89, .ref q95, .ref q101, .ref q107, .ref q116, .ref q120, .ref q124])), (q89, .inr (2, [.int 1, .int 1, .ref z92, .ref z93, .ref z94, .ref q84, .ref z87])), (z92, .inl (cI, 1, .inl (fun _ => 0))), (z93, .inl (cI, 1, .inl (fun _ => 0))), (z94, .inl (cI, 1, .inl (fun _ => 0))), (ou, .inl (cL, 1, .inr (.inl (fun _ => 0))))] sz)) 0 0 (va_A [(h0, .inr (0, [.ref q83, .ref q84, .ref q89, .ref q95, .ref q101, .ref q107, .ref q116, .ref q120, .ref q124])), (q89, .inr (2, [.int 1, .int 1, .ref z92, .ref z93, .ref z94, .ref q84, .ref z87])), (z92, .inl (cI, 1, .inl (fun _ => 0))), (z93, .inl (cI, 1, .inl (fun _ => 0))), (z94, .inl (cI, 1, .inl (fun _ => 0))), (ou, .inl (cL, 1, .inr (.inl (fun _ => 0))))] sz) := by
  refine va_MetW (cc := method_10_code) (maxL := 6) (ret := (some .int)) (hh := [(0, 12, 15, 13), (0, 12, 19, 19)]) (by decide) rfl ?_
  intro p e s m args below meth c s₁ B0 hml hv
  obtain ⟨rfl, hv⟩ := hv
  have hx := B0.exec
  have hb := B0.bytes
  have hr := B0.returns
  have hts := atoms_spec (ws := (Cond.codeWith y_law_at method_10_code 6 (some .int) [(0, 12, 15, 13), (0, 12, 19, 19)]) :: tw) B0.pre
  have htw : ∀ w ∈ tw, w.before _ s = true := fun w hw => hts w (List.mem_cons_of_mem _ hw)
  have hown : s.vm.findClass "DrawingMachineLaw" = some m.cls := findClass_of_methodNamed B0.named
  have hlocks := B0.notSynchronized
  obtain ⟨hC, hP, hD, hsz⟩ := wC_init hv
  subst hsz
  generalize hAe : va_A [(h0, .inr (0, [.ref q83, .ref q84, .ref q89, .ref q95, .ref q101, .ref q107, .ref q116, .ref q120, .ref q124])), (q89, .inr (2, [.int 1, .int 1, .ref z92, .ref z93, .ref z94, .ref q84, .ref z87])), (z92, .inl (cI, 1, .inl (fun _ => 0))), (z93, .inl (cI, 1, .inl (fun _ => 0))), (z94, .inl (cI, 1, .inl (fun _ => 0))), (ou, .inl (cL, 1, .inr (.inl (fun _ => 0))))] s.heap.size = A at hC hD ⊢
  have hS : va_S A s.heap s.heap [] := va_S.rf
  have hl := lv_entry ([.ref h0, .int 0, .int 0, .int 0, .ref ou]) (n := 6) (Nat.le_of_ble_eq_true rfl)
  rw [lg_entry_eq]
  generalize (lg_sl ([.ref h0, .int 0, .int 0, .int 0, .ref ou]) ++ List.replicate (6 - (lg_sl ([.ref h0, .int 0, .int 0, .int 0, .ref ou])).length) Slot.unset).toArray = ls at hl ⊢
  have hl : lv_has ls 6 [(0, .ref h0), (1, .int 0), (2, .int 0), (3, .int 0), (4, .ref ou)] := hl
  refine lv_aload hx hb d_law_at_0 (lv_at hl 4 rfl) ?_
  refine lv_iconst (v := 0) hx hb d_law_at_2 (by decide) ?_
  refine lv_aload_n hx hb d_law_at_3 rfl (lv_at hl 0 rfl) ?_
  refine lv_iload_n hx hb d_law_at_4 rfl (lv_at hl 1 rfl) ?_
  refine lv_iload_n hx hb d_law_at_5 rfl (lv_at hl 2 rfl) ?_
  refine lv_iload_n hx hb d_law_at_6 rfl (lv_at hl 3 rfl) ?_
  refine wc_i (wr := [(ou, .inl (cL, 1, .inr (.inl (fun _ => 0))))]) hC hP hD hS [0, 1, 2, 3, 4] [5] rfl rfl (by decide) (by decide) (va_runV (As := [.int 0, .int 0, .int 0]) (rest := [.int 0, .ref ou]) ⟨hx, hb, hml, hown, htw⟩ (c_at_0 l D cI cL B _ h0 q83 q84 z87 q89 z92 z93 z94 q95 q101 q107 q116 q120 q124) (cwV 3 htw gV_law_43 rfl rfl rfl (by decide +kernel) ⟨Nat.le_of_ble_eq_true rfl, Nat.le_of_ble_eq_true rfl⟩) (wC_preV (As := [.int 0, .int 0, .int 0]) hC hP hD hS [0, 1, 2, 3, 4] (by decide) rfl (q0 := 0) rfl rfl) rfl rfl hl.1 rfl (lv_room (Nat.le_of_ble_eq_true rfl)) d_law_at_7 ⟨Nat.le_of_ble_eq_true rfl, Nat.le_of_ble_eq_true rfl⟩) (fun r1418 u1416 H locs hw1417 hP hD hS => ?_)
  obtain rfl : r1418 = 0 := hw1417
  have hP : va_P D classes [(ou, .inl (cL, 1, .inr (.inl (fun _ => 0))))] H := hP
  have hD : va_D A [(ou, .inl (cL, 1, .inr (.inl (fun _ => 0))))] := hD
  refine W.widen (k := 0) (n := 0) (by omega) (by omega) ?_
  refine lv_i2l (v := 0) hx hb d_law_at_10 (by decide) ?_
  refine va_last hx hb hC.1 hP hD hS 0 1 rfl rfl (by unfold vp_in; decide) d_law_at_11 (fun H locs hP hD hS => ?_)
  have hP : va_P D classes [(ou, .inl (cL, 1, .inr (.inl (vp_updL (fun _ => 0) (0 : Int32).toNatClampNeg 0))))] H := hP
  have hD : va_D A [(ou, .inl (cL, 1, .inr (.inl (vp_updL (fun _ => 0) (0 : Int32).toNatClampNeg 0))))] := hD
  refine lv_goto (tgt := 23) hx hb d_law_at_12 (by decide) ?_
  refine lv_iconst (v := 0) hx hb d_law_at_23 (by decide) ?_
  refine W.widen (k := 0) (n := 0) (Nat.le_of_ble_eq_true rfl) (Nat.le_of_ble_eq_true rfl) ?_
  have hP9 := hP.sub (ws' := [(ou, .inl (cL, 1, .inr (.inl (vp_updL (fun _ => 0) (0 : Int32).toNatClampNeg 0))))]) [0] rfl
  have hD9 := hD.sub (ws' := [(ou, .inl (cL, 1, .inr (.inl (vp_updL (fun _ => 0) (0 : Int32).toNatClampNeg 0))))]) [0] (by decide) rfl
  exact W.iret (v := 0) hx hb hr (fun t ht hW => ⟨⟨0, (), rfl, rfl, by rw [ht]; exact hP9, va_K.moved hW.alike hC.1, hD9⟩, hS.F ht⟩) hS.2.2 d_law_at_24

set_option maxHeartbeats 4000000 in
set_option maxRecDepth 100000 in
theorem c_hat_1 (l : Launch) (D : va_G) (cI cL : ClassId) (B sz : Nat) (h0 : Nat) (q83 : Nat) (q84 : Nat) (z87 : Nat) (q89 : Nat) (z92 : Nat) (z93 : Nat) (z94 : Nat) (q95 : Nat) (q101 : Nat) (q107 : Nat) (q116 : Nat) (q120 : Nat) (q124 : Nat) (ou : Nat) : Met l y_law_at ((Cond.codeWith y_law_at method_10_code 6 (some .int) [(0, 12, 15, 13), (0, 12, 19, 19)]) :: tw) ({ frames := 70, cells := 0, slots := 0, locals := 7000 }) (va_Pc [.ref h0, .int 0, .int 0, .int 1, .ref ou] (wP D cI cL B sz [(h0, .inr (0, [.ref q83, .ref q84, .ref q89, .ref q95, .ref q101, .ref q107, .ref q116, .ref q120, .ref q124])), (q89, .inr (2, [.int 1, .int 1, .ref z92, .ref z93, .ref z94, .ref q84, .ref z87])), (z92, .inl (cI, 1, .inl (fun _ => 0))), (z93, .inl (cI, 1, .inl (fun _ => 0))), (z94, .inl (cI, 1, .inl (fun _ => 0))), (ou, .inl (cL, 1, .inr (.inl (fun _ => 0))))])) (va_Qi (S := Unit) (fun r u => r = 0) (fun u => wB D cI cL (va_A [(h0, .inr (0, [.ref q83, .ref q84, .ref q89, .ref q95, .ref q101, .ref q107, .ref q116, .ref q120, .ref q124])), (q89, .inr (2, [.int 1, .int 1, .ref z92, .ref z93, .ref z94, .ref q84, .ref z87])), (z92, .inl (cI, 1, .inl (fun _ => 0))), (z93, .inl (cI, 1, .inl (fun _ => 0))), (z94, .inl (cI, 1, .inl (fun _ => 0))), (ou, .inl (cL, 1, .inr (.inl (fun _ => 0))))] sz) ((fun _ : Unit => [(ou, .inl (cL, 1, .inr (.inl (vp_updL (fun _ => 0) (0 : Int32).toNatClampNeg 0))))]) u)) (va_A [(h0, .inr (0, [.ref q83, .ref q84, .ref q89, .ref q95, .ref q101, .ref q107, .ref q116, .ref q120, .ref q124])), (q89, .inr (2, [.int 1, .int 1, .ref z92, .ref z93, .ref z94, .ref q84, .ref z87])), (z92, .inl (cI, 1, .inl (fun _ => 0))), (z93, .inl (cI, 1, .inl (fun _ => 0))), (z94, .inl (cI, 1, .inl (fun _ => 0))), (ou, .inl (cL, 1, .inr (.inl (fun _ => 0))))] sz)) 0 0 (va_A [(h0, .inr (0, [.ref q83, .ref q84, .ref q89, .ref q95, .ref q101, .ref q107, .ref q116, .ref q120, .ref q124])), (q89, .inr (2, [.int 1, .int 1, .ref z92, .ref z93, .ref z94, .ref q84, .ref z87])), (z92, .inl (cI, 1, .inl (fun _ => 0))), (z93, .inl (cI, 1, .inl (fun _ => 0))), (z94, .inl (cI, 1, .inl (fun _ => 0))), (ou, .inl (cL, 1, .inr (.inl (fun _ => 0))))] sz) := by
  refine va_MetW (cc := method_10_code) (maxL := 6) (ret := (some .int)) (hh := [(0, 12, 15, 13), (0, 12, 19, 19)]) (by decide) rfl ?_
  intro p e s m args below meth c s₁ B0 hml hv
  obtain ⟨rfl, hv⟩ := hv
  have hx := B0.exec
  have hb := B0.bytes
  have hr := B0.returns
  have hts := atoms_spec (ws := (Cond.codeWith y_law_at method_10_code 6 (some .int) [(0, 12, 15, 13), (0, 12, 19, 19)]) :: tw) B0.pre
  have htw : ∀ w ∈ tw, w.before _ s = true := fun w hw => hts w (List.mem_cons_of_mem _ hw)
  have hown : s.vm.findClass "DrawingMachineLaw" = some m.cls := findClass_of_methodNamed B0.named
  have hlocks := B0.notSynchronized
  obtain ⟨hC, hP, hD, hsz⟩ := wC_init hv
  subst hsz
  generalize hAe : va_A [(h0, .inr (0, [.ref q83, .ref q84, .ref q89, .ref q95, .ref q101, .ref q107, .ref q116, .ref q120, .ref q124])), (q89, .inr (2, [.int 1, .int 1, .ref z92, .ref z93, .ref z94, .ref q84, .ref z87])), (z92, .inl (cI, 1, .inl (fun _ => 0))), (z93, .inl (cI, 1, .inl (fun _ => 0))), (z94, .inl (cI, 1, .inl (fun _ => 0))), (ou, .inl (cL, 1, .inr (.inl (fun _ => 0))))] s.heap.size = A at hC hD ⊢
  have hS : va_S A s.heap s.heap [] := va_S.rf
  have hl := lv_entry ([.ref h0, .int 0, .int 0, .int 1, .ref ou]) (n := 6) (Nat.le_of_ble_eq_true rfl)
  rw [lg_entry_eq]
  generalize (lg_sl ([.ref h0, .int 0, .int 0, .int 1, .ref ou]) ++ List.replicate (6 - (lg_sl ([.ref h0, .int 0, .int 0, .int 1, .ref ou])).length) Slot.unset).toArray = ls at hl ⊢
  have hl : lv_has ls 6 [(0, .ref h0), (1, .int 0), (2, .int 0), (3, .int 1), (4, .ref ou)] := hl
  refine lv_aload hx hb d_law_at_0 (lv_at hl 4 rfl) ?_
  refine lv_iconst (v := 0) hx hb d_law_at_2 (by decide) ?_
  refine lv_aload_n hx hb d_law_at_3 rfl (lv_at hl 0 rfl) ?_
  refine lv_iload_n hx hb d_law_at_4 rfl (lv_at hl 1 rfl) ?_
  refine lv_iload_n hx hb d_law_at_5 rfl (lv_at hl 2 rfl) ?_
  refine lv_iload_n hx hb d_law_at_6 rfl (lv_at hl 3 rfl) ?_
  refine wc_i (wr := [(ou, .inl (cL, 1, .inr (.inl (fun _ => 0))))]) hC hP hD hS [0, 1, 2, 3, 4] [5] rfl rfl (by decide) (by decide) (va_runV (As := [.int 0, .int 0, .int 1]) (rest := [.int 0, .ref ou]) ⟨hx, hb, hml, hown, htw⟩ (c_at_1 l D cI cL B _ h0 q83 q84 z87 q89 z92 z93 z94 q95 q101 q107 q116 q120 q124) (cwV 3 htw gV_law_43 rfl rfl rfl (by decide +kernel) ⟨Nat.le_of_ble_eq_true rfl, Nat.le_of_ble_eq_true rfl⟩) (wC_preV (As := [.int 0, .int 0, .int 1]) hC hP hD hS [0, 1, 2, 3, 4] (by decide) rfl (q0 := 0) rfl rfl) rfl rfl hl.1 rfl (lv_room (Nat.le_of_ble_eq_true rfl)) d_law_at_7 ⟨Nat.le_of_ble_eq_true rfl, Nat.le_of_ble_eq_true rfl⟩) (fun r1421 u1419 H locs hw1420 hP hD hS => ?_)
  obtain rfl : r1421 = 0 := hw1420
  have hP : va_P D classes [(ou, .inl (cL, 1, .inr (.inl (fun _ => 0))))] H := hP
  have hD : va_D A [(ou, .inl (cL, 1, .inr (.inl (fun _ => 0))))] := hD
  refine W.widen (k := 0) (n := 0) (by omega) (by omega) ?_
  refine lv_i2l (v := 0) hx hb d_law_at_10 (by decide) ?_
  refine va_last hx hb hC.1 hP hD hS 0 1 rfl rfl (by unfold vp_in; decide) d_law_at_11 (fun H locs hP hD hS => ?_)
  have hP : va_P D classes [(ou, .inl (cL, 1, .inr (.inl (vp_updL (fun _ => 0) (0 : Int32).toNatClampNeg 0))))] H := hP
  have hD : va_D A [(ou, .inl (cL, 1, .inr (.inl (vp_updL (fun _ => 0) (0 : Int32).toNatClampNeg 0))))] := hD
  refine lv_goto (tgt := 23) hx hb d_law_at_12 (by decide) ?_
  refine lv_iconst (v := 0) hx hb d_law_at_23 (by decide) ?_
  refine W.widen (k := 0) (n := 0) (Nat.le_of_ble_eq_true rfl) (Nat.le_of_ble_eq_true rfl) ?_
  have hP9 := hP.sub (ws' := [(ou, .inl (cL, 1, .inr (.inl (vp_updL (fun _ => 0) (0 : Int32).toNatClampNeg 0))))]) [0] rfl
  have hD9 := hD.sub (ws' := [(ou, .inl (cL, 1, .inr (.inl (vp_updL (fun _ => 0) (0 : Int32).toNatClampNeg 0))))]) [0] (by decide) rfl
  exact W.iret (v := 0) hx hb hr (fun t ht hW => ⟨⟨0, (), rfl, rfl, by rw [ht]; exact hP9, va_K.moved hW.alike hC.1, hD9⟩, hS.F ht⟩) hS.2.2 d_law_at_24

set_option maxHeartbeats 4000000 in
set_option maxRecDepth 100000 in
theorem c_hat_2 (l : Launch) (D : va_G) (cI cL : ClassId) (B sz : Nat) (h0 : Nat) (q83 : Nat) (q84 : Nat) (z87 : Nat) (q89 : Nat) (z92 : Nat) (z93 : Nat) (z94 : Nat) (q95 : Nat) (q101 : Nat) (q107 : Nat) (q116 : Nat) (q120 : Nat) (q124 : Nat) (ou : Nat) : Met l y_law_at ((Cond.codeWith y_law_at method_10_code 6 (some .int) [(0, 12, 15, 13), (0, 12, 19, 19)]) :: tw) ({ frames := 70, cells := 0, slots := 0, locals := 7000 }) (va_Pc [.ref h0, .int 0, .int 0, .int 2, .ref ou] (wP D cI cL B sz [(h0, .inr (0, [.ref q83, .ref q84, .ref q89, .ref q95, .ref q101, .ref q107, .ref q116, .ref q120, .ref q124])), (q89, .inr (2, [.int 1, .int 1, .ref z92, .ref z93, .ref z94, .ref q84, .ref z87])), (z92, .inl (cI, 1, .inl (fun _ => 0))), (z93, .inl (cI, 1, .inl (fun _ => 0))), (z94, .inl (cI, 1, .inl (fun _ => 0))), (ou, .inl (cL, 1, .inr (.inl (fun _ => 0))))])) (va_Qi (S := Unit) (fun r u => r = 0) (fun u => wB D cI cL (va_A [(h0, .inr (0, [.ref q83, .ref q84, .ref q89, .ref q95, .ref q101, .ref q107, .ref q116, .ref q120, .ref q124])), (q89, .inr (2, [.int 1, .int 1, .ref z92, .ref z93, .ref z94, .ref q84, .ref z87])), (z92, .inl (cI, 1, .inl (fun _ => 0))), (z93, .inl (cI, 1, .inl (fun _ => 0))), (z94, .inl (cI, 1, .inl (fun _ => 0))), (ou, .inl (cL, 1, .inr (.inl (fun _ => 0))))] sz) ((fun _ : Unit => [(ou, .inl (cL, 1, .inr (.inl (vp_updL (fun _ => 0) (0 : Int32).toNatClampNeg 0))))]) u)) (va_A [(h0, .inr (0, [.ref q83, .ref q84, .ref q89, .ref q95, .ref q101, .ref q107, .ref q116, .ref q120, .ref q124])), (q89, .inr (2, [.int 1, .int 1, .ref z92, .ref z93, .ref z94, .ref q84, .ref z87])), (z92, .inl (cI, 1, .inl (fun _ => 0))), (z93, .inl (cI, 1, .inl (fun _ => 0))), (z94, .inl (cI, 1, .inl (fun _ => 0))), (ou, .inl (cL, 1, .inr (.inl (fun _ => 0))))] sz)) 0 0 (va_A [(h0, .inr (0, [.ref q83, .ref q84, .ref q89, .ref q95, .ref q101, .ref q107, .ref q116, .ref q120, .ref q124])), (q89, .inr (2, [.int 1, .int 1, .ref z92, .ref z93, .ref z94, .ref q84, .ref z87])), (z92, .inl (cI, 1, .inl (fun _ => 0))), (z93, .inl (cI, 1, .inl (fun _ => 0))), (z94, .inl (cI, 1, .inl (fun _ => 0))), (ou, .inl (cL, 1, .inr (.inl (fun _ => 0))))] sz) := by
  refine va_MetW (cc := method_10_code) (maxL := 6) (ret := (some .int)) (hh := [(0, 12, 15, 13), (0, 12, 19, 19)]) (by decide) rfl ?_
  intro p e s m args below meth c s₁ B0 hml hv
  obtain ⟨rfl, hv⟩ := hv
  have hx := B0.exec
  have hb := B0.bytes
  have hr := B0.returns
  have hts := atoms_spec (ws := (Cond.codeWith y_law_at method_10_code 6 (some .int) [(0, 12, 15, 13), (0, 12, 19, 19)]) :: tw) B0.pre
  have htw : ∀ w ∈ tw, w.before _ s = true := fun w hw => hts w (List.mem_cons_of_mem _ hw)
  have hown : s.vm.findClass "DrawingMachineLaw" = some m.cls := findClass_of_methodNamed B0.named
  have hlocks := B0.notSynchronized
  obtain ⟨hC, hP, hD, hsz⟩ := wC_init hv
  subst hsz
  generalize hAe : va_A [(h0, .inr (0, [.ref q83, .ref q84, .ref q89, .ref q95, .ref q101, .ref q107, .ref q116, .ref q120, .ref q124])), (q89, .inr (2, [.int 1, .int 1, .ref z92, .ref z93, .ref z94, .ref q84, .ref z87])), (z92, .inl (cI, 1, .inl (fun _ => 0))), (z93, .inl (cI, 1, .inl (fun _ => 0))), (z94, .inl (cI, 1, .inl (fun _ => 0))), (ou, .inl (cL, 1, .inr (.inl (fun _ => 0))))] s.heap.size = A at hC hD ⊢
  have hS : va_S A s.heap s.heap [] := va_S.rf
  have hl := lv_entry ([.ref h0, .int 0, .int 0, .int 2, .ref ou]) (n := 6) (Nat.le_of_ble_eq_true rfl)
  rw [lg_entry_eq]
  generalize (lg_sl ([.ref h0, .int 0, .int 0, .int 2, .ref ou]) ++ List.replicate (6 - (lg_sl ([.ref h0, .int 0, .int 0, .int 2, .ref ou])).length) Slot.unset).toArray = ls at hl ⊢
  have hl : lv_has ls 6 [(0, .ref h0), (1, .int 0), (2, .int 0), (3, .int 2), (4, .ref ou)] := hl
  refine lv_aload hx hb d_law_at_0 (lv_at hl 4 rfl) ?_
  refine lv_iconst (v := 0) hx hb d_law_at_2 (by decide) ?_
  refine lv_aload_n hx hb d_law_at_3 rfl (lv_at hl 0 rfl) ?_
  refine lv_iload_n hx hb d_law_at_4 rfl (lv_at hl 1 rfl) ?_
  refine lv_iload_n hx hb d_law_at_5 rfl (lv_at hl 2 rfl) ?_
  refine lv_iload_n hx hb d_law_at_6 rfl (lv_at hl 3 rfl) ?_
  refine wc_i (wr := [(ou, .inl (cL, 1, .inr (.inl (fun _ => 0))))]) hC hP hD hS [0, 1, 2, 3, 4] [5] rfl rfl (by decide) (by decide) (va_runV (As := [.int 0, .int 0, .int 2]) (rest := [.int 0, .ref ou]) ⟨hx, hb, hml, hown, htw⟩ (c_at_2 l D cI cL B _ h0 q83 q84 z87 q89 z92 z93 z94 q95 q101 q107 q116 q120 q124) (cwV 3 htw gV_law_43 rfl rfl rfl (by decide +kernel) ⟨Nat.le_of_ble_eq_true rfl, Nat.le_of_ble_eq_true rfl⟩) (wC_preV (As := [.int 0, .int 0, .int 2]) hC hP hD hS [0, 1, 2, 3, 4] (by decide) rfl (q0 := 0) rfl rfl) rfl rfl hl.1 rfl (lv_room (Nat.le_of_ble_eq_true rfl)) d_law_at_7 ⟨Nat.le_of_ble_eq_true rfl, Nat.le_of_ble_eq_true rfl⟩) (fun r1424 u1422 H locs hw1423 hP hD hS => ?_)
  obtain rfl : r1424 = 0 := hw1423
  have hP : va_P D classes [(ou, .inl (cL, 1, .inr (.inl (fun _ => 0))))] H := hP
  have hD : va_D A [(ou, .inl (cL, 1, .inr (.inl (fun _ => 0))))] := hD
  refine W.widen (k := 0) (n := 0) (by omega) (by omega) ?_
  refine lv_i2l (v := 0) hx hb d_law_at_10 (by decide) ?_
  refine va_last hx hb hC.1 hP hD hS 0 1 rfl rfl (by unfold vp_in; decide) d_law_at_11 (fun H locs hP hD hS => ?_)
  have hP : va_P D classes [(ou, .inl (cL, 1, .inr (.inl (vp_updL (fun _ => 0) (0 : Int32).toNatClampNeg 0))))] H := hP
  have hD : va_D A [(ou, .inl (cL, 1, .inr (.inl (vp_updL (fun _ => 0) (0 : Int32).toNatClampNeg 0))))] := hD
  refine lv_goto (tgt := 23) hx hb d_law_at_12 (by decide) ?_
  refine lv_iconst (v := 0) hx hb d_law_at_23 (by decide) ?_
  refine W.widen (k := 0) (n := 0) (Nat.le_of_ble_eq_true rfl) (Nat.le_of_ble_eq_true rfl) ?_
  have hP9 := hP.sub (ws' := [(ou, .inl (cL, 1, .inr (.inl (vp_updL (fun _ => 0) (0 : Int32).toNatClampNeg 0))))]) [0] rfl
  have hD9 := hD.sub (ws' := [(ou, .inl (cL, 1, .inr (.inl (vp_updL (fun _ => 0) (0 : Int32).toNatClampNeg 0))))]) [0] (by decide) rfl
  exact W.iret (v := 0) hx hb hr (fun t ht hW => ⟨⟨0, (), rfl, rfl, by rw [ht]; exact hP9, va_K.moved hW.alike hC.1, hD9⟩, hS.F ht⟩) hS.2.2 d_law_at_24

theorem d_law_at_15 : decode method_10_code 15 = .ok (.astore 5, 2) := by decide +kernel
theorem d_law_at_17 : decode method_10_code 17 = .ok (.iconst 1, 1) := by decide +kernel
theorem d_law_at_18 : decode method_10_code 18 = .ok (.ireturn, 1) := by decide +kernel
set_option maxHeartbeats 4000000 in
set_option maxRecDepth 100000 in
theorem c_hat_bw (l : Launch) (hfl : l.stackTraces = false) (D : va_G) (cI cL : ClassId) (B sz : Nat) (h0 : Nat) (q83 : Nat) (q84 : Nat) (q89 : Nat) (q95 : Nat) (q101 : Nat) (q107 : Nat) (q116 : Nat) (q120 : Nat) (q124 : Nat) (px : Int32) (py : Int32) (x : Int32) (ou : Nat) (hbd : x < 0 ∨ 2 < x) : Met l y_law_at ((Cond.codeWith y_law_at method_10_code 6 (some .int) [(0, 12, 15, 13), (0, 12, 19, 19)]) :: tw) ({ frames := 70, cells := 1, slots := 6, locals := 7000 }) (va_Pc [.ref h0, .int px, .int py, .int x, .ref ou] (wP D cI cL B sz [(h0, .inr (0, [.ref q83, .ref q84, .ref q89, .ref q95, .ref q101, .ref q107, .ref q116, .ref q120, .ref q124])), (ou, .inl (cL, 1, .inr (.inl (fun _ => 0))))])) (va_Qi (S := Unit) (fun r u => r = 1) (fun u => wB D cI cL (va_A [(h0, .inr (0, [.ref q83, .ref q84, .ref q89, .ref q95, .ref q101, .ref q107, .ref q116, .ref q120, .ref q124])), (ou, .inl (cL, 1, .inr (.inl (fun _ => 0))))] sz) ((fun _ : Unit => []) u)) (va_A [(h0, .inr (0, [.ref q83, .ref q84, .ref q89, .ref q95, .ref q101, .ref q107, .ref q116, .ref q120, .ref q124])), (ou, .inl (cL, 1, .inr (.inl (fun _ => 0))))] sz)) 1 6 (va_A [(h0, .inr (0, [.ref q83, .ref q84, .ref q89, .ref q95, .ref q101, .ref q107, .ref q116, .ref q120, .ref q124])), (ou, .inl (cL, 1, .inr (.inl (fun _ => 0))))] sz) := by
  refine va_MetW (cc := method_10_code) (maxL := 6) (ret := (some .int)) (hh := [(0, 12, 15, 13), (0, 12, 19, 19)]) (by decide) rfl ?_
  intro p e s m args below meth c s₁ B0 hml hv
  obtain ⟨rfl, hv⟩ := hv
  have hx := B0.exec
  have hb := B0.bytes
  have hr := B0.returns
  have hts := atoms_spec (ws := (Cond.codeWith y_law_at method_10_code 6 (some .int) [(0, 12, 15, 13), (0, 12, 19, 19)]) :: tw) B0.pre
  have htw : ∀ w ∈ tw, w.before _ s = true := fun w hw => hts w (List.mem_cons_of_mem _ hw)
  have hown : s.vm.findClass "DrawingMachineLaw" = some m.cls := findClass_of_methodNamed B0.named
  have hlocks := B0.notSynchronized
  obtain ⟨hC, hP, hD, hsz⟩ := wC_init hv
  subst hsz
  generalize hAe : va_A [(h0, .inr (0, [.ref q83, .ref q84, .ref q89, .ref q95, .ref q101, .ref q107, .ref q116, .ref q120, .ref q124])), (ou, .inl (cL, 1, .inr (.inl (fun _ => 0))))] s.heap.size = A at hC hD ⊢
  have hS : va_S A s.heap s.heap [] := va_S.rf
  have hl := lv_entry ([.ref h0, .int px, .int py, .int x, .ref ou]) (n := 6) (Nat.le_of_ble_eq_true rfl)
  rw [lg_entry_eq]
  generalize (lg_sl ([.ref h0, .int px, .int py, .int x, .ref ou]) ++ List.replicate (6 - (lg_sl ([.ref h0, .int px, .int py, .int x, .ref ou])).length) Slot.unset).toArray = ls at hl ⊢
  have hl : lv_has ls 6 [(0, .ref h0), (1, .int px), (2, .int py), (3, .int x), (4, .ref ou)] := hl
  refine lv_aload hx hb d_law_at_0 (lv_at hl 4 rfl) ?_
  refine lv_iconst (v := 0) hx hb d_law_at_2 (by decide) ?_
  refine lv_aload_n hx hb d_law_at_3 rfl (lv_at hl 0 rfl) ?_
  refine lv_iload_n hx hb d_law_at_4 rfl (lv_at hl 1 rfl) ?_
  refine lv_iload_n hx hb d_law_at_5 rfl (lv_at hl 2 rfl) ?_
  refine lv_iload_n hx hb d_law_at_6 rfl (lv_at hl 3 rfl) ?_
  have hta := tq_tab (hh := [(0, 12, 15, 13), (0, 12, 19, 19)]) B0 (hts _ List.mem_cons_self)
  refine tq_d1 (As := [.int px, .int py, .int x]) (rest := [.int 0, .ref ou]) ⟨hx, hb, hml, hown, htw⟩ (c_at_bw l hfl D cI cL B _ h0 px py x (hbd)) (cwV 3 htw gV_law_43 rfl rfl rfl (by decide +kernel) ⟨Nat.le_of_ble_eq_true rfl, Nat.le_of_ble_eq_true rfl⟩) (wC_preV (As := [.int px, .int py, .int x]) hC hP hD hS [] (by decide) rfl (q0 := 0) rfl rfl) rfl hl.1 rfl (Nat.le_of_ble_eq_true rfl) d_law_at_7 ⟨Nat.le_of_ble_eq_true rfl, Nat.le_of_ble_eq_true rfl⟩ hta (by decide) (by decide) (by decide) (htw _ k809) hS (fun a9 H hS => ?_)
  have hP : va_P D classes [] H := fun k q hq => by simp at hq
  have hD : va_D A [] := hD.sub (ws' := []) [] (by decide) rfl
  refine W.widen (k := 1) (n := 6) (by omega) (by omega) ?_
  refine lv_astore (lv' := [(5, .ref a9), (0, .ref h0), (1, .int px), (2, .int py), (3, .int x), (4, .ref ou)]) hx hb d_law_at_15 hl (by decide) rfl (fun ls hl => ?_)
  refine lv_iconst (v := 1) hx hb d_law_at_17 (by decide) ?_
  refine W.widen (k := 1) (n := 6) (Nat.le_of_ble_eq_true rfl) (Nat.le_of_ble_eq_true rfl) ?_
  have hP9 := hP.sub (ws' := []) [] rfl
  have hD9 := hD.sub (ws' := []) [] (by decide) rfl
  exact W.iret (v := 1) hx hb hr (fun t ht hW => ⟨⟨1, (), rfl, rfl, by rw [ht]; exact hP9, va_K.moved hW.alike hC.1, hD9⟩, hS.F ht⟩) hS.2.2 d_law_at_18

theorem d_law_at_19 : decode method_10_code 19 = .ok (.astore 5, 2) := by decide +kernel
theorem d_law_at_21 : decode method_10_code 21 = .ok (.iconst 2, 1) := by decide +kernel
theorem d_law_at_22 : decode method_10_code 22 = .ok (.ireturn, 1) := by decide +kernel
set_option maxHeartbeats 4000000 in
set_option maxRecDepth 100000 in
theorem c_hat_bp (l : Launch) (hfl : l.stackTraces = false) (D : va_G) (cI cL : ClassId) (B sz : Nat) (h0 : Nat) (q83 : Nat) (q84 : Nat) (z87 : Nat) (q89 : Nat) (z92 : Nat) (z93 : Nat) (z94 : Nat) (q95 : Nat) (q101 : Nat) (q107 : Nat) (q116 : Nat) (q120 : Nat) (q124 : Nat) (px : Int32) (py : Int32) (x : Int32) (ou : Nat) (h1 : ¬ x < 0) (h2 : x ≤ 2) (hbd : ¬ (px = 0 ∧ py = 0)) : Met l y_law_at ((Cond.codeWith y_law_at method_10_code 6 (some .int) [(0, 12, 15, 13), (0, 12, 19, 19)]) :: tw) ({ frames := 70, cells := 1, slots := 6, locals := 7000 }) (va_Pc [.ref h0, .int px, .int py, .int x, .ref ou] (wP D cI cL B sz [(h0, .inr (0, [.ref q83, .ref q84, .ref q89, .ref q95, .ref q101, .ref q107, .ref q116, .ref q120, .ref q124])), (q89, .inr (2, [.int 1, .int 1, .ref z92, .ref z93, .ref z94, .ref q84, .ref z87])), (ou, .inl (cL, 1, .inr (.inl (fun _ => 0))))])) (va_Qi (S := Unit) (fun r u => r = 2) (fun u => wB D cI cL (va_A [(h0, .inr (0, [.ref q83, .ref q84, .ref q89, .ref q95, .ref q101, .ref q107, .ref q116, .ref q120, .ref q124])), (q89, .inr (2, [.int 1, .int 1, .ref z92, .ref z93, .ref z94, .ref q84, .ref z87])), (ou, .inl (cL, 1, .inr (.inl (fun _ => 0))))] sz) ((fun _ : Unit => []) u)) (va_A [(h0, .inr (0, [.ref q83, .ref q84, .ref q89, .ref q95, .ref q101, .ref q107, .ref q116, .ref q120, .ref q124])), (q89, .inr (2, [.int 1, .int 1, .ref z92, .ref z93, .ref z94, .ref q84, .ref z87])), (ou, .inl (cL, 1, .inr (.inl (fun _ => 0))))] sz)) 1 6 (va_A [(h0, .inr (0, [.ref q83, .ref q84, .ref q89, .ref q95, .ref q101, .ref q107, .ref q116, .ref q120, .ref q124])), (q89, .inr (2, [.int 1, .int 1, .ref z92, .ref z93, .ref z94, .ref q84, .ref z87])), (ou, .inl (cL, 1, .inr (.inl (fun _ => 0))))] sz) := by
  refine va_MetW (cc := method_10_code) (maxL := 6) (ret := (some .int)) (hh := [(0, 12, 15, 13), (0, 12, 19, 19)]) (by decide) rfl ?_
  intro p e s m args below meth c s₁ B0 hml hv
  obtain ⟨rfl, hv⟩ := hv
  have hx := B0.exec
  have hb := B0.bytes
  have hr := B0.returns
  have hts := atoms_spec (ws := (Cond.codeWith y_law_at method_10_code 6 (some .int) [(0, 12, 15, 13), (0, 12, 19, 19)]) :: tw) B0.pre
  have htw : ∀ w ∈ tw, w.before _ s = true := fun w hw => hts w (List.mem_cons_of_mem _ hw)
  have hown : s.vm.findClass "DrawingMachineLaw" = some m.cls := findClass_of_methodNamed B0.named
  have hlocks := B0.notSynchronized
  obtain ⟨hC, hP, hD, hsz⟩ := wC_init hv
  subst hsz
  generalize hAe : va_A [(h0, .inr (0, [.ref q83, .ref q84, .ref q89, .ref q95, .ref q101, .ref q107, .ref q116, .ref q120, .ref q124])), (q89, .inr (2, [.int 1, .int 1, .ref z92, .ref z93, .ref z94, .ref q84, .ref z87])), (ou, .inl (cL, 1, .inr (.inl (fun _ => 0))))] s.heap.size = A at hC hD ⊢
  have hS : va_S A s.heap s.heap [] := va_S.rf
  have hl := lv_entry ([.ref h0, .int px, .int py, .int x, .ref ou]) (n := 6) (Nat.le_of_ble_eq_true rfl)
  rw [lg_entry_eq]
  generalize (lg_sl ([.ref h0, .int px, .int py, .int x, .ref ou]) ++ List.replicate (6 - (lg_sl ([.ref h0, .int px, .int py, .int x, .ref ou])).length) Slot.unset).toArray = ls at hl ⊢
  have hl : lv_has ls 6 [(0, .ref h0), (1, .int px), (2, .int py), (3, .int x), (4, .ref ou)] := hl
  refine lv_aload hx hb d_law_at_0 (lv_at hl 4 rfl) ?_
  refine lv_iconst (v := 0) hx hb d_law_at_2 (by decide) ?_
  refine lv_aload_n hx hb d_law_at_3 rfl (lv_at hl 0 rfl) ?_
  refine lv_iload_n hx hb d_law_at_4 rfl (lv_at hl 1 rfl) ?_
  refine lv_iload_n hx hb d_law_at_5 rfl (lv_at hl 2 rfl) ?_
  refine lv_iload_n hx hb d_law_at_6 rfl (lv_at hl 3 rfl) ?_
  have hta := tq_tab (hh := [(0, 12, 15, 13), (0, 12, 19, 19)]) B0 (hts _ List.mem_cons_self)
  refine tq_d2 (As := [.int px, .int py, .int x]) (rest := [.int 0, .ref ou]) ⟨hx, hb, hml, hown, htw⟩ (c_at_bp l hfl D cI cL B _ h0 q83 q84 z87 q89 z92 z93 z94 q95 q101 q107 q116 q120 q124 px py x (h1) (h2) (hbd)) (cwV 3 htw gV_law_43 rfl rfl rfl (by decide +kernel) ⟨Nat.le_of_ble_eq_true rfl, Nat.le_of_ble_eq_true rfl⟩) (wC_preV (As := [.int px, .int py, .int x]) hC hP hD hS [0, 1] (by decide) rfl (q0 := 0) rfl rfl) rfl hl.1 rfl (Nat.le_of_ble_eq_true rfl) d_law_at_7 ⟨Nat.le_of_ble_eq_true rfl, Nat.le_of_ble_eq_true rfl⟩ hta (by decide) (by decide) (by decide) (by decide) (by decide) (by decide) (htw _ k809) (htw _ k810) hC.2.2.1.2.2.2.2.1 hS (fun a9 H hS => ?_)
  have hP : va_P D classes [] H := fun k q hq => by simp at hq
  have hD : va_D A [] := hD.sub (ws' := []) [] (by decide) rfl
  refine W.widen (k := 1) (n := 6) (by omega) (by omega) ?_
  refine lv_astore (lv' := [(5, .ref a9), (0, .ref h0), (1, .int px), (2, .int py), (3, .int x), (4, .ref ou)]) hx hb d_law_at_19 hl (by decide) rfl (fun ls hl => ?_)
  refine lv_iconst (v := 2) hx hb d_law_at_21 (by decide) ?_
  refine W.widen (k := 1) (n := 6) (Nat.le_of_ble_eq_true rfl) (Nat.le_of_ble_eq_true rfl) ?_
  have hP9 := hP.sub (ws' := []) [] rfl
  have hD9 := hD.sub (ws' := []) [] (by decide) rfl
  exact W.iret (v := 2) hx hb hr (fun t ht hW => ⟨⟨2, (), rfl, rfl, by rw [ht]; exact hP9, va_K.moved hW.alike hC.1, hD9⟩, hS.F ht⟩) hS.2.2 d_law_at_22

theorem d_law_sum_0 : decode method_11_code 0 = .ok (.aload_n 2, 1) := by decide +kernel
theorem d_law_sum_1 : decode method_11_code 1 = .ok (.iconst 0, 1) := by decide +kernel
theorem d_law_sum_2 : decode method_11_code 2 = .ok (.aload_n 0, 1) := by decide +kernel
theorem d_law_sum_3 : decode method_11_code 3 = .ok (.iload_n 1, 1) := by decide +kernel
theorem d_law_sum_4 : decode method_11_code 4 = .ok (.invokevirtual 46, 3) := by decide +kernel
theorem d_law_sum_7 : decode method_11_code 7 = .ok (.i2l, 1) := by decide +kernel
theorem d_law_sum_8 : decode method_11_code 8 = .ok (.lastore, 1) := by decide +kernel
theorem d_law_sum_9 : decode method_11_code 9 = .ok (.goto 6, 3) := by decide +kernel
theorem d_law_sum_15 : decode method_11_code 15 = .ok (.iconst 0, 1) := by decide +kernel
theorem d_law_sum_16 : decode method_11_code 16 = .ok (.ireturn, 1) := by decide +kernel
theorem gV_law_46 : GoodIn tw (wsV "DrawingMachineLaw" 46 "DrawingMachine" y_DM_sum ((Cond.code y_DM_sum prog_1_method_11_code 6 (some .int)) :: tw)) := tw_pre (fun _ h => h) (tw_good (fun _ h => h) k347) (List.forall_mem_cons.mpr ⟨k798, List.forall_mem_cons.mpr ⟨k799, List.forall_mem_cons.mpr ⟨k800, List.forall_mem_cons.mpr ⟨k0, fun _ h => absurd h List.not_mem_nil⟩⟩⟩⟩)
set_option maxHeartbeats 4000000 in
set_option maxRecDepth 100000 in
theorem c_hsum_0 (l : Launch) (D : va_G) (cI cL : ClassId) (B sz : Nat) (h0 : Nat) (q83 : Nat) (q84 : Nat) (z87 : Nat) (q89 : Nat) (z92 : Nat) (z93 : Nat) (z94 : Nat) (q95 : Nat) (q101 : Nat) (q107 : Nat) (q116 : Nat) (q120 : Nat) (q124 : Nat) (ou : Nat) : Met l y_law_sum ((Cond.codeWith y_law_sum method_11_code 4 (some .int) [(0, 9, 12, 13)]) :: tw) ({ frames := 70, cells := 0, slots := 0, locals := 7000 }) (va_Pc [.ref h0, .int 0, .ref ou] (wP D cI cL B sz [(h0, .inr (0, [.ref q83, .ref q84, .ref q89, .ref q95, .ref q101, .ref q107, .ref q116, .ref q120, .ref q124])), (q89, .inr (2, [.int 1, .int 1, .ref z92, .ref z93, .ref z94, .ref q84, .ref z87])), (z92, .inl (cI, 1, .inl (fun _ => 0))), (z93, .inl (cI, 1, .inl (fun _ => 0))), (z94, .inl (cI, 1, .inl (fun _ => 0))), (ou, .inl (cL, 1, .inr (.inl (fun _ => 0))))])) (va_Qi (S := Unit) (fun r u => r = 0) (fun u => wB D cI cL (va_A [(h0, .inr (0, [.ref q83, .ref q84, .ref q89, .ref q95, .ref q101, .ref q107, .ref q116, .ref q120, .ref q124])), (q89, .inr (2, [.int 1, .int 1, .ref z92, .ref z93, .ref z94, .ref q84, .ref z87])), (z92, .inl (cI, 1, .inl (fun _ => 0))), (z93, .inl (cI, 1, .inl (fun _ => 0))), (z94, .inl (cI, 1, .inl (fun _ => 0))), (ou, .inl (cL, 1, .inr (.inl (fun _ => 0))))] sz) ((fun _ : Unit => [(ou, .inl (cL, 1, .inr (.inl (vp_updL (fun _ => 0) (0 : Int32).toNatClampNeg 0))))]) u)) (va_A [(h0, .inr (0, [.ref q83, .ref q84, .ref q89, .ref q95, .ref q101, .ref q107, .ref q116, .ref q120, .ref q124])), (q89, .inr (2, [.int 1, .int 1, .ref z92, .ref z93, .ref z94, .ref q84, .ref z87])), (z92, .inl (cI, 1, .inl (fun _ => 0))), (z93, .inl (cI, 1, .inl (fun _ => 0))), (z94, .inl (cI, 1, .inl (fun _ => 0))), (ou, .inl (cL, 1, .inr (.inl (fun _ => 0))))] sz)) 0 0 (va_A [(h0, .inr (0, [.ref q83, .ref q84, .ref q89, .ref q95, .ref q101, .ref q107, .ref q116, .ref q120, .ref q124])), (q89, .inr (2, [.int 1, .int 1, .ref z92, .ref z93, .ref z94, .ref q84, .ref z87])), (z92, .inl (cI, 1, .inl (fun _ => 0))), (z93, .inl (cI, 1, .inl (fun _ => 0))), (z94, .inl (cI, 1, .inl (fun _ => 0))), (ou, .inl (cL, 1, .inr (.inl (fun _ => 0))))] sz) := by
  refine va_MetW (cc := method_11_code) (maxL := 4) (ret := (some .int)) (hh := [(0, 9, 12, 13)]) (by decide) rfl ?_
  intro p e s m args below meth c s₁ B0 hml hv
  obtain ⟨rfl, hv⟩ := hv
  have hx := B0.exec
  have hb := B0.bytes
  have hr := B0.returns
  have hts := atoms_spec (ws := (Cond.codeWith y_law_sum method_11_code 4 (some .int) [(0, 9, 12, 13)]) :: tw) B0.pre
  have htw : ∀ w ∈ tw, w.before _ s = true := fun w hw => hts w (List.mem_cons_of_mem _ hw)
  have hown : s.vm.findClass "DrawingMachineLaw" = some m.cls := findClass_of_methodNamed B0.named
  have hlocks := B0.notSynchronized
  obtain ⟨hC, hP, hD, hsz⟩ := wC_init hv
  subst hsz
  generalize hAe : va_A [(h0, .inr (0, [.ref q83, .ref q84, .ref q89, .ref q95, .ref q101, .ref q107, .ref q116, .ref q120, .ref q124])), (q89, .inr (2, [.int 1, .int 1, .ref z92, .ref z93, .ref z94, .ref q84, .ref z87])), (z92, .inl (cI, 1, .inl (fun _ => 0))), (z93, .inl (cI, 1, .inl (fun _ => 0))), (z94, .inl (cI, 1, .inl (fun _ => 0))), (ou, .inl (cL, 1, .inr (.inl (fun _ => 0))))] s.heap.size = A at hC hD ⊢
  have hS : va_S A s.heap s.heap [] := va_S.rf
  have hl := lv_entry ([.ref h0, .int 0, .ref ou]) (n := 4) (Nat.le_of_ble_eq_true rfl)
  rw [lg_entry_eq]
  generalize (lg_sl ([.ref h0, .int 0, .ref ou]) ++ List.replicate (4 - (lg_sl ([.ref h0, .int 0, .ref ou])).length) Slot.unset).toArray = ls at hl ⊢
  have hl : lv_has ls 4 [(0, .ref h0), (1, .int 0), (2, .ref ou)] := hl
  refine lv_aload_n hx hb d_law_sum_0 rfl (lv_at hl 2 rfl) ?_
  refine lv_iconst (v := 0) hx hb d_law_sum_1 (by decide) ?_
  refine lv_aload_n hx hb d_law_sum_2 rfl (lv_at hl 0 rfl) ?_
  refine lv_iload_n hx hb d_law_sum_3 rfl (lv_at hl 1 rfl) ?_
  refine wc_i (wr := [(ou, .inl (cL, 1, .inr (.inl (fun _ => 0))))]) hC hP hD hS [0, 1, 2, 3, 4] [5] rfl rfl (by decide) (by decide) (va_runV (As := [.int 0]) (rest := [.int 0, .ref ou]) ⟨hx, hb, hml, hown, htw⟩ (c_sum_0 l D cI cL B _ h0 q83 q84 z87 q89 z92 z93 z94 q95 q101 q107 q116 q120 q124) (cwV 1 htw gV_law_46 rfl rfl rfl (by decide +kernel) ⟨Nat.le_of_ble_eq_true rfl, Nat.le_of_ble_eq_true rfl⟩) (wC_preV (As := [.int 0]) hC hP hD hS [0, 1, 2, 3, 4] (by decide) rfl (q0 := 0) rfl rfl) rfl rfl hl.1 rfl (lv_room (Nat.le_of_ble_eq_true rfl)) d_law_sum_4 ⟨Nat.le_of_ble_eq_true rfl, Nat.le_of_ble_eq_true rfl⟩) (fun r1427 u1425 H locs hw1426 hP hD hS => ?_)
  obtain rfl : r1427 = 0 := hw1426
  have hP : va_P D classes [(ou, .inl (cL, 1, .inr (.inl (fun _ => 0))))] H := hP
  have hD : va_D A [(ou, .inl (cL, 1, .inr (.inl (fun _ => 0))))] := hD
  refine W.widen (k := 0) (n := 0) (by omega) (by omega) ?_
  refine lv_i2l (v := 0) hx hb d_law_sum_7 (by decide) ?_
  refine va_last hx hb hC.1 hP hD hS 0 1 rfl rfl (by unfold vp_in; decide) d_law_sum_8 (fun H locs hP hD hS => ?_)
  have hP : va_P D classes [(ou, .inl (cL, 1, .inr (.inl (vp_updL (fun _ => 0) (0 : Int32).toNatClampNeg 0))))] H := hP
  have hD : va_D A [(ou, .inl (cL, 1, .inr (.inl (vp_updL (fun _ => 0) (0 : Int32).toNatClampNeg 0))))] := hD
  refine lv_goto (tgt := 15) hx hb d_law_sum_9 (by decide) ?_
  refine lv_iconst (v := 0) hx hb d_law_sum_15 (by decide) ?_
  refine W.widen (k := 0) (n := 0) (Nat.le_of_ble_eq_true rfl) (Nat.le_of_ble_eq_true rfl) ?_
  have hP9 := hP.sub (ws' := [(ou, .inl (cL, 1, .inr (.inl (vp_updL (fun _ => 0) (0 : Int32).toNatClampNeg 0))))]) [0] rfl
  have hD9 := hD.sub (ws' := [(ou, .inl (cL, 1, .inr (.inl (vp_updL (fun _ => 0) (0 : Int32).toNatClampNeg 0))))]) [0] (by decide) rfl
  exact W.iret (v := 0) hx hb hr (fun t ht hW => ⟨⟨0, (), rfl, rfl, by rw [ht]; exact hP9, va_K.moved hW.alike hC.1, hD9⟩, hS.F ht⟩) hS.2.2 d_law_sum_16

set_option maxHeartbeats 4000000 in
set_option maxRecDepth 100000 in
theorem c_hsum_1 (l : Launch) (D : va_G) (cI cL : ClassId) (B sz : Nat) (h0 : Nat) (q83 : Nat) (q84 : Nat) (z87 : Nat) (q89 : Nat) (z92 : Nat) (z93 : Nat) (z94 : Nat) (q95 : Nat) (q101 : Nat) (q107 : Nat) (q116 : Nat) (q120 : Nat) (q124 : Nat) (ou : Nat) : Met l y_law_sum ((Cond.codeWith y_law_sum method_11_code 4 (some .int) [(0, 9, 12, 13)]) :: tw) ({ frames := 70, cells := 0, slots := 0, locals := 7000 }) (va_Pc [.ref h0, .int 1, .ref ou] (wP D cI cL B sz [(h0, .inr (0, [.ref q83, .ref q84, .ref q89, .ref q95, .ref q101, .ref q107, .ref q116, .ref q120, .ref q124])), (q89, .inr (2, [.int 1, .int 1, .ref z92, .ref z93, .ref z94, .ref q84, .ref z87])), (z92, .inl (cI, 1, .inl (fun _ => 0))), (z93, .inl (cI, 1, .inl (fun _ => 0))), (z94, .inl (cI, 1, .inl (fun _ => 0))), (ou, .inl (cL, 1, .inr (.inl (fun _ => 0))))])) (va_Qi (S := Unit) (fun r u => r = 0) (fun u => wB D cI cL (va_A [(h0, .inr (0, [.ref q83, .ref q84, .ref q89, .ref q95, .ref q101, .ref q107, .ref q116, .ref q120, .ref q124])), (q89, .inr (2, [.int 1, .int 1, .ref z92, .ref z93, .ref z94, .ref q84, .ref z87])), (z92, .inl (cI, 1, .inl (fun _ => 0))), (z93, .inl (cI, 1, .inl (fun _ => 0))), (z94, .inl (cI, 1, .inl (fun _ => 0))), (ou, .inl (cL, 1, .inr (.inl (fun _ => 0))))] sz) ((fun _ : Unit => [(ou, .inl (cL, 1, .inr (.inl (vp_updL (fun _ => 0) (0 : Int32).toNatClampNeg 0))))]) u)) (va_A [(h0, .inr (0, [.ref q83, .ref q84, .ref q89, .ref q95, .ref q101, .ref q107, .ref q116, .ref q120, .ref q124])), (q89, .inr (2, [.int 1, .int 1, .ref z92, .ref z93, .ref z94, .ref q84, .ref z87])), (z92, .inl (cI, 1, .inl (fun _ => 0))), (z93, .inl (cI, 1, .inl (fun _ => 0))), (z94, .inl (cI, 1, .inl (fun _ => 0))), (ou, .inl (cL, 1, .inr (.inl (fun _ => 0))))] sz)) 0 0 (va_A [(h0, .inr (0, [.ref q83, .ref q84, .ref q89, .ref q95, .ref q101, .ref q107, .ref q116, .ref q120, .ref q124])), (q89, .inr (2, [.int 1, .int 1, .ref z92, .ref z93, .ref z94, .ref q84, .ref z87])), (z92, .inl (cI, 1, .inl (fun _ => 0))), (z93, .inl (cI, 1, .inl (fun _ => 0))), (z94, .inl (cI, 1, .inl (fun _ => 0))), (ou, .inl (cL, 1, .inr (.inl (fun _ => 0))))] sz) := by
  refine va_MetW (cc := method_11_code) (maxL := 4) (ret := (some .int)) (hh := [(0, 9, 12, 13)]) (by decide) rfl ?_
  intro p e s m args below meth c s₁ B0 hml hv
  obtain ⟨rfl, hv⟩ := hv
  have hx := B0.exec
  have hb := B0.bytes
  have hr := B0.returns
  have hts := atoms_spec (ws := (Cond.codeWith y_law_sum method_11_code 4 (some .int) [(0, 9, 12, 13)]) :: tw) B0.pre
  have htw : ∀ w ∈ tw, w.before _ s = true := fun w hw => hts w (List.mem_cons_of_mem _ hw)
  have hown : s.vm.findClass "DrawingMachineLaw" = some m.cls := findClass_of_methodNamed B0.named
  have hlocks := B0.notSynchronized
  obtain ⟨hC, hP, hD, hsz⟩ := wC_init hv
  subst hsz
  generalize hAe : va_A [(h0, .inr (0, [.ref q83, .ref q84, .ref q89, .ref q95, .ref q101, .ref q107, .ref q116, .ref q120, .ref q124])), (q89, .inr (2, [.int 1, .int 1, .ref z92, .ref z93, .ref z94, .ref q84, .ref z87])), (z92, .inl (cI, 1, .inl (fun _ => 0))), (z93, .inl (cI, 1, .inl (fun _ => 0))), (z94, .inl (cI, 1, .inl (fun _ => 0))), (ou, .inl (cL, 1, .inr (.inl (fun _ => 0))))] s.heap.size = A at hC hD ⊢
  have hS : va_S A s.heap s.heap [] := va_S.rf
  have hl := lv_entry ([.ref h0, .int 1, .ref ou]) (n := 4) (Nat.le_of_ble_eq_true rfl)
  rw [lg_entry_eq]
  generalize (lg_sl ([.ref h0, .int 1, .ref ou]) ++ List.replicate (4 - (lg_sl ([.ref h0, .int 1, .ref ou])).length) Slot.unset).toArray = ls at hl ⊢
  have hl : lv_has ls 4 [(0, .ref h0), (1, .int 1), (2, .ref ou)] := hl
  refine lv_aload_n hx hb d_law_sum_0 rfl (lv_at hl 2 rfl) ?_
  refine lv_iconst (v := 0) hx hb d_law_sum_1 (by decide) ?_
  refine lv_aload_n hx hb d_law_sum_2 rfl (lv_at hl 0 rfl) ?_
  refine lv_iload_n hx hb d_law_sum_3 rfl (lv_at hl 1 rfl) ?_
  refine wc_i (wr := [(ou, .inl (cL, 1, .inr (.inl (fun _ => 0))))]) hC hP hD hS [0, 1, 2, 3, 4] [5] rfl rfl (by decide) (by decide) (va_runV (As := [.int 1]) (rest := [.int 0, .ref ou]) ⟨hx, hb, hml, hown, htw⟩ (c_sum_1 l D cI cL B _ h0 q83 q84 z87 q89 z92 z93 z94 q95 q101 q107 q116 q120 q124) (cwV 1 htw gV_law_46 rfl rfl rfl (by decide +kernel) ⟨Nat.le_of_ble_eq_true rfl, Nat.le_of_ble_eq_true rfl⟩) (wC_preV (As := [.int 1]) hC hP hD hS [0, 1, 2, 3, 4] (by decide) rfl (q0 := 0) rfl rfl) rfl rfl hl.1 rfl (lv_room (Nat.le_of_ble_eq_true rfl)) d_law_sum_4 ⟨Nat.le_of_ble_eq_true rfl, Nat.le_of_ble_eq_true rfl⟩) (fun r1430 u1428 H locs hw1429 hP hD hS => ?_)
  obtain rfl : r1430 = 0 := hw1429
  have hP : va_P D classes [(ou, .inl (cL, 1, .inr (.inl (fun _ => 0))))] H := hP
  have hD : va_D A [(ou, .inl (cL, 1, .inr (.inl (fun _ => 0))))] := hD
  refine W.widen (k := 0) (n := 0) (by omega) (by omega) ?_
  refine lv_i2l (v := 0) hx hb d_law_sum_7 (by decide) ?_
  refine va_last hx hb hC.1 hP hD hS 0 1 rfl rfl (by unfold vp_in; decide) d_law_sum_8 (fun H locs hP hD hS => ?_)
  have hP : va_P D classes [(ou, .inl (cL, 1, .inr (.inl (vp_updL (fun _ => 0) (0 : Int32).toNatClampNeg 0))))] H := hP
  have hD : va_D A [(ou, .inl (cL, 1, .inr (.inl (vp_updL (fun _ => 0) (0 : Int32).toNatClampNeg 0))))] := hD
  refine lv_goto (tgt := 15) hx hb d_law_sum_9 (by decide) ?_
  refine lv_iconst (v := 0) hx hb d_law_sum_15 (by decide) ?_
  refine W.widen (k := 0) (n := 0) (Nat.le_of_ble_eq_true rfl) (Nat.le_of_ble_eq_true rfl) ?_
  have hP9 := hP.sub (ws' := [(ou, .inl (cL, 1, .inr (.inl (vp_updL (fun _ => 0) (0 : Int32).toNatClampNeg 0))))]) [0] rfl
  have hD9 := hD.sub (ws' := [(ou, .inl (cL, 1, .inr (.inl (vp_updL (fun _ => 0) (0 : Int32).toNatClampNeg 0))))]) [0] (by decide) rfl
  exact W.iret (v := 0) hx hb hr (fun t ht hW => ⟨⟨0, (), rfl, rfl, by rw [ht]; exact hP9, va_K.moved hW.alike hC.1, hD9⟩, hS.F ht⟩) hS.2.2 d_law_sum_16

set_option maxHeartbeats 4000000 in
set_option maxRecDepth 100000 in
theorem c_hsum_2 (l : Launch) (D : va_G) (cI cL : ClassId) (B sz : Nat) (h0 : Nat) (q83 : Nat) (q84 : Nat) (z87 : Nat) (q89 : Nat) (z92 : Nat) (z93 : Nat) (z94 : Nat) (q95 : Nat) (q101 : Nat) (q107 : Nat) (q116 : Nat) (q120 : Nat) (q124 : Nat) (ou : Nat) : Met l y_law_sum ((Cond.codeWith y_law_sum method_11_code 4 (some .int) [(0, 9, 12, 13)]) :: tw) ({ frames := 70, cells := 0, slots := 0, locals := 7000 }) (va_Pc [.ref h0, .int 2, .ref ou] (wP D cI cL B sz [(h0, .inr (0, [.ref q83, .ref q84, .ref q89, .ref q95, .ref q101, .ref q107, .ref q116, .ref q120, .ref q124])), (q89, .inr (2, [.int 1, .int 1, .ref z92, .ref z93, .ref z94, .ref q84, .ref z87])), (z92, .inl (cI, 1, .inl (fun _ => 0))), (z93, .inl (cI, 1, .inl (fun _ => 0))), (z94, .inl (cI, 1, .inl (fun _ => 0))), (ou, .inl (cL, 1, .inr (.inl (fun _ => 0))))])) (va_Qi (S := Unit) (fun r u => r = 0) (fun u => wB D cI cL (va_A [(h0, .inr (0, [.ref q83, .ref q84, .ref q89, .ref q95, .ref q101, .ref q107, .ref q116, .ref q120, .ref q124])), (q89, .inr (2, [.int 1, .int 1, .ref z92, .ref z93, .ref z94, .ref q84, .ref z87])), (z92, .inl (cI, 1, .inl (fun _ => 0))), (z93, .inl (cI, 1, .inl (fun _ => 0))), (z94, .inl (cI, 1, .inl (fun _ => 0))), (ou, .inl (cL, 1, .inr (.inl (fun _ => 0))))] sz) ((fun _ : Unit => [(ou, .inl (cL, 1, .inr (.inl (vp_updL (fun _ => 0) (0 : Int32).toNatClampNeg 0))))]) u)) (va_A [(h0, .inr (0, [.ref q83, .ref q84, .ref q89, .ref q95, .ref q101, .ref q107, .ref q116, .ref q120, .ref q124])), (q89, .inr (2, [.int 1, .int 1, .ref z92, .ref z93, .ref z94, .ref q84, .ref z87])), (z92, .inl (cI, 1, .inl (fun _ => 0))), (z93, .inl (cI, 1, .inl (fun _ => 0))), (z94, .inl (cI, 1, .inl (fun _ => 0))), (ou, .inl (cL, 1, .inr (.inl (fun _ => 0))))] sz)) 0 0 (va_A [(h0, .inr (0, [.ref q83, .ref q84, .ref q89, .ref q95, .ref q101, .ref q107, .ref q116, .ref q120, .ref q124])), (q89, .inr (2, [.int 1, .int 1, .ref z92, .ref z93, .ref z94, .ref q84, .ref z87])), (z92, .inl (cI, 1, .inl (fun _ => 0))), (z93, .inl (cI, 1, .inl (fun _ => 0))), (z94, .inl (cI, 1, .inl (fun _ => 0))), (ou, .inl (cL, 1, .inr (.inl (fun _ => 0))))] sz) := by
  refine va_MetW (cc := method_11_code) (maxL := 4) (ret := (some .int)) (hh := [(0, 9, 12, 13)]) (by decide) rfl ?_
  intro p e s m args below meth c s₁ B0 hml hv
  obtain ⟨rfl, hv⟩ := hv
  have hx := B0.exec
  have hb := B0.bytes
  have hr := B0.returns
  have hts := atoms_spec (ws := (Cond.codeWith y_law_sum method_11_code 4 (some .int) [(0, 9, 12, 13)]) :: tw) B0.pre
  have htw : ∀ w ∈ tw, w.before _ s = true := fun w hw => hts w (List.mem_cons_of_mem _ hw)
  have hown : s.vm.findClass "DrawingMachineLaw" = some m.cls := findClass_of_methodNamed B0.named
  have hlocks := B0.notSynchronized
  obtain ⟨hC, hP, hD, hsz⟩ := wC_init hv
  subst hsz
  generalize hAe : va_A [(h0, .inr (0, [.ref q83, .ref q84, .ref q89, .ref q95, .ref q101, .ref q107, .ref q116, .ref q120, .ref q124])), (q89, .inr (2, [.int 1, .int 1, .ref z92, .ref z93, .ref z94, .ref q84, .ref z87])), (z92, .inl (cI, 1, .inl (fun _ => 0))), (z93, .inl (cI, 1, .inl (fun _ => 0))), (z94, .inl (cI, 1, .inl (fun _ => 0))), (ou, .inl (cL, 1, .inr (.inl (fun _ => 0))))] s.heap.size = A at hC hD ⊢
  have hS : va_S A s.heap s.heap [] := va_S.rf
  have hl := lv_entry ([.ref h0, .int 2, .ref ou]) (n := 4) (Nat.le_of_ble_eq_true rfl)
  rw [lg_entry_eq]
  generalize (lg_sl ([.ref h0, .int 2, .ref ou]) ++ List.replicate (4 - (lg_sl ([.ref h0, .int 2, .ref ou])).length) Slot.unset).toArray = ls at hl ⊢
  have hl : lv_has ls 4 [(0, .ref h0), (1, .int 2), (2, .ref ou)] := hl
  refine lv_aload_n hx hb d_law_sum_0 rfl (lv_at hl 2 rfl) ?_
  refine lv_iconst (v := 0) hx hb d_law_sum_1 (by decide) ?_
  refine lv_aload_n hx hb d_law_sum_2 rfl (lv_at hl 0 rfl) ?_
  refine lv_iload_n hx hb d_law_sum_3 rfl (lv_at hl 1 rfl) ?_
  refine wc_i (wr := [(ou, .inl (cL, 1, .inr (.inl (fun _ => 0))))]) hC hP hD hS [0, 1, 2, 3, 4] [5] rfl rfl (by decide) (by decide) (va_runV (As := [.int 2]) (rest := [.int 0, .ref ou]) ⟨hx, hb, hml, hown, htw⟩ (c_sum_2 l D cI cL B _ h0 q83 q84 z87 q89 z92 z93 z94 q95 q101 q107 q116 q120 q124) (cwV 1 htw gV_law_46 rfl rfl rfl (by decide +kernel) ⟨Nat.le_of_ble_eq_true rfl, Nat.le_of_ble_eq_true rfl⟩) (wC_preV (As := [.int 2]) hC hP hD hS [0, 1, 2, 3, 4] (by decide) rfl (q0 := 0) rfl rfl) rfl rfl hl.1 rfl (lv_room (Nat.le_of_ble_eq_true rfl)) d_law_sum_4 ⟨Nat.le_of_ble_eq_true rfl, Nat.le_of_ble_eq_true rfl⟩) (fun r1433 u1431 H locs hw1432 hP hD hS => ?_)
  obtain rfl : r1433 = 0 := hw1432
  have hP : va_P D classes [(ou, .inl (cL, 1, .inr (.inl (fun _ => 0))))] H := hP
  have hD : va_D A [(ou, .inl (cL, 1, .inr (.inl (fun _ => 0))))] := hD
  refine W.widen (k := 0) (n := 0) (by omega) (by omega) ?_
  refine lv_i2l (v := 0) hx hb d_law_sum_7 (by decide) ?_
  refine va_last hx hb hC.1 hP hD hS 0 1 rfl rfl (by unfold vp_in; decide) d_law_sum_8 (fun H locs hP hD hS => ?_)
  have hP : va_P D classes [(ou, .inl (cL, 1, .inr (.inl (vp_updL (fun _ => 0) (0 : Int32).toNatClampNeg 0))))] H := hP
  have hD : va_D A [(ou, .inl (cL, 1, .inr (.inl (vp_updL (fun _ => 0) (0 : Int32).toNatClampNeg 0))))] := hD
  refine lv_goto (tgt := 15) hx hb d_law_sum_9 (by decide) ?_
  refine lv_iconst (v := 0) hx hb d_law_sum_15 (by decide) ?_
  refine W.widen (k := 0) (n := 0) (Nat.le_of_ble_eq_true rfl) (Nat.le_of_ble_eq_true rfl) ?_
  have hP9 := hP.sub (ws' := [(ou, .inl (cL, 1, .inr (.inl (vp_updL (fun _ => 0) (0 : Int32).toNatClampNeg 0))))]) [0] rfl
  have hD9 := hD.sub (ws' := [(ou, .inl (cL, 1, .inr (.inl (vp_updL (fun _ => 0) (0 : Int32).toNatClampNeg 0))))]) [0] (by decide) rfl
  exact W.iret (v := 0) hx hb hr (fun t ht hW => ⟨⟨0, (), rfl, rfl, by rw [ht]; exact hP9, va_K.moved hW.alike hC.1, hD9⟩, hS.F ht⟩) hS.2.2 d_law_sum_16

theorem d_law_sum_12 : decode method_11_code 12 = .ok (.astore_n 3, 1) := by decide +kernel
theorem d_law_sum_13 : decode method_11_code 13 = .ok (.iconst 1, 1) := by decide +kernel
theorem d_law_sum_14 : decode method_11_code 14 = .ok (.ireturn, 1) := by decide +kernel
set_option maxHeartbeats 4000000 in
set_option maxRecDepth 100000 in
theorem c_hsum_b (l : Launch) (hfl : l.stackTraces = false) (D : va_G) (cI cL : ClassId) (B sz : Nat) (h0 : Nat) (q83 : Nat) (q84 : Nat) (q89 : Nat) (q95 : Nat) (q101 : Nat) (q107 : Nat) (q116 : Nat) (q120 : Nat) (q124 : Nat) (x : Int32) (ou : Nat) (hbd : x < 0 ∨ 2 < x) : Met l y_law_sum ((Cond.codeWith y_law_sum method_11_code 4 (some .int) [(0, 9, 12, 13)]) :: tw) ({ frames := 70, cells := 1, slots := 6, locals := 7000 }) (va_Pc [.ref h0, .int x, .ref ou] (wP D cI cL B sz [(h0, .inr (0, [.ref q83, .ref q84, .ref q89, .ref q95, .ref q101, .ref q107, .ref q116, .ref q120, .ref q124])), (ou, .inl (cL, 1, .inr (.inl (fun _ => 0))))])) (va_Qi (S := Unit) (fun r u => r = 1) (fun u => wB D cI cL (va_A [(h0, .inr (0, [.ref q83, .ref q84, .ref q89, .ref q95, .ref q101, .ref q107, .ref q116, .ref q120, .ref q124])), (ou, .inl (cL, 1, .inr (.inl (fun _ => 0))))] sz) ((fun _ : Unit => []) u)) (va_A [(h0, .inr (0, [.ref q83, .ref q84, .ref q89, .ref q95, .ref q101, .ref q107, .ref q116, .ref q120, .ref q124])), (ou, .inl (cL, 1, .inr (.inl (fun _ => 0))))] sz)) 1 6 (va_A [(h0, .inr (0, [.ref q83, .ref q84, .ref q89, .ref q95, .ref q101, .ref q107, .ref q116, .ref q120, .ref q124])), (ou, .inl (cL, 1, .inr (.inl (fun _ => 0))))] sz) := by
  refine va_MetW (cc := method_11_code) (maxL := 4) (ret := (some .int)) (hh := [(0, 9, 12, 13)]) (by decide) rfl ?_
  intro p e s m args below meth c s₁ B0 hml hv
  obtain ⟨rfl, hv⟩ := hv
  have hx := B0.exec
  have hb := B0.bytes
  have hr := B0.returns
  have hts := atoms_spec (ws := (Cond.codeWith y_law_sum method_11_code 4 (some .int) [(0, 9, 12, 13)]) :: tw) B0.pre
  have htw : ∀ w ∈ tw, w.before _ s = true := fun w hw => hts w (List.mem_cons_of_mem _ hw)
  have hown : s.vm.findClass "DrawingMachineLaw" = some m.cls := findClass_of_methodNamed B0.named
  have hlocks := B0.notSynchronized
  obtain ⟨hC, hP, hD, hsz⟩ := wC_init hv
  subst hsz
  generalize hAe : va_A [(h0, .inr (0, [.ref q83, .ref q84, .ref q89, .ref q95, .ref q101, .ref q107, .ref q116, .ref q120, .ref q124])), (ou, .inl (cL, 1, .inr (.inl (fun _ => 0))))] s.heap.size = A at hC hD ⊢
  have hS : va_S A s.heap s.heap [] := va_S.rf
  have hl := lv_entry ([.ref h0, .int x, .ref ou]) (n := 4) (Nat.le_of_ble_eq_true rfl)
  rw [lg_entry_eq]
  generalize (lg_sl ([.ref h0, .int x, .ref ou]) ++ List.replicate (4 - (lg_sl ([.ref h0, .int x, .ref ou])).length) Slot.unset).toArray = ls at hl ⊢
  have hl : lv_has ls 4 [(0, .ref h0), (1, .int x), (2, .ref ou)] := hl
  refine lv_aload_n hx hb d_law_sum_0 rfl (lv_at hl 2 rfl) ?_
  refine lv_iconst (v := 0) hx hb d_law_sum_1 (by decide) ?_
  refine lv_aload_n hx hb d_law_sum_2 rfl (lv_at hl 0 rfl) ?_
  refine lv_iload_n hx hb d_law_sum_3 rfl (lv_at hl 1 rfl) ?_
  have hta := tq_tab (hh := [(0, 9, 12, 13)]) B0 (hts _ List.mem_cons_self)
  refine tq_d1 (As := [.int x]) (rest := [.int 0, .ref ou]) ⟨hx, hb, hml, hown, htw⟩ (c_sum_b l hfl D cI cL B _ h0 x (hbd)) (cwV 1 htw gV_law_46 rfl rfl rfl (by decide +kernel) ⟨Nat.le_of_ble_eq_true rfl, Nat.le_of_ble_eq_true rfl⟩) (wC_preV (As := [.int x]) hC hP hD hS [] (by decide) rfl (q0 := 0) rfl rfl) rfl hl.1 rfl (Nat.le_of_ble_eq_true rfl) d_law_sum_4 ⟨Nat.le_of_ble_eq_true rfl, Nat.le_of_ble_eq_true rfl⟩ hta (by decide) (by decide) (by decide) (htw _ k809) hS (fun a9 H hS => ?_)
  have hP : va_P D classes [] H := fun k q hq => by simp at hq
  have hD : va_D A [] := hD.sub (ws' := []) [] (by decide) rfl
  refine W.widen (k := 1) (n := 6) (by omega) (by omega) ?_
  refine lv_astore_n (lv' := [(3, .ref a9), (0, .ref h0), (1, .int x), (2, .ref ou)]) hx hb d_law_sum_12 rfl hl (by decide) rfl (fun ls hl => ?_)
  refine lv_iconst (v := 1) hx hb d_law_sum_13 (by decide) ?_
  refine W.widen (k := 1) (n := 6) (Nat.le_of_ble_eq_true rfl) (Nat.le_of_ble_eq_true rfl) ?_
  have hP9 := hP.sub (ws' := []) [] rfl
  have hD9 := hD.sub (ws' := []) [] (by decide) rfl
  exact W.iret (v := 1) hx hb hr (fun t ht hW => ⟨⟨1, (), rfl, rfl, by rw [ht]; exact hP9, va_K.moved hW.alike hC.1, hD9⟩, hS.F ht⟩) hS.2.2 d_law_sum_14

theorem d_law_query_0 : decode method_12_code 0 = .ok (.aload_n 2, 1) := by decide +kernel
theorem d_law_query_1 : decode method_12_code 1 = .ok (.iconst 0, 1) := by decide +kernel
theorem d_law_query_2 : decode method_12_code 2 = .ok (.aload_n 0, 1) := by decide +kernel
theorem d_law_query_3 : decode method_12_code 3 = .ok (.iload_n 1, 1) := by decide +kernel
theorem d_law_query_4 : decode method_12_code 4 = .ok (.invokevirtual 49, 3) := by decide +kernel
theorem d_law_query_7 : decode method_12_code 7 = .ok (.i2l, 1) := by decide +kernel
theorem d_law_query_8 : decode method_12_code 8 = .ok (.lastore, 1) := by decide +kernel
theorem d_law_query_9 : decode method_12_code 9 = .ok (.goto 6, 3) := by decide +kernel
theorem d_law_query_15 : decode method_12_code 15 = .ok (.iconst 0, 1) := by decide +kernel
theorem d_law_query_16 : decode method_12_code 16 = .ok (.ireturn, 1) := by decide +kernel
theorem gV_law_49 : GoodIn tw (wsV "DrawingMachineLaw" 49 "DrawingMachine" y_DM_query ((Cond.code y_DM_query prog_1_method_12_code 2 (some .int)) :: tw)) := tw_pre (fun _ h => h) (tw_good (fun _ h => h) k348) (List.forall_mem_cons.mpr ⟨k802, List.forall_mem_cons.mpr ⟨k803, List.forall_mem_cons.mpr ⟨k804, List.forall_mem_cons.mpr ⟨k0, fun _ h => absurd h List.not_mem_nil⟩⟩⟩⟩)
set_option maxHeartbeats 4000000 in
set_option maxRecDepth 100000 in
theorem c_hquery_g (l : Launch) (D : va_G) (cI cL : ClassId) (B sz : Nat) (h0 : Nat) (q83 : Nat) (q84 : Nat) (z87 : Nat) (q89 : Nat) (q95 : Nat) (q101 : Nat) (q107 : Nat) (z110 : Nat) (z111 : Nat) (z112 : Nat) (z113 : Nat) (z114 : Nat) (z115 : Nat) (q116 : Nat) (q120 : Nat) (q124 : Nat) (j : Nat) (ou : Nat) (hj : j < 8) : Met l y_law_query ((Cond.codeWith y_law_query method_12_code 4 (some .int) [(0, 9, 12, 13)]) :: tw) ({ frames := 70, cells := 0, slots := 0, locals := 7000 }) (va_Pc [.ref h0, .int (nI j), .ref ou] (wP D cI cL B sz [(h0, .inr (0, [.ref q83, .ref q84, .ref q89, .ref q95, .ref q101, .ref q107, .ref q116, .ref q120, .ref q124])), (q107, .inr (5, [.ref z110, .ref z111, .int (-1), .ref z87, .ref q89, .ref z112, .ref z113, .ref z114, .ref z115])), (z111, .inl (cI, 8, .inl (fun _ => 0))), (ou, .inl (cL, 1, .inr (.inl (fun _ => 0))))])) (va_Qi (S := Unit) (fun r u => r = 0) (fun u => wB D cI cL (va_A [(h0, .inr (0, [.ref q83, .ref q84, .ref q89, .ref q95, .ref q101, .ref q107, .ref q116, .ref q120, .ref q124])), (q107, .inr (5, [.ref z110, .ref z111, .int (-1), .ref z87, .ref q89, .ref z112, .ref z113, .ref z114, .ref z115])), (z111, .inl (cI, 8, .inl (fun _ => 0))), (ou, .inl (cL, 1, .inr (.inl (fun _ => 0))))] sz) ((fun _ : Unit => [(ou, .inl (cL, 1, .inr (.inl (vp_updL (fun _ => 0) (0 : Int32).toNatClampNeg 0))))]) u)) (va_A [(h0, .inr (0, [.ref q83, .ref q84, .ref q89, .ref q95, .ref q101, .ref q107, .ref q116, .ref q120, .ref q124])), (q107, .inr (5, [.ref z110, .ref z111, .int (-1), .ref z87, .ref q89, .ref z112, .ref z113, .ref z114, .ref z115])), (z111, .inl (cI, 8, .inl (fun _ => 0))), (ou, .inl (cL, 1, .inr (.inl (fun _ => 0))))] sz)) 0 0 (va_A [(h0, .inr (0, [.ref q83, .ref q84, .ref q89, .ref q95, .ref q101, .ref q107, .ref q116, .ref q120, .ref q124])), (q107, .inr (5, [.ref z110, .ref z111, .int (-1), .ref z87, .ref q89, .ref z112, .ref z113, .ref z114, .ref z115])), (z111, .inl (cI, 8, .inl (fun _ => 0))), (ou, .inl (cL, 1, .inr (.inl (fun _ => 0))))] sz) := by
  refine va_MetW (cc := method_12_code) (maxL := 4) (ret := (some .int)) (hh := [(0, 9, 12, 13)]) (by decide) rfl ?_
  intro p e s m args below meth c s₁ B0 hml hv
  obtain ⟨rfl, hv⟩ := hv
  have hx := B0.exec
  have hb := B0.bytes
  have hr := B0.returns
  have hts := atoms_spec (ws := (Cond.codeWith y_law_query method_12_code 4 (some .int) [(0, 9, 12, 13)]) :: tw) B0.pre
  have htw : ∀ w ∈ tw, w.before _ s = true := fun w hw => hts w (List.mem_cons_of_mem _ hw)
  have hown : s.vm.findClass "DrawingMachineLaw" = some m.cls := findClass_of_methodNamed B0.named
  have hlocks := B0.notSynchronized
  obtain ⟨hC, hP, hD, hsz⟩ := wC_init hv
  subst hsz
  generalize hAe : va_A [(h0, .inr (0, [.ref q83, .ref q84, .ref q89, .ref q95, .ref q101, .ref q107, .ref q116, .ref q120, .ref q124])), (q107, .inr (5, [.ref z110, .ref z111, .int (-1), .ref z87, .ref q89, .ref z112, .ref z113, .ref z114, .ref z115])), (z111, .inl (cI, 8, .inl (fun _ => 0))), (ou, .inl (cL, 1, .inr (.inl (fun _ => 0))))] s.heap.size = A at hC hD ⊢
  have hS : va_S A s.heap s.heap [] := va_S.rf
  have hl := lv_entry ([.ref h0, .int (nI j), .ref ou]) (n := 4) (Nat.le_of_ble_eq_true rfl)
  rw [lg_entry_eq]
  generalize (lg_sl ([.ref h0, .int (nI j), .ref ou]) ++ List.replicate (4 - (lg_sl ([.ref h0, .int (nI j), .ref ou])).length) Slot.unset).toArray = ls at hl ⊢
  have hl : lv_has ls 4 [(0, .ref h0), (1, .int (nI j)), (2, .ref ou)] := hl
  refine lv_aload_n hx hb d_law_query_0 rfl (lv_at hl 2 rfl) ?_
  refine lv_iconst (v := 0) hx hb d_law_query_1 (by decide) ?_
  refine lv_aload_n hx hb d_law_query_2 rfl (lv_at hl 0 rfl) ?_
  refine lv_iload_n hx hb d_law_query_3 rfl (lv_at hl 1 rfl) ?_
  refine wc_i (wr := [(ou, .inl (cL, 1, .inr (.inl (fun _ => 0))))]) hC hP hD hS [0, 1, 2] [3] rfl rfl (by decide) (by decide) (va_runV (As := [.int (nI j)]) (rest := [.int 0, .ref ou]) ⟨hx, hb, hml, hown, htw⟩ (c_query_g l D cI cL B _ h0 q83 q84 z87 q89 q95 q101 q107 z110 z111 z112 z113 z114 z115 q116 q120 q124 j (hj)) (cwV 1 htw gV_law_49 rfl rfl rfl (by decide +kernel) ⟨Nat.le_of_ble_eq_true rfl, Nat.le_of_ble_eq_true rfl⟩) (wC_preV (As := [.int (nI j)]) hC hP hD hS [0, 1, 2] (by decide) rfl (q0 := 0) rfl rfl) rfl rfl hl.1 rfl (lv_room (Nat.le_of_ble_eq_true rfl)) d_law_query_4 ⟨Nat.le_of_ble_eq_true rfl, Nat.le_of_ble_eq_true rfl⟩) (fun r1436 u1434 H locs hw1435 hP hD hS => ?_)
  obtain rfl : r1436 = 0 := hw1435
  have hP : va_P D classes [(ou, .inl (cL, 1, .inr (.inl (fun _ => 0))))] H := hP
  have hD : va_D A [(ou, .inl (cL, 1, .inr (.inl (fun _ => 0))))] := hD
  refine W.widen (k := 0) (n := 0) (by omega) (by omega) ?_
  refine lv_i2l (v := 0) hx hb d_law_query_7 (by decide) ?_
  refine va_last hx hb hC.1 hP hD hS 0 1 rfl rfl (by unfold vp_in; decide) d_law_query_8 (fun H locs hP hD hS => ?_)
  have hP : va_P D classes [(ou, .inl (cL, 1, .inr (.inl (vp_updL (fun _ => 0) (0 : Int32).toNatClampNeg 0))))] H := hP
  have hD : va_D A [(ou, .inl (cL, 1, .inr (.inl (vp_updL (fun _ => 0) (0 : Int32).toNatClampNeg 0))))] := hD
  refine lv_goto (tgt := 15) hx hb d_law_query_9 (by decide) ?_
  refine lv_iconst (v := 0) hx hb d_law_query_15 (by decide) ?_
  refine W.widen (k := 0) (n := 0) (Nat.le_of_ble_eq_true rfl) (Nat.le_of_ble_eq_true rfl) ?_
  have hP9 := hP.sub (ws' := [(ou, .inl (cL, 1, .inr (.inl (vp_updL (fun _ => 0) (0 : Int32).toNatClampNeg 0))))]) [0] rfl
  have hD9 := hD.sub (ws' := [(ou, .inl (cL, 1, .inr (.inl (vp_updL (fun _ => 0) (0 : Int32).toNatClampNeg 0))))]) [0] (by decide) rfl
  exact W.iret (v := 0) hx hb hr (fun t ht hW => ⟨⟨0, (), rfl, rfl, by rw [ht]; exact hP9, va_K.moved hW.alike hC.1, hD9⟩, hS.F ht⟩) hS.2.2 d_law_query_16

theorem d_law_query_12 : decode method_12_code 12 = .ok (.astore_n 3, 1) := by decide +kernel
theorem d_law_query_13 : decode method_12_code 13 = .ok (.iconst 1, 1) := by decide +kernel
theorem d_law_query_14 : decode method_12_code 14 = .ok (.ireturn, 1) := by decide +kernel
set_option maxHeartbeats 4000000 in
set_option maxRecDepth 100000 in
theorem c_hquery_b (l : Launch) (hfl : l.stackTraces = false) (D : va_G) (cI cL : ClassId) (B sz : Nat) (h0 : Nat) (q83 : Nat) (q84 : Nat) (q89 : Nat) (q95 : Nat) (q101 : Nat) (q107 : Nat) (q116 : Nat) (q120 : Nat) (q124 : Nat) (x : Int32) (ou : Nat) (hbd : x < 0 ∨ 8 ≤ x) : Met l y_law_query ((Cond.codeWith y_law_query method_12_code 4 (some .int) [(0, 9, 12, 13)]) :: tw) ({ frames := 70, cells := 1, slots := 6, locals := 7000 }) (va_Pc [.ref h0, .int x, .ref ou] (wP D cI cL B sz [(h0, .inr (0, [.ref q83, .ref q84, .ref q89, .ref q95, .ref q101, .ref q107, .ref q116, .ref q120, .ref q124])), (ou, .inl (cL, 1, .inr (.inl (fun _ => 0))))])) (va_Qi (S := Unit) (fun r u => r = 1) (fun u => wB D cI cL (va_A [(h0, .inr (0, [.ref q83, .ref q84, .ref q89, .ref q95, .ref q101, .ref q107, .ref q116, .ref q120, .ref q124])), (ou, .inl (cL, 1, .inr (.inl (fun _ => 0))))] sz) ((fun _ : Unit => []) u)) (va_A [(h0, .inr (0, [.ref q83, .ref q84, .ref q89, .ref q95, .ref q101, .ref q107, .ref q116, .ref q120, .ref q124])), (ou, .inl (cL, 1, .inr (.inl (fun _ => 0))))] sz)) 1 6 (va_A [(h0, .inr (0, [.ref q83, .ref q84, .ref q89, .ref q95, .ref q101, .ref q107, .ref q116, .ref q120, .ref q124])), (ou, .inl (cL, 1, .inr (.inl (fun _ => 0))))] sz) := by
  refine va_MetW (cc := method_12_code) (maxL := 4) (ret := (some .int)) (hh := [(0, 9, 12, 13)]) (by decide) rfl ?_
  intro p e s m args below meth c s₁ B0 hml hv
  obtain ⟨rfl, hv⟩ := hv
  have hx := B0.exec
  have hb := B0.bytes
  have hr := B0.returns
  have hts := atoms_spec (ws := (Cond.codeWith y_law_query method_12_code 4 (some .int) [(0, 9, 12, 13)]) :: tw) B0.pre
  have htw : ∀ w ∈ tw, w.before _ s = true := fun w hw => hts w (List.mem_cons_of_mem _ hw)
  have hown : s.vm.findClass "DrawingMachineLaw" = some m.cls := findClass_of_methodNamed B0.named
  have hlocks := B0.notSynchronized
  obtain ⟨hC, hP, hD, hsz⟩ := wC_init hv
  subst hsz
  generalize hAe : va_A [(h0, .inr (0, [.ref q83, .ref q84, .ref q89, .ref q95, .ref q101, .ref q107, .ref q116, .ref q120, .ref q124])), (ou, .inl (cL, 1, .inr (.inl (fun _ => 0))))] s.heap.size = A at hC hD ⊢
  have hS : va_S A s.heap s.heap [] := va_S.rf
  have hl := lv_entry ([.ref h0, .int x, .ref ou]) (n := 4) (Nat.le_of_ble_eq_true rfl)
  rw [lg_entry_eq]
  generalize (lg_sl ([.ref h0, .int x, .ref ou]) ++ List.replicate (4 - (lg_sl ([.ref h0, .int x, .ref ou])).length) Slot.unset).toArray = ls at hl ⊢
  have hl : lv_has ls 4 [(0, .ref h0), (1, .int x), (2, .ref ou)] := hl
  refine lv_aload_n hx hb d_law_query_0 rfl (lv_at hl 2 rfl) ?_
  refine lv_iconst (v := 0) hx hb d_law_query_1 (by decide) ?_
  refine lv_aload_n hx hb d_law_query_2 rfl (lv_at hl 0 rfl) ?_
  refine lv_iload_n hx hb d_law_query_3 rfl (lv_at hl 1 rfl) ?_
  have hta := tq_tab (hh := [(0, 9, 12, 13)]) B0 (hts _ List.mem_cons_self)
  refine tq_d1 (As := [.int x]) (rest := [.int 0, .ref ou]) ⟨hx, hb, hml, hown, htw⟩ (c_query_b l hfl D cI cL B _ h0 x (hbd)) (cwV 1 htw gV_law_49 rfl rfl rfl (by decide +kernel) ⟨Nat.le_of_ble_eq_true rfl, Nat.le_of_ble_eq_true rfl⟩) (wC_preV (As := [.int x]) hC hP hD hS [] (by decide) rfl (q0 := 0) rfl rfl) rfl hl.1 rfl (Nat.le_of_ble_eq_true rfl) d_law_query_4 ⟨Nat.le_of_ble_eq_true rfl, Nat.le_of_ble_eq_true rfl⟩ hta (by decide) (by decide) (by decide) (htw _ k809) hS (fun a9 H hS => ?_)
  have hP : va_P D classes [] H := fun k q hq => by simp at hq
  have hD : va_D A [] := hD.sub (ws' := []) [] (by decide) rfl
  refine W.widen (k := 1) (n := 6) (by omega) (by omega) ?_
  refine lv_astore_n (lv' := [(3, .ref a9), (0, .ref h0), (1, .int x), (2, .ref ou)]) hx hb d_law_query_12 rfl hl (by decide) rfl (fun ls hl => ?_)
  refine lv_iconst (v := 1) hx hb d_law_query_13 (by decide) ?_
  refine W.widen (k := 1) (n := 6) (Nat.le_of_ble_eq_true rfl) (Nat.le_of_ble_eq_true rfl) ?_
  have hP9 := hP.sub (ws' := []) [] rfl
  have hD9 := hD.sub (ws' := []) [] (by decide) rfl
  exact W.iret (v := 1) hx hb hr (fun t ht hW => ⟨⟨1, (), rfl, rfl, by rw [ht]; exact hP9, va_K.moved hW.alike hC.1, hD9⟩, hS.F ht⟩) hS.2.2 d_law_query_14

theorem d_law_count_0 : decode method_13_code 0 = .ok (.aload_n 2, 1) := by decide +kernel
theorem d_law_count_1 : decode method_13_code 1 = .ok (.iconst 0, 1) := by decide +kernel
theorem d_law_count_2 : decode method_13_code 2 = .ok (.aload_n 0, 1) := by decide +kernel
theorem d_law_count_3 : decode method_13_code 3 = .ok (.iload_n 1, 1) := by decide +kernel
theorem d_law_count_4 : decode method_13_code 4 = .ok (.invokevirtual 52, 3) := by decide +kernel
theorem d_law_count_7 : decode method_13_code 7 = .ok (.i2l, 1) := by decide +kernel
theorem d_law_count_8 : decode method_13_code 8 = .ok (.lastore, 1) := by decide +kernel
theorem d_law_count_9 : decode method_13_code 9 = .ok (.goto 6, 3) := by decide +kernel
theorem d_law_count_15 : decode method_13_code 15 = .ok (.iconst 0, 1) := by decide +kernel
theorem d_law_count_16 : decode method_13_code 16 = .ok (.ireturn, 1) := by decide +kernel
theorem gV_law_52 : GoodIn tw (wsV "DrawingMachineLaw" 52 "DrawingMachine" y_DM_count ((Cond.code y_DM_count prog_1_method_13_code 2 (some .int)) :: tw)) := tw_pre (fun _ h => h) (tw_good (fun _ h => h) k350) (List.forall_mem_cons.mpr ⟨k806, List.forall_mem_cons.mpr ⟨k807, List.forall_mem_cons.mpr ⟨k808, List.forall_mem_cons.mpr ⟨k0, fun _ h => absurd h List.not_mem_nil⟩⟩⟩⟩)
set_option maxHeartbeats 4000000 in
set_option maxRecDepth 100000 in
theorem c_hcount_g (l : Launch) (D : va_G) (cI cL : ClassId) (B sz : Nat) (h0 : Nat) (q83 : Nat) (q84 : Nat) (z87 : Nat) (q89 : Nat) (q95 : Nat) (q101 : Nat) (q107 : Nat) (z110 : Nat) (z111 : Nat) (z112 : Nat) (z113 : Nat) (z114 : Nat) (z115 : Nat) (q116 : Nat) (q120 : Nat) (q124 : Nat) (j : Nat) (ou : Nat) (hj : j < 9) : Met l y_law_count ((Cond.codeWith y_law_count method_13_code 4 (some .int) [(0, 9, 12, 13)]) :: tw) ({ frames := 70, cells := 0, slots := 0, locals := 7000 }) (va_Pc [.ref h0, .int (nI j), .ref ou] (wP D cI cL B sz [(h0, .inr (0, [.ref q83, .ref q84, .ref q89, .ref q95, .ref q101, .ref q107, .ref q116, .ref q120, .ref q124])), (q107, .inr (5, [.ref z110, .ref z111, .int (-1), .ref z87, .ref q89, .ref z112, .ref z113, .ref z114, .ref z115])), (z110, .inl (cI, 9, .inl (fun _ => 0))), (ou, .inl (cL, 1, .inr (.inl (fun _ => 0))))])) (va_Qi (S := Unit) (fun r u => r = 0) (fun u => wB D cI cL (va_A [(h0, .inr (0, [.ref q83, .ref q84, .ref q89, .ref q95, .ref q101, .ref q107, .ref q116, .ref q120, .ref q124])), (q107, .inr (5, [.ref z110, .ref z111, .int (-1), .ref z87, .ref q89, .ref z112, .ref z113, .ref z114, .ref z115])), (z110, .inl (cI, 9, .inl (fun _ => 0))), (ou, .inl (cL, 1, .inr (.inl (fun _ => 0))))] sz) ((fun _ : Unit => [(ou, .inl (cL, 1, .inr (.inl (vp_updL (fun _ => 0) (0 : Int32).toNatClampNeg 0))))]) u)) (va_A [(h0, .inr (0, [.ref q83, .ref q84, .ref q89, .ref q95, .ref q101, .ref q107, .ref q116, .ref q120, .ref q124])), (q107, .inr (5, [.ref z110, .ref z111, .int (-1), .ref z87, .ref q89, .ref z112, .ref z113, .ref z114, .ref z115])), (z110, .inl (cI, 9, .inl (fun _ => 0))), (ou, .inl (cL, 1, .inr (.inl (fun _ => 0))))] sz)) 0 0 (va_A [(h0, .inr (0, [.ref q83, .ref q84, .ref q89, .ref q95, .ref q101, .ref q107, .ref q116, .ref q120, .ref q124])), (q107, .inr (5, [.ref z110, .ref z111, .int (-1), .ref z87, .ref q89, .ref z112, .ref z113, .ref z114, .ref z115])), (z110, .inl (cI, 9, .inl (fun _ => 0))), (ou, .inl (cL, 1, .inr (.inl (fun _ => 0))))] sz) := by
  refine va_MetW (cc := method_13_code) (maxL := 4) (ret := (some .int)) (hh := [(0, 9, 12, 13)]) (by decide) rfl ?_
  intro p e s m args below meth c s₁ B0 hml hv
  obtain ⟨rfl, hv⟩ := hv
  have hx := B0.exec
  have hb := B0.bytes
  have hr := B0.returns
  have hts := atoms_spec (ws := (Cond.codeWith y_law_count method_13_code 4 (some .int) [(0, 9, 12, 13)]) :: tw) B0.pre
  have htw : ∀ w ∈ tw, w.before _ s = true := fun w hw => hts w (List.mem_cons_of_mem _ hw)
  have hown : s.vm.findClass "DrawingMachineLaw" = some m.cls := findClass_of_methodNamed B0.named
  have hlocks := B0.notSynchronized
  obtain ⟨hC, hP, hD, hsz⟩ := wC_init hv
  subst hsz
  generalize hAe : va_A [(h0, .inr (0, [.ref q83, .ref q84, .ref q89, .ref q95, .ref q101, .ref q107, .ref q116, .ref q120, .ref q124])), (q107, .inr (5, [.ref z110, .ref z111, .int (-1), .ref z87, .ref q89, .ref z112, .ref z113, .ref z114, .ref z115])), (z110, .inl (cI, 9, .inl (fun _ => 0))), (ou, .inl (cL, 1, .inr (.inl (fun _ => 0))))] s.heap.size = A at hC hD ⊢
  have hS : va_S A s.heap s.heap [] := va_S.rf
  have hl := lv_entry ([.ref h0, .int (nI j), .ref ou]) (n := 4) (Nat.le_of_ble_eq_true rfl)
  rw [lg_entry_eq]
  generalize (lg_sl ([.ref h0, .int (nI j), .ref ou]) ++ List.replicate (4 - (lg_sl ([.ref h0, .int (nI j), .ref ou])).length) Slot.unset).toArray = ls at hl ⊢
  have hl : lv_has ls 4 [(0, .ref h0), (1, .int (nI j)), (2, .ref ou)] := hl
  refine lv_aload_n hx hb d_law_count_0 rfl (lv_at hl 2 rfl) ?_
  refine lv_iconst (v := 0) hx hb d_law_count_1 (by decide) ?_
  refine lv_aload_n hx hb d_law_count_2 rfl (lv_at hl 0 rfl) ?_
  refine lv_iload_n hx hb d_law_count_3 rfl (lv_at hl 1 rfl) ?_
  refine wc_i (wr := [(ou, .inl (cL, 1, .inr (.inl (fun _ => 0))))]) hC hP hD hS [0, 1, 2] [3] rfl rfl (by decide) (by decide) (va_runV (As := [.int (nI j)]) (rest := [.int 0, .ref ou]) ⟨hx, hb, hml, hown, htw⟩ (c_count_g l D cI cL B _ h0 q83 q84 z87 q89 q95 q101 q107 z110 z111 z112 z113 z114 z115 q116 q120 q124 j (hj)) (cwV 1 htw gV_law_52 rfl rfl rfl (by decide +kernel) ⟨Nat.le_of_ble_eq_true rfl, Nat.le_of_ble_eq_true rfl⟩) (wC_preV (As := [.int (nI j)]) hC hP hD hS [0, 1, 2] (by decide) rfl (q0 := 0) rfl rfl) rfl rfl hl.1 rfl (lv_room (Nat.le_of_ble_eq_true rfl)) d_law_count_4 ⟨Nat.le_of_ble_eq_true rfl, Nat.le_of_ble_eq_true rfl⟩) (fun r1439 u1437 H locs hw1438 hP hD hS => ?_)
  obtain rfl : r1439 = 0 := hw1438
  have hP : va_P D classes [(ou, .inl (cL, 1, .inr (.inl (fun _ => 0))))] H := hP
  have hD : va_D A [(ou, .inl (cL, 1, .inr (.inl (fun _ => 0))))] := hD
  refine W.widen (k := 0) (n := 0) (by omega) (by omega) ?_
  refine lv_i2l (v := 0) hx hb d_law_count_7 (by decide) ?_
  refine va_last hx hb hC.1 hP hD hS 0 1 rfl rfl (by unfold vp_in; decide) d_law_count_8 (fun H locs hP hD hS => ?_)
  have hP : va_P D classes [(ou, .inl (cL, 1, .inr (.inl (vp_updL (fun _ => 0) (0 : Int32).toNatClampNeg 0))))] H := hP
  have hD : va_D A [(ou, .inl (cL, 1, .inr (.inl (vp_updL (fun _ => 0) (0 : Int32).toNatClampNeg 0))))] := hD
  refine lv_goto (tgt := 15) hx hb d_law_count_9 (by decide) ?_
  refine lv_iconst (v := 0) hx hb d_law_count_15 (by decide) ?_
  refine W.widen (k := 0) (n := 0) (Nat.le_of_ble_eq_true rfl) (Nat.le_of_ble_eq_true rfl) ?_
  have hP9 := hP.sub (ws' := [(ou, .inl (cL, 1, .inr (.inl (vp_updL (fun _ => 0) (0 : Int32).toNatClampNeg 0))))]) [0] rfl
  have hD9 := hD.sub (ws' := [(ou, .inl (cL, 1, .inr (.inl (vp_updL (fun _ => 0) (0 : Int32).toNatClampNeg 0))))]) [0] (by decide) rfl
  exact W.iret (v := 0) hx hb hr (fun t ht hW => ⟨⟨0, (), rfl, rfl, by rw [ht]; exact hP9, va_K.moved hW.alike hC.1, hD9⟩, hS.F ht⟩) hS.2.2 d_law_count_16

theorem d_law_count_12 : decode method_13_code 12 = .ok (.astore_n 3, 1) := by decide +kernel
theorem d_law_count_13 : decode method_13_code 13 = .ok (.iconst 1, 1) := by decide +kernel
theorem d_law_count_14 : decode method_13_code 14 = .ok (.ireturn, 1) := by decide +kernel
set_option maxHeartbeats 4000000 in
set_option maxRecDepth 100000 in
theorem c_hcount_b (l : Launch) (hfl : l.stackTraces = false) (D : va_G) (cI cL : ClassId) (B sz : Nat) (h0 : Nat) (q83 : Nat) (q84 : Nat) (q89 : Nat) (q95 : Nat) (q101 : Nat) (q107 : Nat) (q116 : Nat) (q120 : Nat) (q124 : Nat) (x : Int32) (ou : Nat) (hbd : x < 0 ∨ 9 ≤ x) : Met l y_law_count ((Cond.codeWith y_law_count method_13_code 4 (some .int) [(0, 9, 12, 13)]) :: tw) ({ frames := 70, cells := 1, slots := 6, locals := 7000 }) (va_Pc [.ref h0, .int x, .ref ou] (wP D cI cL B sz [(h0, .inr (0, [.ref q83, .ref q84, .ref q89, .ref q95, .ref q101, .ref q107, .ref q116, .ref q120, .ref q124])), (ou, .inl (cL, 1, .inr (.inl (fun _ => 0))))])) (va_Qi (S := Unit) (fun r u => r = 1) (fun u => wB D cI cL (va_A [(h0, .inr (0, [.ref q83, .ref q84, .ref q89, .ref q95, .ref q101, .ref q107, .ref q116, .ref q120, .ref q124])), (ou, .inl (cL, 1, .inr (.inl (fun _ => 0))))] sz) ((fun _ : Unit => []) u)) (va_A [(h0, .inr (0, [.ref q83, .ref q84, .ref q89, .ref q95, .ref q101, .ref q107, .ref q116, .ref q120, .ref q124])), (ou, .inl (cL, 1, .inr (.inl (fun _ => 0))))] sz)) 1 6 (va_A [(h0, .inr (0, [.ref q83, .ref q84, .ref q89, .ref q95, .ref q101, .ref q107, .ref q116, .ref q120, .ref q124])), (ou, .inl (cL, 1, .inr (.inl (fun _ => 0))))] sz) := by
  refine va_MetW (cc := method_13_code) (maxL := 4) (ret := (some .int)) (hh := [(0, 9, 12, 13)]) (by decide) rfl ?_
  intro p e s m args below meth c s₁ B0 hml hv
  obtain ⟨rfl, hv⟩ := hv
  have hx := B0.exec
  have hb := B0.bytes
  have hr := B0.returns
  have hts := atoms_spec (ws := (Cond.codeWith y_law_count method_13_code 4 (some .int) [(0, 9, 12, 13)]) :: tw) B0.pre
  have htw : ∀ w ∈ tw, w.before _ s = true := fun w hw => hts w (List.mem_cons_of_mem _ hw)
  have hown : s.vm.findClass "DrawingMachineLaw" = some m.cls := findClass_of_methodNamed B0.named
  have hlocks := B0.notSynchronized
  obtain ⟨hC, hP, hD, hsz⟩ := wC_init hv
  subst hsz
  generalize hAe : va_A [(h0, .inr (0, [.ref q83, .ref q84, .ref q89, .ref q95, .ref q101, .ref q107, .ref q116, .ref q120, .ref q124])), (ou, .inl (cL, 1, .inr (.inl (fun _ => 0))))] s.heap.size = A at hC hD ⊢
  have hS : va_S A s.heap s.heap [] := va_S.rf
  have hl := lv_entry ([.ref h0, .int x, .ref ou]) (n := 4) (Nat.le_of_ble_eq_true rfl)
  rw [lg_entry_eq]
  generalize (lg_sl ([.ref h0, .int x, .ref ou]) ++ List.replicate (4 - (lg_sl ([.ref h0, .int x, .ref ou])).length) Slot.unset).toArray = ls at hl ⊢
  have hl : lv_has ls 4 [(0, .ref h0), (1, .int x), (2, .ref ou)] := hl
  refine lv_aload_n hx hb d_law_count_0 rfl (lv_at hl 2 rfl) ?_
  refine lv_iconst (v := 0) hx hb d_law_count_1 (by decide) ?_
  refine lv_aload_n hx hb d_law_count_2 rfl (lv_at hl 0 rfl) ?_
  refine lv_iload_n hx hb d_law_count_3 rfl (lv_at hl 1 rfl) ?_
  have hta := tq_tab (hh := [(0, 9, 12, 13)]) B0 (hts _ List.mem_cons_self)
  refine tq_d1 (As := [.int x]) (rest := [.int 0, .ref ou]) ⟨hx, hb, hml, hown, htw⟩ (c_count_b l hfl D cI cL B _ h0 x (hbd)) (cwV 1 htw gV_law_52 rfl rfl rfl (by decide +kernel) ⟨Nat.le_of_ble_eq_true rfl, Nat.le_of_ble_eq_true rfl⟩) (wC_preV (As := [.int x]) hC hP hD hS [] (by decide) rfl (q0 := 0) rfl rfl) rfl hl.1 rfl (Nat.le_of_ble_eq_true rfl) d_law_count_4 ⟨Nat.le_of_ble_eq_true rfl, Nat.le_of_ble_eq_true rfl⟩ hta (by decide) (by decide) (by decide) (htw _ k809) hS (fun a9 H hS => ?_)
  have hP : va_P D classes [] H := fun k q hq => by simp at hq
  have hD : va_D A [] := hD.sub (ws' := []) [] (by decide) rfl
  refine W.widen (k := 1) (n := 6) (by omega) (by omega) ?_
  refine lv_astore_n (lv' := [(3, .ref a9), (0, .ref h0), (1, .int x), (2, .ref ou)]) hx hb d_law_count_12 rfl hl (by decide) rfl (fun ls hl => ?_)
  refine lv_iconst (v := 1) hx hb d_law_count_13 (by decide) ?_
  refine W.widen (k := 1) (n := 6) (Nat.le_of_ble_eq_true rfl) (Nat.le_of_ble_eq_true rfl) ?_
  have hP9 := hP.sub (ws' := []) [] rfl
  have hD9 := hD.sub (ws' := []) [] (by decide) rfl
  exact W.iret (v := 1) hx hb hr (fun t ht hW => ⟨⟨1, (), rfl, rfl, by rw [ht]; exact hP9, va_K.moved hW.alike hC.1, hD9⟩, hS.F ht⟩) hS.2.2 d_law_count_14

theorem d_law_frame_0 : decode method_3_code 0 = .ok (.aload 4, 2) := by decide +kernel
theorem d_law_frame_2 : decode method_3_code 2 = .ok (.iconst 0, 1) := by decide +kernel
theorem d_law_frame_3 : decode method_3_code 3 = .ok (.aload_n 0, 1) := by decide +kernel
theorem d_law_frame_4 : decode method_3_code 4 = .ok (.iload_n 1, 1) := by decide +kernel
theorem d_law_frame_5 : decode method_3_code 5 = .ok (.iload_n 2, 1) := by decide +kernel
theorem d_law_frame_6 : decode method_3_code 6 = .ok (.iload_n 3, 1) := by decide +kernel
theorem d_law_frame_7 : decode method_3_code 7 = .ok (.invokevirtual 7, 3) := by decide +kernel
theorem d_law_frame_10 : decode method_3_code 10 = .ok (.i2l, 1) := by decide +kernel
theorem d_law_frame_11 : decode method_3_code 11 = .ok (.lastore, 1) := by decide +kernel
theorem d_law_frame_12 : decode method_3_code 12 = .ok (.goto 7, 3) := by decide +kernel
theorem d_law_frame_19 : decode method_3_code 19 = .ok (.iconst 0, 1) := by decide +kernel
theorem d_law_frame_20 : decode method_3_code 20 = .ok (.ireturn, 1) := by decide +kernel
theorem gV_law_7 : GoodIn tw (wsV "DrawingMachineLaw" 7 "DrawingMachine" y_DM_frame ((Cond.code y_DM_frame prog_1_method_2_code 4 (some .int)) :: tw)) := tw_pre (fun _ h => h) (tw_good (fun _ h => h) k275) (List.forall_mem_cons.mpr ⟨k766, List.forall_mem_cons.mpr ⟨k767, List.forall_mem_cons.mpr ⟨k768, List.forall_mem_cons.mpr ⟨k0, fun _ h => absurd h List.not_mem_nil⟩⟩⟩⟩)
set_option maxHeartbeats 4000000 in
set_option maxRecDepth 100000 in
theorem c_hframe_1 (l : Launch) (D : va_G) (cI cL : ClassId) (B sz : Nat) (h0 : Nat) (q83 : Nat) (q84 : Nat) (z87 : Nat) (q89 : Nat) (z92 : Nat) (z93 : Nat) (z94 : Nat) (q95 : Nat) (q101 : Nat) (q107 : Nat) (q116 : Nat) (q120 : Nat) (q124 : Nat) (sd : Int32) (ou : Nat) (hs : sd = 8 ∨ sd = 16 ∨ sd = 32 ∨ sd = 64) : Met l y_law_frame ((Cond.codeWith y_law_frame method_3_code 6 (some .int) [(0, 12, 15, 13)]) :: tw) ({ frames := 70, cells := 0, slots := 0, locals := 7000 }) (va_Pc [.ref h0, .int 1, .int 1, .int sd, .ref ou] (wP D cI cL B sz [(h0, .inr (0, [.ref q83, .ref q84, .ref q89, .ref q95, .ref q101, .ref q107, .ref q116, .ref q120, .ref q124])), (q89, .inr (2, [.int 1, .int 1, .ref z92, .ref z93, .ref z94, .ref q84, .ref z87])), (z92, .inl (cI, 1, .inl (fun _ => 0))), (z93, .inl (cI, 1, .inl (fun _ => 0))), (z94, .inl (cI, 1, .inl (fun _ => 0))), (ou, .inl (cL, 1, .inr (.inl (fun _ => 0))))])) (va_Qi (S := Unit) (fun r u => r = 0) (fun u => wB D cI cL (va_A [(h0, .inr (0, [.ref q83, .ref q84, .ref q89, .ref q95, .ref q101, .ref q107, .ref q116, .ref q120, .ref q124])), (q89, .inr (2, [.int 1, .int 1, .ref z92, .ref z93, .ref z94, .ref q84, .ref z87])), (z92, .inl (cI, 1, .inl (fun _ => 0))), (z93, .inl (cI, 1, .inl (fun _ => 0))), (z94, .inl (cI, 1, .inl (fun _ => 0))), (ou, .inl (cL, 1, .inr (.inl (fun _ => 0))))] sz) ((fun _ : Unit => [(ou, .inl (cL, 1, .inr (.inl (vp_updL (fun _ => 0) (0 : Int32).toNatClampNeg (((((1 + sd) - 1) / sd) * (((1 + sd) - 1) / sd)).toInt64)))))]) u)) (va_A [(h0, .inr (0, [.ref q83, .ref q84, .ref q89, .ref q95, .ref q101, .ref q107, .ref q116, .ref q120, .ref q124])), (q89, .inr (2, [.int 1, .int 1, .ref z92, .ref z93, .ref z94, .ref q84, .ref z87])), (z92, .inl (cI, 1, .inl (fun _ => 0))), (z93, .inl (cI, 1, .inl (fun _ => 0))), (z94, .inl (cI, 1, .inl (fun _ => 0))), (ou, .inl (cL, 1, .inr (.inl (fun _ => 0))))] sz)) 0 0 (va_A [(h0, .inr (0, [.ref q83, .ref q84, .ref q89, .ref q95, .ref q101, .ref q107, .ref q116, .ref q120, .ref q124])), (q89, .inr (2, [.int 1, .int 1, .ref z92, .ref z93, .ref z94, .ref q84, .ref z87])), (z92, .inl (cI, 1, .inl (fun _ => 0))), (z93, .inl (cI, 1, .inl (fun _ => 0))), (z94, .inl (cI, 1, .inl (fun _ => 0))), (ou, .inl (cL, 1, .inr (.inl (fun _ => 0))))] sz) := by
  refine va_MetW (cc := method_3_code) (maxL := 6) (ret := (some .int)) (hh := [(0, 12, 15, 13)]) (by decide) rfl ?_
  intro p e s m args below meth c s₁ B0 hml hv
  obtain ⟨rfl, hv⟩ := hv
  have hx := B0.exec
  have hb := B0.bytes
  have hr := B0.returns
  have hts := atoms_spec (ws := (Cond.codeWith y_law_frame method_3_code 6 (some .int) [(0, 12, 15, 13)]) :: tw) B0.pre
  have htw : ∀ w ∈ tw, w.before _ s = true := fun w hw => hts w (List.mem_cons_of_mem _ hw)
  have hown : s.vm.findClass "DrawingMachineLaw" = some m.cls := findClass_of_methodNamed B0.named
  have hlocks := B0.notSynchronized
  obtain ⟨hC, hP, hD, hsz⟩ := wC_init hv
  subst hsz
  generalize hAe : va_A [(h0, .inr (0, [.ref q83, .ref q84, .ref q89, .ref q95, .ref q101, .ref q107, .ref q116, .ref q120, .ref q124])), (q89, .inr (2, [.int 1, .int 1, .ref z92, .ref z93, .ref z94, .ref q84, .ref z87])), (z92, .inl (cI, 1, .inl (fun _ => 0))), (z93, .inl (cI, 1, .inl (fun _ => 0))), (z94, .inl (cI, 1, .inl (fun _ => 0))), (ou, .inl (cL, 1, .inr (.inl (fun _ => 0))))] s.heap.size = A at hC hD ⊢
  have hS : va_S A s.heap s.heap [] := va_S.rf
  have hl := lv_entry ([.ref h0, .int 1, .int 1, .int sd, .ref ou]) (n := 6) (Nat.le_of_ble_eq_true rfl)
  rw [lg_entry_eq]
  generalize (lg_sl ([.ref h0, .int 1, .int 1, .int sd, .ref ou]) ++ List.replicate (6 - (lg_sl ([.ref h0, .int 1, .int 1, .int sd, .ref ou])).length) Slot.unset).toArray = ls at hl ⊢
  have hl : lv_has ls 6 [(0, .ref h0), (1, .int 1), (2, .int 1), (3, .int sd), (4, .ref ou)] := hl
  refine lv_aload hx hb d_law_frame_0 (lv_at hl 4 rfl) ?_
  refine lv_iconst (v := 0) hx hb d_law_frame_2 (by decide) ?_
  refine lv_aload_n hx hb d_law_frame_3 rfl (lv_at hl 0 rfl) ?_
  refine lv_iload_n hx hb d_law_frame_4 rfl (lv_at hl 1 rfl) ?_
  refine lv_iload_n hx hb d_law_frame_5 rfl (lv_at hl 2 rfl) ?_
  refine lv_iload_n hx hb d_law_frame_6 rfl (lv_at hl 3 rfl) ?_
  refine wc_i (wr := [(ou, .inl (cL, 1, .inr (.inl (fun _ => 0))))]) hC hP hD hS [0, 1, 2, 3, 4] [5] rfl rfl (by decide) (by decide) (va_runV (As := [.int 1, .int 1, .int sd]) (rest := [.int 0, .ref ou]) ⟨hx, hb, hml, hown, htw⟩ (c_frame_1 l D cI cL B _ h0 q83 q84 z87 q89 z92 z93 z94 q95 q101 q107 q116 q120 q124 sd (hs)) (cwV 3 htw gV_law_7 rfl rfl rfl (by decide +kernel) ⟨Nat.le_of_ble_eq_true rfl, Nat.le_of_ble_eq_true rfl⟩) (wC_preV (As := [.int 1, .int 1, .int sd]) hC hP hD hS [0, 1, 2, 3, 4] (by decide) rfl (q0 := 0) rfl rfl) rfl rfl hl.1 rfl (lv_room (Nat.le_of_ble_eq_true rfl)) d_law_frame_7 ⟨Nat.le_of_ble_eq_true rfl, Nat.le_of_ble_eq_true rfl⟩) (fun r1442 u1440 H locs hw1441 hP hD hS => ?_)
  obtain rfl : r1442 = ((((1 + sd) - 1) / sd) * (((1 + sd) - 1) / sd)) := hw1441
  have hP : va_P D classes [(ou, .inl (cL, 1, .inr (.inl (fun _ => 0))))] H := hP
  have hD : va_D A [(ou, .inl (cL, 1, .inr (.inl (fun _ => 0))))] := hD
  refine W.widen (k := 0) (n := 0) (by omega) (by omega) ?_
  refine lv_i2l (v := ((((1 + sd) - 1) / sd) * (((1 + sd) - 1) / sd)).toInt64) hx hb d_law_frame_10 rfl ?_
  refine va_last hx hb hC.1 hP hD hS 0 1 rfl rfl (by unfold vp_in; decide) d_law_frame_11 (fun H locs hP hD hS => ?_)
  have hP : va_P D classes [(ou, .inl (cL, 1, .inr (.inl (vp_updL (fun _ => 0) (0 : Int32).toNatClampNeg (((((1 + sd) - 1) / sd) * (((1 + sd) - 1) / sd)).toInt64)))))] H := hP
  have hD : va_D A [(ou, .inl (cL, 1, .inr (.inl (vp_updL (fun _ => 0) (0 : Int32).toNatClampNeg (((((1 + sd) - 1) / sd) * (((1 + sd) - 1) / sd)).toInt64)))))] := hD
  refine lv_goto (tgt := 19) hx hb d_law_frame_12 (by decide) ?_
  refine lv_iconst (v := 0) hx hb d_law_frame_19 (by decide) ?_
  refine W.widen (k := 0) (n := 0) (Nat.le_of_ble_eq_true rfl) (Nat.le_of_ble_eq_true rfl) ?_
  have hP9 := hP.sub (ws' := [(ou, .inl (cL, 1, .inr (.inl (vp_updL (fun _ => 0) (0 : Int32).toNatClampNeg (((((1 + sd) - 1) / sd) * (((1 + sd) - 1) / sd)).toInt64)))))]) [0] rfl
  have hD9 := hD.sub (ws' := [(ou, .inl (cL, 1, .inr (.inl (vp_updL (fun _ => 0) (0 : Int32).toNatClampNeg (((((1 + sd) - 1) / sd) * (((1 + sd) - 1) / sd)).toInt64)))))]) [0] (by decide) rfl
  exact W.iret (v := 0) hx hb hr (fun t ht hW => ⟨⟨0, (), rfl, rfl, by rw [ht]; exact hP9, va_K.moved hW.alike hC.1, hD9⟩, hS.F ht⟩) hS.2.2 d_law_frame_20

set_option maxHeartbeats 4000000 in
set_option maxRecDepth 100000 in
theorem c_hframe_n (l : Launch) (D : va_G) (cI cL : ClassId) (B sz : Nat) (h0 : Nat) (q83 : Nat) (q84 : Nat) (z87 : Nat) (q89 : Nat) (z92 : Nat) (z93 : Nat) (z94 : Nat) (q95 : Nat) (q101 : Nat) (q107 : Nat) (q116 : Nat) (q120 : Nat) (q124 : Nat) (a : Nat) (b : Nat) (sd : Int32) (ou : Nat) (ha1 : 1 ≤ a) (ha2 : a ≤ 128) (hb1 : 1 ≤ b) (hb2 : b ≤ 128) (hab2 : 2 ≤ a * b) (hab : a * b ≤ 16384) (hs : sd = 8 ∨ sd = 16 ∨ sd = 32 ∨ sd = 64) : Met l y_law_frame ((Cond.codeWith y_law_frame method_3_code 6 (some .int) [(0, 12, 15, 13)]) :: tw) ({ frames := 70, cells := 3, slots := 49152, locals := 7000 }) (va_Pc [.ref h0, .int (nI a), .int (nI b), .int sd, .ref ou] (wP D cI cL B sz [(h0, .inr (0, [.ref q83, .ref q84, .ref q89, .ref q95, .ref q101, .ref q107, .ref q116, .ref q120, .ref q124])), (q89, .inr (2, [.int 1, .int 1, .ref z92, .ref z93, .ref z94, .ref q84, .ref z87])), (z92, .inl (cI, 1, .inl (fun _ => 0))), (z93, .inl (cI, 1, .inl (fun _ => 0))), (z94, .inl (cI, 1, .inl (fun _ => 0))), (ou, .inl (cL, 1, .inr (.inl (fun _ => 0))))])) (va_Qi (S := Unit) (fun r u => r = 0) (fun u => wB D cI cL (va_A [(h0, .inr (0, [.ref q83, .ref q84, .ref q89, .ref q95, .ref q101, .ref q107, .ref q116, .ref q120, .ref q124])), (q89, .inr (2, [.int 1, .int 1, .ref z92, .ref z93, .ref z94, .ref q84, .ref z87])), (z92, .inl (cI, 1, .inl (fun _ => 0))), (z93, .inl (cI, 1, .inl (fun _ => 0))), (z94, .inl (cI, 1, .inl (fun _ => 0))), (ou, .inl (cL, 1, .inr (.inl (fun _ => 0))))] sz) ((fun _ : Unit => [(ou, .inl (cL, 1, .inr (.inl (vp_updL (fun _ => 0) (0 : Int32).toNatClampNeg ((((((nI a) + sd) - 1) / sd) * ((((nI b) + sd) - 1) / sd)).toInt64)))))]) u)) (va_A [(h0, .inr (0, [.ref q83, .ref q84, .ref q89, .ref q95, .ref q101, .ref q107, .ref q116, .ref q120, .ref q124])), (q89, .inr (2, [.int 1, .int 1, .ref z92, .ref z93, .ref z94, .ref q84, .ref z87])), (z92, .inl (cI, 1, .inl (fun _ => 0))), (z93, .inl (cI, 1, .inl (fun _ => 0))), (z94, .inl (cI, 1, .inl (fun _ => 0))), (ou, .inl (cL, 1, .inr (.inl (fun _ => 0))))] sz)) 3 49152 (va_A [(h0, .inr (0, [.ref q83, .ref q84, .ref q89, .ref q95, .ref q101, .ref q107, .ref q116, .ref q120, .ref q124])), (q89, .inr (2, [.int 1, .int 1, .ref z92, .ref z93, .ref z94, .ref q84, .ref z87])), (z92, .inl (cI, 1, .inl (fun _ => 0))), (z93, .inl (cI, 1, .inl (fun _ => 0))), (z94, .inl (cI, 1, .inl (fun _ => 0))), (ou, .inl (cL, 1, .inr (.inl (fun _ => 0))))] sz) := by
  refine va_MetW (cc := method_3_code) (maxL := 6) (ret := (some .int)) (hh := [(0, 12, 15, 13)]) (by decide) rfl ?_
  intro p e s m args below meth c s₁ B0 hml hv
  obtain ⟨rfl, hv⟩ := hv
  have hx := B0.exec
  have hb := B0.bytes
  have hr := B0.returns
  have hts := atoms_spec (ws := (Cond.codeWith y_law_frame method_3_code 6 (some .int) [(0, 12, 15, 13)]) :: tw) B0.pre
  have htw : ∀ w ∈ tw, w.before _ s = true := fun w hw => hts w (List.mem_cons_of_mem _ hw)
  have hown : s.vm.findClass "DrawingMachineLaw" = some m.cls := findClass_of_methodNamed B0.named
  have hlocks := B0.notSynchronized
  obtain ⟨hC, hP, hD, hsz⟩ := wC_init hv
  subst hsz
  generalize hAe : va_A [(h0, .inr (0, [.ref q83, .ref q84, .ref q89, .ref q95, .ref q101, .ref q107, .ref q116, .ref q120, .ref q124])), (q89, .inr (2, [.int 1, .int 1, .ref z92, .ref z93, .ref z94, .ref q84, .ref z87])), (z92, .inl (cI, 1, .inl (fun _ => 0))), (z93, .inl (cI, 1, .inl (fun _ => 0))), (z94, .inl (cI, 1, .inl (fun _ => 0))), (ou, .inl (cL, 1, .inr (.inl (fun _ => 0))))] s.heap.size = A at hC hD ⊢
  have hS : va_S A s.heap s.heap [] := va_S.rf
  have hl := lv_entry ([.ref h0, .int (nI a), .int (nI b), .int sd, .ref ou]) (n := 6) (Nat.le_of_ble_eq_true rfl)
  rw [lg_entry_eq]
  generalize (lg_sl ([.ref h0, .int (nI a), .int (nI b), .int sd, .ref ou]) ++ List.replicate (6 - (lg_sl ([.ref h0, .int (nI a), .int (nI b), .int sd, .ref ou])).length) Slot.unset).toArray = ls at hl ⊢
  have hl : lv_has ls 6 [(0, .ref h0), (1, .int (nI a)), (2, .int (nI b)), (3, .int sd), (4, .ref ou)] := hl
  refine lv_aload hx hb d_law_frame_0 (lv_at hl 4 rfl) ?_
  refine lv_iconst (v := 0) hx hb d_law_frame_2 (by decide) ?_
  refine lv_aload_n hx hb d_law_frame_3 rfl (lv_at hl 0 rfl) ?_
  refine lv_iload_n hx hb d_law_frame_4 rfl (lv_at hl 1 rfl) ?_
  refine lv_iload_n hx hb d_law_frame_5 rfl (lv_at hl 2 rfl) ?_
  refine lv_iload_n hx hb d_law_frame_6 rfl (lv_at hl 3 rfl) ?_
  refine wc_i (wr := [(ou, .inl (cL, 1, .inr (.inl (fun _ => 0))))]) hC hP hD hS [0, 1, 2, 3, 4] [5] rfl rfl (by decide) (by decide) (va_runV (As := [.int (nI a), .int (nI b), .int sd]) (rest := [.int 0, .ref ou]) ⟨hx, hb, hml, hown, htw⟩ (c_frame_n l D cI cL B _ h0 q83 q84 z87 q89 z92 z93 z94 q95 q101 q107 q116 q120 q124 a b sd (ha1) (ha2) (hb1) (hb2) (hab2) (hab) (hs)) (cwV 3 htw gV_law_7 rfl rfl rfl (by decide +kernel) ⟨Nat.le_of_ble_eq_true rfl, Nat.le_of_ble_eq_true rfl⟩) (wC_preV (As := [.int (nI a), .int (nI b), .int sd]) hC hP hD hS [0, 1, 2, 3, 4] (by decide) rfl (q0 := 0) rfl rfl) rfl rfl hl.1 rfl (lv_room (Nat.le_of_ble_eq_true rfl)) d_law_frame_7 ⟨Nat.le_of_ble_eq_true rfl, Nat.le_of_ble_eq_true rfl⟩) (fun r1445 u1443 H locs hw1444 hP hD hS => ?_)
  obtain rfl : r1445 = (((((nI a) + sd) - 1) / sd) * ((((nI b) + sd) - 1) / sd)) := hw1444
  have hP : va_P D classes [(ou, .inl (cL, 1, .inr (.inl (fun _ => 0))))] H := hP
  have hD : va_D A [(ou, .inl (cL, 1, .inr (.inl (fun _ => 0))))] := hD
  refine W.widen (k := 3) (n := 49152) (by omega) (by omega) ?_
  refine lv_i2l (v := (((((nI a) + sd) - 1) / sd) * ((((nI b) + sd) - 1) / sd)).toInt64) hx hb d_law_frame_10 rfl ?_
  refine va_last hx hb hC.1 hP hD hS 0 1 rfl rfl (by unfold vp_in; decide) d_law_frame_11 (fun H locs hP hD hS => ?_)
  have hP : va_P D classes [(ou, .inl (cL, 1, .inr (.inl (vp_updL (fun _ => 0) (0 : Int32).toNatClampNeg ((((((nI a) + sd) - 1) / sd) * ((((nI b) + sd) - 1) / sd)).toInt64)))))] H := hP
  have hD : va_D A [(ou, .inl (cL, 1, .inr (.inl (vp_updL (fun _ => 0) (0 : Int32).toNatClampNeg ((((((nI a) + sd) - 1) / sd) * ((((nI b) + sd) - 1) / sd)).toInt64)))))] := hD
  refine lv_goto (tgt := 19) hx hb d_law_frame_12 (by decide) ?_
  refine lv_iconst (v := 0) hx hb d_law_frame_19 (by decide) ?_
  refine W.widen (k := 3) (n := 49152) (Nat.le_of_ble_eq_true rfl) (Nat.le_of_ble_eq_true rfl) ?_
  have hP9 := hP.sub (ws' := [(ou, .inl (cL, 1, .inr (.inl (vp_updL (fun _ => 0) (0 : Int32).toNatClampNeg ((((((nI a) + sd) - 1) / sd) * ((((nI b) + sd) - 1) / sd)).toInt64)))))]) [0] rfl
  have hD9 := hD.sub (ws' := [(ou, .inl (cL, 1, .inr (.inl (vp_updL (fun _ => 0) (0 : Int32).toNatClampNeg ((((((nI a) + sd) - 1) / sd) * ((((nI b) + sd) - 1) / sd)).toInt64)))))]) [0] (by decide) rfl
  exact W.iret (v := 0) hx hb hr (fun t ht hW => ⟨⟨0, (), rfl, rfl, by rw [ht]; exact hP9, va_K.moved hW.alike hC.1, hD9⟩, hS.F ht⟩) hS.2.2 d_law_frame_20

theorem d_law_frame_15 : decode method_3_code 15 = .ok (.astore 5, 2) := by decide +kernel
theorem d_law_frame_17 : decode method_3_code 17 = .ok (.iconst 1, 1) := by decide +kernel
theorem d_law_frame_18 : decode method_3_code 18 = .ok (.ireturn, 1) := by decide +kernel
set_option maxHeartbeats 4000000 in
set_option maxRecDepth 100000 in
theorem c_hframe_b1 (l : Launch) (hfl : l.stackTraces = false) (D : va_G) (cI cL : ClassId) (B sz : Nat) (h0 : Nat) (q83 : Nat) (q84 : Nat) (q89 : Nat) (q95 : Nat) (q101 : Nat) (q107 : Nat) (q116 : Nat) (q120 : Nat) (q124 : Nat) (w : Int32) (h : Int32) (sd : Int32) (ou : Nat) (hbd : w < 1 ∨ 128 < w) : Met l y_law_frame ((Cond.codeWith y_law_frame method_3_code 6 (some .int) [(0, 12, 15, 13)]) :: tw) ({ frames := 70, cells := 1, slots := 6, locals := 7000 }) (va_Pc [.ref h0, .int w, .int h, .int sd, .ref ou] (wP D cI cL B sz [(h0, .inr (0, [.ref q83, .ref q84, .ref q89, .ref q95, .ref q101, .ref q107, .ref q116, .ref q120, .ref q124])), (ou, .inl (cL, 1, .inr (.inl (fun _ => 0))))])) (va_Qi (S := Unit) (fun r u => r = 1) (fun u => wB D cI cL (va_A [(h0, .inr (0, [.ref q83, .ref q84, .ref q89, .ref q95, .ref q101, .ref q107, .ref q116, .ref q120, .ref q124])), (ou, .inl (cL, 1, .inr (.inl (fun _ => 0))))] sz) ((fun _ : Unit => []) u)) (va_A [(h0, .inr (0, [.ref q83, .ref q84, .ref q89, .ref q95, .ref q101, .ref q107, .ref q116, .ref q120, .ref q124])), (ou, .inl (cL, 1, .inr (.inl (fun _ => 0))))] sz)) 1 6 (va_A [(h0, .inr (0, [.ref q83, .ref q84, .ref q89, .ref q95, .ref q101, .ref q107, .ref q116, .ref q120, .ref q124])), (ou, .inl (cL, 1, .inr (.inl (fun _ => 0))))] sz) := by
  refine va_MetW (cc := method_3_code) (maxL := 6) (ret := (some .int)) (hh := [(0, 12, 15, 13)]) (by decide) rfl ?_
  intro p e s m args below meth c s₁ B0 hml hv
  obtain ⟨rfl, hv⟩ := hv
  have hx := B0.exec
  have hb := B0.bytes
  have hr := B0.returns
  have hts := atoms_spec (ws := (Cond.codeWith y_law_frame method_3_code 6 (some .int) [(0, 12, 15, 13)]) :: tw) B0.pre
  have htw : ∀ w ∈ tw, w.before _ s = true := fun w hw => hts w (List.mem_cons_of_mem _ hw)
  have hown : s.vm.findClass "DrawingMachineLaw" = some m.cls := findClass_of_methodNamed B0.named
  have hlocks := B0.notSynchronized
  obtain ⟨hC, hP, hD, hsz⟩ := wC_init hv
  subst hsz
  generalize hAe : va_A [(h0, .inr (0, [.ref q83, .ref q84, .ref q89, .ref q95, .ref q101, .ref q107, .ref q116, .ref q120, .ref q124])), (ou, .inl (cL, 1, .inr (.inl (fun _ => 0))))] s.heap.size = A at hC hD ⊢
  have hS : va_S A s.heap s.heap [] := va_S.rf
  have hl := lv_entry ([.ref h0, .int w, .int h, .int sd, .ref ou]) (n := 6) (Nat.le_of_ble_eq_true rfl)
  rw [lg_entry_eq]
  generalize (lg_sl ([.ref h0, .int w, .int h, .int sd, .ref ou]) ++ List.replicate (6 - (lg_sl ([.ref h0, .int w, .int h, .int sd, .ref ou])).length) Slot.unset).toArray = ls at hl ⊢
  have hl : lv_has ls 6 [(0, .ref h0), (1, .int w), (2, .int h), (3, .int sd), (4, .ref ou)] := hl
  refine lv_aload hx hb d_law_frame_0 (lv_at hl 4 rfl) ?_
  refine lv_iconst (v := 0) hx hb d_law_frame_2 (by decide) ?_
  refine lv_aload_n hx hb d_law_frame_3 rfl (lv_at hl 0 rfl) ?_
  refine lv_iload_n hx hb d_law_frame_4 rfl (lv_at hl 1 rfl) ?_
  refine lv_iload_n hx hb d_law_frame_5 rfl (lv_at hl 2 rfl) ?_
  refine lv_iload_n hx hb d_law_frame_6 rfl (lv_at hl 3 rfl) ?_
  have hta := tq_tab (hh := [(0, 12, 15, 13)]) B0 (hts _ List.mem_cons_self)
  refine tq_d1 (As := [.int w, .int h, .int sd]) (rest := [.int 0, .ref ou]) ⟨hx, hb, hml, hown, htw⟩ (c_frame_b1 l hfl D cI cL B _ h0 w h sd (hbd)) (cwV 3 htw gV_law_7 rfl rfl rfl (by decide +kernel) ⟨Nat.le_of_ble_eq_true rfl, Nat.le_of_ble_eq_true rfl⟩) (wC_preV (As := [.int w, .int h, .int sd]) hC hP hD hS [] (by decide) rfl (q0 := 0) rfl rfl) rfl hl.1 rfl (Nat.le_of_ble_eq_true rfl) d_law_frame_7 ⟨Nat.le_of_ble_eq_true rfl, Nat.le_of_ble_eq_true rfl⟩ hta (by decide) (by decide) (by decide) (htw _ k809) hS (fun a9 H hS => ?_)
  have hP : va_P D classes [] H := fun k q hq => by simp at hq
  have hD : va_D A [] := hD.sub (ws' := []) [] (by decide) rfl
  refine W.widen (k := 1) (n := 6) (by omega) (by omega) ?_
  refine lv_astore (lv' := [(5, .ref a9), (0, .ref h0), (1, .int w), (2, .int h), (3, .int sd), (4, .ref ou)]) hx hb d_law_frame_15 hl (by decide) rfl (fun ls hl => ?_)
  refine lv_iconst (v := 1) hx hb d_law_frame_17 (by decide) ?_
  refine W.widen (k := 1) (n := 6) (Nat.le_of_ble_eq_true rfl) (Nat.le_of_ble_eq_true rfl) ?_
  have hP9 := hP.sub (ws' := []) [] rfl
  have hD9 := hD.sub (ws' := []) [] (by decide) rfl
  exact W.iret (v := 1) hx hb hr (fun t ht hW => ⟨⟨1, (), rfl, rfl, by rw [ht]; exact hP9, va_K.moved hW.alike hC.1, hD9⟩, hS.F ht⟩) hS.2.2 d_law_frame_18

set_option maxHeartbeats 4000000 in
set_option maxRecDepth 100000 in
theorem c_hframe_b2 (l : Launch) (hfl : l.stackTraces = false) (D : va_G) (cI cL : ClassId) (B sz : Nat) (h0 : Nat) (q83 : Nat) (q84 : Nat) (q89 : Nat) (q95 : Nat) (q101 : Nat) (q107 : Nat) (q116 : Nat) (q120 : Nat) (q124 : Nat) (w : Int32) (h : Int32) (sd : Int32) (ou : Nat) (h1 : ¬ w < 1) (h2 : ¬ 128 < w) (hbd : h < 1 ∨ 128 < h) : Met l y_law_frame ((Cond.codeWith y_law_frame method_3_code 6 (some .int) [(0, 12, 15, 13)]) :: tw) ({ frames := 70, cells := 1, slots := 6, locals := 7000 }) (va_Pc [.ref h0, .int w, .int h, .int sd, .ref ou] (wP D cI cL B sz [(h0, .inr (0, [.ref q83, .ref q84, .ref q89, .ref q95, .ref q101, .ref q107, .ref q116, .ref q120, .ref q124])), (ou, .inl (cL, 1, .inr (.inl (fun _ => 0))))])) (va_Qi (S := Unit) (fun r u => r = 1) (fun u => wB D cI cL (va_A [(h0, .inr (0, [.ref q83, .ref q84, .ref q89, .ref q95, .ref q101, .ref q107, .ref q116, .ref q120, .ref q124])), (ou, .inl (cL, 1, .inr (.inl (fun _ => 0))))] sz) ((fun _ : Unit => []) u)) (va_A [(h0, .inr (0, [.ref q83, .ref q84, .ref q89, .ref q95, .ref q101, .ref q107, .ref q116, .ref q120, .ref q124])), (ou, .inl (cL, 1, .inr (.inl (fun _ => 0))))] sz)) 1 6 (va_A [(h0, .inr (0, [.ref q83, .ref q84, .ref q89, .ref q95, .ref q101, .ref q107, .ref q116, .ref q120, .ref q124])), (ou, .inl (cL, 1, .inr (.inl (fun _ => 0))))] sz) := by
  refine va_MetW (cc := method_3_code) (maxL := 6) (ret := (some .int)) (hh := [(0, 12, 15, 13)]) (by decide) rfl ?_
  intro p e s m args below meth c s₁ B0 hml hv
  obtain ⟨rfl, hv⟩ := hv
  have hx := B0.exec
  have hb := B0.bytes
  have hr := B0.returns
  have hts := atoms_spec (ws := (Cond.codeWith y_law_frame method_3_code 6 (some .int) [(0, 12, 15, 13)]) :: tw) B0.pre
  have htw : ∀ w ∈ tw, w.before _ s = true := fun w hw => hts w (List.mem_cons_of_mem _ hw)
  have hown : s.vm.findClass "DrawingMachineLaw" = some m.cls := findClass_of_methodNamed B0.named
  have hlocks := B0.notSynchronized
  obtain ⟨hC, hP, hD, hsz⟩ := wC_init hv
  subst hsz
  generalize hAe : va_A [(h0, .inr (0, [.ref q83, .ref q84, .ref q89, .ref q95, .ref q101, .ref q107, .ref q116, .ref q120, .ref q124])), (ou, .inl (cL, 1, .inr (.inl (fun _ => 0))))] s.heap.size = A at hC hD ⊢
  have hS : va_S A s.heap s.heap [] := va_S.rf
  have hl := lv_entry ([.ref h0, .int w, .int h, .int sd, .ref ou]) (n := 6) (Nat.le_of_ble_eq_true rfl)
  rw [lg_entry_eq]
  generalize (lg_sl ([.ref h0, .int w, .int h, .int sd, .ref ou]) ++ List.replicate (6 - (lg_sl ([.ref h0, .int w, .int h, .int sd, .ref ou])).length) Slot.unset).toArray = ls at hl ⊢
  have hl : lv_has ls 6 [(0, .ref h0), (1, .int w), (2, .int h), (3, .int sd), (4, .ref ou)] := hl
  refine lv_aload hx hb d_law_frame_0 (lv_at hl 4 rfl) ?_
  refine lv_iconst (v := 0) hx hb d_law_frame_2 (by decide) ?_
  refine lv_aload_n hx hb d_law_frame_3 rfl (lv_at hl 0 rfl) ?_
  refine lv_iload_n hx hb d_law_frame_4 rfl (lv_at hl 1 rfl) ?_
  refine lv_iload_n hx hb d_law_frame_5 rfl (lv_at hl 2 rfl) ?_
  refine lv_iload_n hx hb d_law_frame_6 rfl (lv_at hl 3 rfl) ?_
  have hta := tq_tab (hh := [(0, 12, 15, 13)]) B0 (hts _ List.mem_cons_self)
  refine tq_d1 (As := [.int w, .int h, .int sd]) (rest := [.int 0, .ref ou]) ⟨hx, hb, hml, hown, htw⟩ (c_frame_b2 l hfl D cI cL B _ h0 w h sd (h1) (h2) (hbd)) (cwV 3 htw gV_law_7 rfl rfl rfl (by decide +kernel) ⟨Nat.le_of_ble_eq_true rfl, Nat.le_of_ble_eq_true rfl⟩) (wC_preV (As := [.int w, .int h, .int sd]) hC hP hD hS [] (by decide) rfl (q0 := 0) rfl rfl) rfl hl.1 rfl (Nat.le_of_ble_eq_true rfl) d_law_frame_7 ⟨Nat.le_of_ble_eq_true rfl, Nat.le_of_ble_eq_true rfl⟩ hta (by decide) (by decide) (by decide) (htw _ k809) hS (fun a9 H hS => ?_)
  have hP : va_P D classes [] H := fun k q hq => by simp at hq
  have hD : va_D A [] := hD.sub (ws' := []) [] (by decide) rfl
  refine W.widen (k := 1) (n := 6) (by omega) (by omega) ?_
  refine lv_astore (lv' := [(5, .ref a9), (0, .ref h0), (1, .int w), (2, .int h), (3, .int sd), (4, .ref ou)]) hx hb d_law_frame_15 hl (by decide) rfl (fun ls hl => ?_)
  refine lv_iconst (v := 1) hx hb d_law_frame_17 (by decide) ?_
  refine W.widen (k := 1) (n := 6) (Nat.le_of_ble_eq_true rfl) (Nat.le_of_ble_eq_true rfl) ?_
  have hP9 := hP.sub (ws' := []) [] rfl
  have hD9 := hD.sub (ws' := []) [] (by decide) rfl
  exact W.iret (v := 1) hx hb hr (fun t ht hW => ⟨⟨1, (), rfl, rfl, by rw [ht]; exact hP9, va_K.moved hW.alike hC.1, hD9⟩, hS.F ht⟩) hS.2.2 d_law_frame_18

set_option maxHeartbeats 4000000 in
set_option maxRecDepth 100000 in
theorem c_hframe_b3 (l : Launch) (hfl : l.stackTraces = false) (D : va_G) (cI cL : ClassId) (B sz : Nat) (h0 : Nat) (q83 : Nat) (q84 : Nat) (q89 : Nat) (q95 : Nat) (q101 : Nat) (q107 : Nat) (q116 : Nat) (q120 : Nat) (q124 : Nat) (w : Int32) (h : Int32) (sd : Int32) (ou : Nat) (h1 : ¬ w < 1) (h2 : ¬ 128 < w) (h3 : ¬ h < 1) (h4 : ¬ 128 < h) (hbd : ¬ (sd = 8 ∨ sd = 16 ∨ sd = 32 ∨ sd = 64)) : Met l y_law_frame ((Cond.codeWith y_law_frame method_3_code 6 (some .int) [(0, 12, 15, 13)]) :: tw) ({ frames := 70, cells := 1, slots := 6, locals := 7000 }) (va_Pc [.ref h0, .int w, .int h, .int sd, .ref ou] (wP D cI cL B sz [(h0, .inr (0, [.ref q83, .ref q84, .ref q89, .ref q95, .ref q101, .ref q107, .ref q116, .ref q120, .ref q124])), (ou, .inl (cL, 1, .inr (.inl (fun _ => 0))))])) (va_Qi (S := Unit) (fun r u => r = 1) (fun u => wB D cI cL (va_A [(h0, .inr (0, [.ref q83, .ref q84, .ref q89, .ref q95, .ref q101, .ref q107, .ref q116, .ref q120, .ref q124])), (ou, .inl (cL, 1, .inr (.inl (fun _ => 0))))] sz) ((fun _ : Unit => []) u)) (va_A [(h0, .inr (0, [.ref q83, .ref q84, .ref q89, .ref q95, .ref q101, .ref q107, .ref q116, .ref q120, .ref q124])), (ou, .inl (cL, 1, .inr (.inl (fun _ => 0))))] sz)) 1 6 (va_A [(h0, .inr (0, [.ref q83, .ref q84, .ref q89, .ref q95, .ref q101, .ref q107, .ref q116, .ref q120, .ref q124])), (ou, .inl (cL, 1, .inr (.inl (fun _ => 0))))] sz) := by
  refine va_MetW (cc := method_3_code) (maxL := 6) (ret := (some .int)) (hh := [(0, 12, 15, 13)]) (by decide) rfl ?_
  intro p e s m args below meth c s₁ B0 hml hv
  obtain ⟨rfl, hv⟩ := hv
  have hx := B0.exec
  have hb := B0.bytes
  have hr := B0.returns
  have hts := atoms_spec (ws := (Cond.codeWith y_law_frame method_3_code 6 (some .int) [(0, 12, 15, 13)]) :: tw) B0.pre
  have htw : ∀ w ∈ tw, w.before _ s = true := fun w hw => hts w (List.mem_cons_of_mem _ hw)
  have hown : s.vm.findClass "DrawingMachineLaw" = some m.cls := findClass_of_methodNamed B0.named
  have hlocks := B0.notSynchronized
  obtain ⟨hC, hP, hD, hsz⟩ := wC_init hv
  subst hsz
  generalize hAe : va_A [(h0, .inr (0, [.ref q83, .ref q84, .ref q89, .ref q95, .ref q101, .ref q107, .ref q116, .ref q120, .ref q124])), (ou, .inl (cL, 1, .inr (.inl (fun _ => 0))))] s.heap.size = A at hC hD ⊢
  have hS : va_S A s.heap s.heap [] := va_S.rf
  have hl := lv_entry ([.ref h0, .int w, .int h, .int sd, .ref ou]) (n := 6) (Nat.le_of_ble_eq_true rfl)
  rw [lg_entry_eq]
  generalize (lg_sl ([.ref h0, .int w, .int h, .int sd, .ref ou]) ++ List.replicate (6 - (lg_sl ([.ref h0, .int w, .int h, .int sd, .ref ou])).length) Slot.unset).toArray = ls at hl ⊢
  have hl : lv_has ls 6 [(0, .ref h0), (1, .int w), (2, .int h), (3, .int sd), (4, .ref ou)] := hl
  refine lv_aload hx hb d_law_frame_0 (lv_at hl 4 rfl) ?_
  refine lv_iconst (v := 0) hx hb d_law_frame_2 (by decide) ?_
  refine lv_aload_n hx hb d_law_frame_3 rfl (lv_at hl 0 rfl) ?_
  refine lv_iload_n hx hb d_law_frame_4 rfl (lv_at hl 1 rfl) ?_
  refine lv_iload_n hx hb d_law_frame_5 rfl (lv_at hl 2 rfl) ?_
  refine lv_iload_n hx hb d_law_frame_6 rfl (lv_at hl 3 rfl) ?_
  have hta := tq_tab (hh := [(0, 12, 15, 13)]) B0 (hts _ List.mem_cons_self)
  refine tq_d1 (As := [.int w, .int h, .int sd]) (rest := [.int 0, .ref ou]) ⟨hx, hb, hml, hown, htw⟩ (c_frame_b3 l hfl D cI cL B _ h0 w h sd (h1) (h2) (h3) (h4) (hbd)) (cwV 3 htw gV_law_7 rfl rfl rfl (by decide +kernel) ⟨Nat.le_of_ble_eq_true rfl, Nat.le_of_ble_eq_true rfl⟩) (wC_preV (As := [.int w, .int h, .int sd]) hC hP hD hS [] (by decide) rfl (q0 := 0) rfl rfl) rfl hl.1 rfl (Nat.le_of_ble_eq_true rfl) d_law_frame_7 ⟨Nat.le_of_ble_eq_true rfl, Nat.le_of_ble_eq_true rfl⟩ hta (by decide) (by decide) (by decide) (htw _ k809) hS (fun a9 H hS => ?_)
  have hP : va_P D classes [] H := fun k q hq => by simp at hq
  have hD : va_D A [] := hD.sub (ws' := []) [] (by decide) rfl
  refine W.widen (k := 1) (n := 6) (by omega) (by omega) ?_
  refine lv_astore (lv' := [(5, .ref a9), (0, .ref h0), (1, .int w), (2, .int h), (3, .int sd), (4, .ref ou)]) hx hb d_law_frame_15 hl (by decide) rfl (fun ls hl => ?_)
  refine lv_iconst (v := 1) hx hb d_law_frame_17 (by decide) ?_
  refine W.widen (k := 1) (n := 6) (Nat.le_of_ble_eq_true rfl) (Nat.le_of_ble_eq_true rfl) ?_
  have hP9 := hP.sub (ws' := []) [] rfl
  have hD9 := hD.sub (ws' := []) [] (by decide) rfl
  exact W.iret (v := 1) hx hb hr (fun t ht hW => ⟨⟨1, (), rfl, rfl, by rw [ht]; exact hP9, va_K.moved hW.alike hC.1, hD9⟩, hS.F ht⟩) hS.2.2 d_law_frame_18
