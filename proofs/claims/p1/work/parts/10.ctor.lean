theorem d_Prg_init_0 : decode prog_8_method_1_code 0 = .ok (.aload_n 0, 1) := by decide +kernel
theorem d_Prg_init_1 : decode prog_8_method_1_code 1 = .ok (.invokespecial 1, 3) := by decide +kernel
theorem d_Prg_init_4 : decode prog_8_method_1_code 4 = .ok (.aload_n 0, 1) := by decide +kernel
theorem d_Prg_init_5 : decode prog_8_method_1_code 5 = .ok (.sipush 768, 3) := by decide +kernel
theorem d_Prg_init_8 : decode prog_8_method_1_code 8 = .ok (.newarray .int, 2) := by decide +kernel
theorem d_Prg_init_10 : decode prog_8_method_1_code 10 = .ok (.putfield 7, 3) := by decide +kernel
theorem d_Prg_init_13 : decode prog_8_method_1_code 13 = .ok (.return_, 1) := by decide +kernel
set_option maxHeartbeats 4000000 in
set_option maxRecDepth 100000 in
theorem c_Prg_init (l : Launch) (D : va_G) (cI cL : ClassId) (B sz : Nat) (h0 : Nat) : Met l y_Prg_init ((Cond.code y_Prg_init prog_8_method_1_code 1 none) :: tw) ({ frames := 20, cells := 1, slots := 768, locals := 2000 }) (va_Pc [.ref h0] (wP D cI cL B sz [(h0, .inr (11, [.null, .int 0, .int 0, .int 0]))])) (va_Qv (S := Nat) (fun _ => True) (fun u => wB D cI cL (va_A [(h0, .inr (11, [.null, .int 0, .int 0, .int 0]))] sz) ((fun q1 : Nat => [(h0, .inr (11, [.ref q1, .int 0, .int 0, .int 0]))]) u)) (va_A [(h0, .inr (11, [.null, .int 0, .int 0, .int 0]))] sz)) 1 768 (va_A [(h0, .inr (11, [.null, .int 0, .int 0, .int 0]))] sz) := by
  refine Met.ofW (cc := prog_8_method_1_code) (maxL := 1) (ret := none) (by decide) rfl ?_
  intro p e s m args below meth c s₁ B0 hml hv
  obtain ⟨rfl, hv⟩ := hv
  have hx := B0.exec
  have hb := B0.bytes
  have hr := B0.returns
  have hts := atoms_spec (ws := (Cond.code y_Prg_init prog_8_method_1_code 1 none) :: tw) B0.pre
  have htw : ∀ w ∈ tw, w.before _ s = true := fun w hw => hts w (List.mem_cons_of_mem _ hw)
  have hown : s.vm.findClass "DrawingMachine$Program" = some m.cls := findClass_of_methodNamed B0.named
  have hlocks := B0.notSynchronized
  have hin : meth.name = "<init>" := (name_of_methodNamed B0.named B0.method).1
  obtain ⟨hC, hP, hD, hsz⟩ := wC_init hv
  subst hsz
  generalize hAe : va_A [(h0, .inr (11, [.null, .int 0, .int 0, .int 0]))] s.heap.size = A at hC hD ⊢
  have hS : va_S A s.heap s.heap [] := va_S.rf
  have hl := lv_entry ([.ref h0]) (n := 1) (Nat.le_of_ble_eq_true rfl)
  rw [lg_entry_eq]
  generalize (lg_sl ([.ref h0]) ++ List.replicate (1 - (lg_sl ([.ref h0])).length) Slot.unset).toArray = ls at hl ⊢
  have hl : lv_has ls 1 [(0, .ref h0)] := hl
  refine lv_aload_n hx hb d_Prg_init_0 rfl (lv_at hl 0 rfl) ?_
  refine W.objInit hx hb hown (htw _ k439) (htw _ k242) (htw _ k243) rfl (by rw [hml]; exact hl.1) rfl d_Prg_init_1 (Nat.le_of_ble_eq_true rfl) (Nat.le_of_ble_eq_true rfl) ?_
  refine W.eq (g2 := F0 m 4 ls []) rfl ?_
  refine lv_aload_n hx hb d_Prg_init_4 rfl (lv_at hl 0 rfl) ?_
  refine lv_sipush (v := 768) hx hb d_Prg_init_5 (by decide) ?_
  refine wna_i hx hb (htw _ k238) hC hP hD hS (N := 768) (by decide) (by omega) (Nat.le_of_ble_eq_true rfl) (Nat.le_of_ble_eq_true rfl) d_Prg_init_8 (fun q1 H hP hD hS => ?_)
  have hP : va_P D classes [(h0, .inr (11, [.null, .int 0, .int 0, .int 0])), (q1, .inl (cI, 768, .inl (fun _ => 0)))] H := hP
  have hD : va_D A [(h0, .inr (11, [.null, .int 0, .int 0, .int 0])), (q1, .inl (cI, 768, .inl (fun _ => 0)))] := hD
  refine W.widen (k := 1) (n := 768) (by omega) (by omega) ?_
  refine va_putF (D := D) (ci := 11) (v := .ref q1) (ty := .array .int) (C := R_Prg) (T := F_Prg) (N := 4) hx hb htw i_Prg t_Prg t_Prg_ok n_Prg hown hC.1 hP hD hS 0 rfl rfl 0 (by decide) (htw _ k440) (fun _ h9 => h9) rfl hin rfl (by decide +kernel) rfl rfl (Nat.le_of_ble_eq_true rfl) d_Prg_init_10 (fun H locs hP hD hS => ?_)
  have hP : va_P D classes [(h0, .inr (11, [.ref q1, .int 0, .int 0, .int 0])), (q1, .inl (cI, 768, .inl (fun _ => 0)))] H := hP
  have hD : va_D A [(h0, .inr (11, [.ref q1, .int 0, .int 0, .int 0])), (q1, .inl (cI, 768, .inl (fun _ => 0)))] := hD
  refine W.widen (k := 1) (n := 768) (Nat.le_of_ble_eq_true rfl) (Nat.le_of_ble_eq_true rfl) ?_
  have hP9 := hP.sub (ws' := [(h0, .inr (11, [.ref q1, .int 0, .int 0, .int 0]))]) [0] rfl
  have hD9 := hD.sub (ws' := [(h0, .inr (11, [.ref q1, .int 0, .int 0, .int 0]))]) [0] (by decide) rfl
  exact W.vret hx hb hr (fun t ht hW => ⟨⟨q1, rfl, trivial, by rw [ht]; exact hP9, va_K.moved hW.alike hC.1, hD9⟩, hS.F ht⟩) hS.2.2 d_Prg_init_13

theorem d_Chk_init_0 : decode prog_2_method_1_code 0 = .ok (.aload_n 0, 1) := by decide +kernel
theorem d_Chk_init_1 : decode prog_2_method_1_code 1 = .ok (.invokespecial 3, 3) := by decide +kernel
theorem d_Chk_init_4 : decode prog_2_method_1_code 4 = .ok (.aload_n 0, 1) := by decide +kernel
theorem d_Chk_init_5 : decode prog_2_method_1_code 5 = .ok (.iconst (-1), 1) := by decide +kernel
theorem d_Chk_init_6 : decode prog_2_method_1_code 6 = .ok (.putfield 9, 3) := by decide +kernel
theorem d_Chk_init_9 : decode prog_2_method_1_code 9 = .ok (.aload_n 0, 1) := by decide +kernel
theorem d_Chk_init_10 : decode prog_2_method_1_code 10 = .ok (.sipush 256, 3) := by decide +kernel
theorem d_Chk_init_13 : decode prog_2_method_1_code 13 = .ok (.newarray .int, 2) := by decide +kernel
theorem d_Chk_init_15 : decode prog_2_method_1_code 15 = .ok (.putfield 15, 3) := by decide +kernel
theorem d_Chk_init_18 : decode prog_2_method_1_code 18 = .ok (.aload_n 0, 1) := by decide +kernel
theorem d_Chk_init_19 : decode prog_2_method_1_code 19 = .ok (.iconst 4, 1) := by decide +kernel
theorem d_Chk_init_20 : decode prog_2_method_1_code 20 = .ok (.newarray .int, 2) := by decide +kernel
theorem d_Chk_init_22 : decode prog_2_method_1_code 22 = .ok (.putfield 19, 3) := by decide +kernel
theorem d_Chk_init_25 : decode prog_2_method_1_code 25 = .ok (.aload_n 0, 1) := by decide +kernel
theorem d_Chk_init_26 : decode prog_2_method_1_code 26 = .ok (.iconst 5, 1) := by decide +kernel
theorem d_Chk_init_27 : decode prog_2_method_1_code 27 = .ok (.newarray .long, 2) := by decide +kernel
theorem d_Chk_init_29 : decode prog_2_method_1_code 29 = .ok (.putfield 22, 3) := by decide +kernel
theorem d_Chk_init_32 : decode prog_2_method_1_code 32 = .ok (.return_, 1) := by decide +kernel
set_option maxHeartbeats 4000000 in
set_option maxRecDepth 100000 in
theorem c_Chk_init (l : Launch) (D : va_G) (cI cL : ClassId) (B sz : Nat) (h0 : Nat) : Met l y_Chk_init ((Cond.code y_Chk_init prog_2_method_1_code 1 none) :: tw) ({ frames := 20, cells := 3, slots := 265, locals := 2000 }) (va_Pc [.ref h0] (wP D cI cL B sz [(h0, .inr (4, [.int 0, .int 0, .null, .null, .null, .int 0, .long 0]))])) (va_Qv (S := Nat × Nat × Nat) (fun _ => True) (fun u => wB D cI cL (va_A [(h0, .inr (4, [.int 0, .int 0, .null, .null, .null, .int 0, .long 0]))] sz) ((fun u : Nat × Nat × Nat => match u with | (q2, q3, q4) => [(h0, .inr (4, [.int 0, .int (-1), .ref q2, .ref q3, .ref q4, .int 0, .long 0]))]) u)) (va_A [(h0, .inr (4, [.int 0, .int 0, .null, .null, .null, .int 0, .long 0]))] sz)) 3 265 (va_A [(h0, .inr (4, [.int 0, .int 0, .null, .null, .null, .int 0, .long 0]))] sz) := by
  refine Met.ofW (cc := prog_2_method_1_code) (maxL := 1) (ret := none) (by decide) rfl ?_
  intro p e s m args below meth c s₁ B0 hml hv
  obtain ⟨rfl, hv⟩ := hv
  have hx := B0.exec
  have hb := B0.bytes
  have hr := B0.returns
  have hts := atoms_spec (ws := (Cond.code y_Chk_init prog_2_method_1_code 1 none) :: tw) B0.pre
  have htw : ∀ w ∈ tw, w.before _ s = true := fun w hw => hts w (List.mem_cons_of_mem _ hw)
  have hown : s.vm.findClass "DrawingMachine$Checker" = some m.cls := findClass_of_methodNamed B0.named
  have hlocks := B0.notSynchronized
  have hin : meth.name = "<init>" := (name_of_methodNamed B0.named B0.method).1
  obtain ⟨hC, hP, hD, hsz⟩ := wC_init hv
  subst hsz
  generalize hAe : va_A [(h0, .inr (4, [.int 0, .int 0, .null, .null, .null, .int 0, .long 0]))] s.heap.size = A at hC hD ⊢
  have hS : va_S A s.heap s.heap [] := va_S.rf
  have hl := lv_entry ([.ref h0]) (n := 1) (Nat.le_of_ble_eq_true rfl)
  rw [lg_entry_eq]
  generalize (lg_sl ([.ref h0]) ++ List.replicate (1 - (lg_sl ([.ref h0])).length) Slot.unset).toArray = ls at hl ⊢
  have hl : lv_has ls 1 [(0, .ref h0)] := hl
  refine lv_aload_n hx hb d_Chk_init_0 rfl (lv_at hl 0 rfl) ?_
  refine W.objInit hx hb hown (htw _ k434) (htw _ k242) (htw _ k243) rfl (by rw [hml]; exact hl.1) rfl d_Chk_init_1 (Nat.le_of_ble_eq_true rfl) (Nat.le_of_ble_eq_true rfl) ?_
  refine W.eq (g2 := F0 m 4 ls []) rfl ?_
  refine lv_aload_n hx hb d_Chk_init_4 rfl (lv_at hl 0 rfl) ?_
  refine lv_iconst (v := (-1)) hx hb d_Chk_init_5 (by decide) ?_
  refine va_put (D := D) (ci := 4) (v := .int (-1)) (ty := .int) (C := R_Chk) (T := F_Chk) (N := 7) hx hb htw i_Chk t_Chk t_Chk_ok n_Chk hown hC.1 hP hD hS 0 rfl rfl 1 (by decide) (htw _ k435) (fun _ h9 => h9) rfl (by decide +kernel) rfl rfl (Nat.le_of_ble_eq_true rfl) d_Chk_init_6 (fun H locs hP hD hS => ?_)
  have hP : va_P D classes [(h0, .inr (4, [.int 0, .int (-1), .null, .null, .null, .int 0, .long 0]))] H := hP
  have hD : va_D A [(h0, .inr (4, [.int 0, .int (-1), .null, .null, .null, .int 0, .long 0]))] := hD
  refine lv_aload_n hx hb d_Chk_init_9 rfl (lv_at hl 0 rfl) ?_
  refine lv_sipush (v := 256) hx hb d_Chk_init_10 (by decide) ?_
  refine wna_i hx hb (htw _ k238) hC hP hD hS (N := 256) (by decide) (by omega) (Nat.le_of_ble_eq_true rfl) (Nat.le_of_ble_eq_true rfl) d_Chk_init_13 (fun q2 H hP hD hS => ?_)
  have hP : va_P D classes [(h0, .inr (4, [.int 0, .int (-1), .null, .null, .null, .int 0, .long 0])), (q2, .inl (cI, 256, .inl (fun _ => 0)))] H := hP
  have hD : va_D A [(h0, .inr (4, [.int 0, .int (-1), .null, .null, .null, .int 0, .long 0])), (q2, .inl (cI, 256, .inl (fun _ => 0)))] := hD
  refine W.widen (k := 1) (n := 256) (by omega) (by omega) ?_
  refine va_putF (D := D) (ci := 4) (v := .ref q2) (ty := .array .int) (C := R_Chk) (T := F_Chk) (N := 7) hx hb htw i_Chk t_Chk t_Chk_ok n_Chk hown hC.1 hP hD hS 0 rfl rfl 2 (by decide) (htw _ k436) (fun _ h9 => h9) rfl hin rfl (by decide +kernel) rfl rfl (Nat.le_of_ble_eq_true rfl) d_Chk_init_15 (fun H locs hP hD hS => ?_)
  have hP : va_P D classes [(h0, .inr (4, [.int 0, .int (-1), .ref q2, .null, .null, .int 0, .long 0])), (q2, .inl (cI, 256, .inl (fun _ => 0)))] H := hP
  have hD : va_D A [(h0, .inr (4, [.int 0, .int (-1), .ref q2, .null, .null, .int 0, .long 0])), (q2, .inl (cI, 256, .inl (fun _ => 0)))] := hD
  refine lv_aload_n hx hb d_Chk_init_18 rfl (lv_at hl 0 rfl) ?_
  refine lv_iconst (v := 4) hx hb d_Chk_init_19 (by decide) ?_
  refine wna_i hx hb (htw _ k238) hC hP hD hS (N := 4) (by decide) (by omega) (Nat.le_of_ble_eq_true rfl) (Nat.le_of_ble_eq_true rfl) d_Chk_init_20 (fun q3 H hP hD hS => ?_)
  have hP : va_P D classes [(h0, .inr (4, [.int 0, .int (-1), .ref q2, .null, .null, .int 0, .long 0])), (q2, .inl (cI, 256, .inl (fun _ => 0))), (q3, .inl (cI, 4, .inl (fun _ => 0)))] H := hP
  have hD : va_D A [(h0, .inr (4, [.int 0, .int (-1), .ref q2, .null, .null, .int 0, .long 0])), (q2, .inl (cI, 256, .inl (fun _ => 0))), (q3, .inl (cI, 4, .inl (fun _ => 0)))] := hD
  refine W.widen (k := 2) (n := 260) (by omega) (by omega) ?_
  refine va_putF (D := D) (ci := 4) (v := .ref q3) (ty := .array .int) (C := R_Chk) (T := F_Chk) (N := 7) hx hb htw i_Chk t_Chk t_Chk_ok n_Chk hown hC.1 hP hD hS 0 rfl rfl 3 (by decide) (htw _ k437) (fun _ h9 => h9) rfl hin rfl (by decide +kernel) rfl rfl (Nat.le_of_ble_eq_true rfl) d_Chk_init_22 (fun H locs hP hD hS => ?_)
  have hP : va_P D classes [(h0, .inr (4, [.int 0, .int (-1), .ref q2, .ref q3, .null, .int 0, .long 0])), (q2, .inl (cI, 256, .inl (fun _ => 0))), (q3, .inl (cI, 4, .inl (fun _ => 0)))] H := hP
  have hD : va_D A [(h0, .inr (4, [.int 0, .int (-1), .ref q2, .ref q3, .null, .int 0, .long 0])), (q2, .inl (cI, 256, .inl (fun _ => 0))), (q3, .inl (cI, 4, .inl (fun _ => 0)))] := hD
  refine lv_aload_n hx hb d_Chk_init_25 rfl (lv_at hl 0 rfl) ?_
  refine lv_iconst (v := 5) hx hb d_Chk_init_26 (by decide) ?_
  refine wna_l hx hb (htw _ k239) hC hP hD hS (N := 5) (by decide) (by omega) (Nat.le_of_ble_eq_true rfl) (Nat.le_of_ble_eq_true rfl) d_Chk_init_27 (fun q4 H hP hD hS => ?_)
  have hP : va_P D classes [(h0, .inr (4, [.int 0, .int (-1), .ref q2, .ref q3, .null, .int 0, .long 0])), (q2, .inl (cI, 256, .inl (fun _ => 0))), (q3, .inl (cI, 4, .inl (fun _ => 0))), (q4, .inl (cL, 5, .inr (.inl (fun _ => 0))))] H := hP
  have hD : va_D A [(h0, .inr (4, [.int 0, .int (-1), .ref q2, .ref q3, .null, .int 0, .long 0])), (q2, .inl (cI, 256, .inl (fun _ => 0))), (q3, .inl (cI, 4, .inl (fun _ => 0))), (q4, .inl (cL, 5, .inr (.inl (fun _ => 0))))] := hD
  refine W.widen (k := 3) (n := 265) (by omega) (by omega) ?_
  refine va_putF (D := D) (ci := 4) (v := .ref q4) (ty := .array .long) (C := R_Chk) (T := F_Chk) (N := 7) hx hb htw i_Chk t_Chk t_Chk_ok n_Chk hown hC.1 hP hD hS 0 rfl rfl 4 (by decide) (htw _ k438) (fun _ h9 => h9) rfl hin rfl (by decide +kernel) rfl rfl (Nat.le_of_ble_eq_true rfl) d_Chk_init_29 (fun H locs hP hD hS => ?_)
  have hP : va_P D classes [(h0, .inr (4, [.int 0, .int (-1), .ref q2, .ref q3, .ref q4, .int 0, .long 0])), (q2, .inl (cI, 256, .inl (fun _ => 0))), (q3, .inl (cI, 4, .inl (fun _ => 0))), (q4, .inl (cL, 5, .inr (.inl (fun _ => 0))))] H := hP
  have hD : va_D A [(h0, .inr (4, [.int 0, .int (-1), .ref q2, .ref q3, .ref q4, .int 0, .long 0])), (q2, .inl (cI, 256, .inl (fun _ => 0))), (q3, .inl (cI, 4, .inl (fun _ => 0))), (q4, .inl (cL, 5, .inr (.inl (fun _ => 0))))] := hD
  refine W.widen (k := 3) (n := 265) (Nat.le_of_ble_eq_true rfl) (Nat.le_of_ble_eq_true rfl) ?_
  have hP9 := hP.sub (ws' := [(h0, .inr (4, [.int 0, .int (-1), .ref q2, .ref q3, .ref q4, .int 0, .long 0]))]) [0] rfl
  have hD9 := hD.sub (ws' := [(h0, .inr (4, [.int 0, .int (-1), .ref q2, .ref q3, .ref q4, .int 0, .long 0]))]) [0] (by decide) rfl
  exact W.vret hx hb hr (fun t ht hW => ⟨⟨(q2, q3, q4), rfl, trivial, by rw [ht]; exact hP9, va_K.moved hW.alike hC.1, hD9⟩, hS.F ht⟩) hS.2.2 d_Chk_init_32

theorem d_Cou_init_0 : decode prog_3_method_1_code 0 = .ok (.aload_n 0, 1) := by decide +kernel
theorem d_Cou_init_1 : decode prog_3_method_1_code 1 = .ok (.invokespecial 3, 3) := by decide +kernel
theorem d_Cou_init_4 : decode prog_3_method_1_code 4 = .ok (.aload_n 0, 1) := by decide +kernel
theorem d_Cou_init_5 : decode prog_3_method_1_code 5 = .ok (.bipush 8, 2) := by decide +kernel
theorem d_Cou_init_7 : decode prog_3_method_1_code 7 = .ok (.newarray .int, 2) := by decide +kernel
theorem d_Cou_init_9 : decode prog_3_method_1_code 9 = .ok (.putfield 9, 3) := by decide +kernel
theorem d_Cou_init_12 : decode prog_3_method_1_code 12 = .ok (.aload_n 0, 1) := by decide +kernel
theorem d_Cou_init_13 : decode prog_3_method_1_code 13 = .ok (.iconst (-1), 1) := by decide +kernel
theorem d_Cou_init_14 : decode prog_3_method_1_code 14 = .ok (.putfield 15, 3) := by decide +kernel
theorem d_Cou_init_17 : decode prog_3_method_1_code 17 = .ok (.aload_n 0, 1) := by decide +kernel
theorem d_Cou_init_18 : decode prog_3_method_1_code 18 = .ok (.iconst (-1), 1) := by decide +kernel
theorem d_Cou_init_19 : decode prog_3_method_1_code 19 = .ok (.putfield 19, 3) := by decide +kernel
theorem d_Cou_init_22 : decode prog_3_method_1_code 22 = .ok (.aload_n 0, 1) := by decide +kernel
theorem d_Cou_init_23 : decode prog_3_method_1_code 23 = .ok (.iconst 4, 1) := by decide +kernel
theorem d_Cou_init_24 : decode prog_3_method_1_code 24 = .ok (.newarray .int, 2) := by decide +kernel
theorem d_Cou_init_26 : decode prog_3_method_1_code 26 = .ok (.putfield 22, 3) := by decide +kernel
theorem d_Cou_init_29 : decode prog_3_method_1_code 29 = .ok (.aload_n 0, 1) := by decide +kernel
theorem d_Cou_init_30 : decode prog_3_method_1_code 30 = .ok (.bipush 64, 2) := by decide +kernel
theorem d_Cou_init_32 : decode prog_3_method_1_code 32 = .ok (.newarray .int, 2) := by decide +kernel
theorem d_Cou_init_34 : decode prog_3_method_1_code 34 = .ok (.putfield 25, 3) := by decide +kernel
theorem d_Cou_init_37 : decode prog_3_method_1_code 37 = .ok (.aload_n 0, 1) := by decide +kernel
theorem d_Cou_init_38 : decode prog_3_method_1_code 38 = .ok (.aload_n 1, 1) := by decide +kernel
theorem d_Cou_init_39 : decode prog_3_method_1_code 39 = .ok (.putfield 28, 3) := by decide +kernel
theorem d_Cou_init_42 : decode prog_3_method_1_code 42 = .ok (.return_, 1) := by decide +kernel
set_option maxHeartbeats 4000000 in
set_option maxRecDepth 100000 in
theorem c_Cou_init (l : Launch) (D : va_G) (cI cL : ClassId) (B sz : Nat) (h0 : Nat) (me : Nat) : Met l y_Cou_init ((Cond.code y_Cou_init prog_3_method_1_code 2 none) :: tw) ({ frames := 20, cells := 3, slots := 76, locals := 2000 }) (va_Pc [.ref h0, .ref me] (wP D cI cL B sz [(h0, .inr (3, [.null, .int 0, .int 0, .int 0, .int 0, .int 0, .int 0, .int 0, .int 0, .long 0, .null, .null, .null, .int 0, .int 0]))])) (va_Qv (S := Nat × Nat × Nat) (fun _ => True) (fun u => wB D cI cL (va_A [(h0, .inr (3, [.null, .int 0, .int 0, .int 0, .int 0, .int 0, .int 0, .int 0, .int 0, .long 0, .null, .null, .null, .int 0, .int 0]))] sz) ((fun u : Nat × Nat × Nat => match u with | (q5, q6, q7) => [(h0, .inr (3, [.ref q5, .int 0, .int 0, .int 0, .int 0, .int 0, .int (-1), .int (-1), .int 0, .long 0, .ref me, .ref q6, .ref q7, .int 0, .int 0])), (q5, .inl (cI, 8, .inl (fun _ => 0))), (q7, .inl (cI, 64, .inl (fun _ => 0)))]) u)) (va_A [(h0, .inr (3, [.null, .int 0, .int 0, .int 0, .int 0, .int 0, .int 0, .int 0, .int 0, .long 0, .null, .null, .null, .int 0, .int 0]))] sz)) 3 76 (va_A [(h0, .inr (3, [.null, .int 0, .int 0, .int 0, .int 0, .int 0, .int 0, .int 0, .int 0, .long 0, .null, .null, .null, .int 0, .int 0]))] sz) := by
  refine Met.ofW (cc := prog_3_method_1_code) (maxL := 2) (ret := none) (by decide) rfl ?_
  intro p e s m args below meth c s₁ B0 hml hv
  obtain ⟨rfl, hv⟩ := hv
  have hx := B0.exec
  have hb := B0.bytes
  have hr := B0.returns
  have hts := atoms_spec (ws := (Cond.code y_Cou_init prog_3_method_1_code 2 none) :: tw) B0.pre
  have htw : ∀ w ∈ tw, w.before _ s = true := fun w hw => hts w (List.mem_cons_of_mem _ hw)
  have hown : s.vm.findClass "DrawingMachine$Course" = some m.cls := findClass_of_methodNamed B0.named
  have hlocks := B0.notSynchronized
  have hin : meth.name = "<init>" := (name_of_methodNamed B0.named B0.method).1
  obtain ⟨hC, hP, hD, hsz⟩ := wC_init hv
  subst hsz
  generalize hAe : va_A [(h0, .inr (3, [.null, .int 0, .int 0, .int 0, .int 0, .int 0, .int 0, .int 0, .int 0, .long 0, .null, .null, .null, .int 0, .int 0]))] s.heap.size = A at hC hD ⊢
  have hS : va_S A s.heap s.heap [] := va_S.rf
  have hl := lv_entry ([.ref h0, .ref me]) (n := 2) (Nat.le_of_ble_eq_true rfl)
  rw [lg_entry_eq]
  generalize (lg_sl ([.ref h0, .ref me]) ++ List.replicate (2 - (lg_sl ([.ref h0, .ref me])).length) Slot.unset).toArray = ls at hl ⊢
  have hl : lv_has ls 2 [(0, .ref h0), (1, .ref me)] := hl
  refine lv_aload_n hx hb d_Cou_init_0 rfl (lv_at hl 0 rfl) ?_
  refine W.objInit hx hb hown (htw _ k408) (htw _ k242) (htw _ k243) rfl (by rw [hml]; exact hl.1) rfl d_Cou_init_1 (Nat.le_of_ble_eq_true rfl) (Nat.le_of_ble_eq_true rfl) ?_
  refine W.eq (g2 := F0 m 4 ls []) rfl ?_
  refine lv_aload_n hx hb d_Cou_init_4 rfl (lv_at hl 0 rfl) ?_
  refine lv_bipush (v := 8) hx hb d_Cou_init_5 (by decide) ?_
  refine wna_i hx hb (htw _ k238) hC hP hD hS (N := 8) (by decide) (by omega) (Nat.le_of_ble_eq_true rfl) (Nat.le_of_ble_eq_true rfl) d_Cou_init_7 (fun q5 H hP hD hS => ?_)
  have hP : va_P D classes [(h0, .inr (3, [.null, .int 0, .int 0, .int 0, .int 0, .int 0, .int 0, .int 0, .int 0, .long 0, .null, .null, .null, .int 0, .int 0])), (q5, .inl (cI, 8, .inl (fun _ => 0)))] H := hP
  have hD : va_D A [(h0, .inr (3, [.null, .int 0, .int 0, .int 0, .int 0, .int 0, .int 0, .int 0, .int 0, .long 0, .null, .null, .null, .int 0, .int 0])), (q5, .inl (cI, 8, .inl (fun _ => 0)))] := hD
  refine W.widen (k := 1) (n := 8) (by omega) (by omega) ?_
  refine va_putF (D := D) (ci := 3) (v := .ref q5) (ty := .array .int) (C := R_Cou) (T := F_Cou) (N := 15) hx hb htw i_Cou t_Cou t_Cou_ok n_Cou hown hC.1 hP hD hS 0 rfl rfl 0 (by decide) (htw _ k409) (fun _ h9 => h9) rfl hin rfl (by decide +kernel) rfl rfl (Nat.le_of_ble_eq_true rfl) d_Cou_init_9 (fun H locs hP hD hS => ?_)
  have hP : va_P D classes [(h0, .inr (3, [.ref q5, .int 0, .int 0, .int 0, .int 0, .int 0, .int 0, .int 0, .int 0, .long 0, .null, .null, .null, .int 0, .int 0])), (q5, .inl (cI, 8, .inl (fun _ => 0)))] H := hP
  have hD : va_D A [(h0, .inr (3, [.ref q5, .int 0, .int 0, .int 0, .int 0, .int 0, .int 0, .int 0, .int 0, .long 0, .null, .null, .null, .int 0, .int 0])), (q5, .inl (cI, 8, .inl (fun _ => 0)))] := hD
  refine lv_aload_n hx hb d_Cou_init_12 rfl (lv_at hl 0 rfl) ?_
  refine lv_iconst (v := (-1)) hx hb d_Cou_init_13 (by decide) ?_
  refine va_put (D := D) (ci := 3) (v := .int (-1)) (ty := .int) (C := R_Cou) (T := F_Cou) (N := 15) hx hb htw i_Cou t_Cou t_Cou_ok n_Cou hown hC.1 hP hD hS 0 rfl rfl 6 (by decide) (htw _ k410) (fun _ h9 => h9) rfl (by decide +kernel) rfl rfl (Nat.le_of_ble_eq_true rfl) d_Cou_init_14 (fun H locs hP hD hS => ?_)
  have hP : va_P D classes [(h0, .inr (3, [.ref q5, .int 0, .int 0, .int 0, .int 0, .int 0, .int (-1), .int 0, .int 0, .long 0, .null, .null, .null, .int 0, .int 0])), (q5, .inl (cI, 8, .inl (fun _ => 0)))] H := hP
  have hD : va_D A [(h0, .inr (3, [.ref q5, .int 0, .int 0, .int 0, .int 0, .int 0, .int (-1), .int 0, .int 0, .long 0, .null, .null, .null, .int 0, .int 0])), (q5, .inl (cI, 8, .inl (fun _ => 0)))] := hD
  refine lv_aload_n hx hb d_Cou_init_17 rfl (lv_at hl 0 rfl) ?_
  refine lv_iconst (v := (-1)) hx hb d_Cou_init_18 (by decide) ?_
  refine va_put (D := D) (ci := 3) (v := .int (-1)) (ty := .int) (C := R_Cou) (T := F_Cou) (N := 15) hx hb htw i_Cou t_Cou t_Cou_ok n_Cou hown hC.1 hP hD hS 0 rfl rfl 7 (by decide) (htw _ k411) (fun _ h9 => h9) rfl (by decide +kernel) rfl rfl (Nat.le_of_ble_eq_true rfl) d_Cou_init_19 (fun H locs hP hD hS => ?_)
  have hP : va_P D classes [(h0, .inr (3, [.ref q5, .int 0, .int 0, .int 0, .int 0, .int 0, .int (-1), .int (-1), .int 0, .long 0, .null, .null, .null, .int 0, .int 0])), (q5, .inl (cI, 8, .inl (fun _ => 0)))] H := hP
  have hD : va_D A [(h0, .inr (3, [.ref q5, .int 0, .int 0, .int 0, .int 0, .int 0, .int (-1), .int (-1), .int 0, .long 0, .null, .null, .null, .int 0, .int 0])), (q5, .inl (cI, 8, .inl (fun _ => 0)))] := hD
  refine lv_aload_n hx hb d_Cou_init_22 rfl (lv_at hl 0 rfl) ?_
  refine lv_iconst (v := 4) hx hb d_Cou_init_23 (by decide) ?_
  refine wna_i hx hb (htw _ k238) hC hP hD hS (N := 4) (by decide) (by omega) (Nat.le_of_ble_eq_true rfl) (Nat.le_of_ble_eq_true rfl) d_Cou_init_24 (fun q6 H hP hD hS => ?_)
  have hP : va_P D classes [(h0, .inr (3, [.ref q5, .int 0, .int 0, .int 0, .int 0, .int 0, .int (-1), .int (-1), .int 0, .long 0, .null, .null, .null, .int 0, .int 0])), (q5, .inl (cI, 8, .inl (fun _ => 0))), (q6, .inl (cI, 4, .inl (fun _ => 0)))] H := hP
  have hD : va_D A [(h0, .inr (3, [.ref q5, .int 0, .int 0, .int 0, .int 0, .int 0, .int (-1), .int (-1), .int 0, .long 0, .null, .null, .null, .int 0, .int 0])), (q5, .inl (cI, 8, .inl (fun _ => 0))), (q6, .inl (cI, 4, .inl (fun _ => 0)))] := hD
  refine W.widen (k := 2) (n := 12) (by omega) (by omega) ?_
  refine va_putF (D := D) (ci := 3) (v := .ref q6) (ty := .array .int) (C := R_Cou) (T := F_Cou) (N := 15) hx hb htw i_Cou t_Cou t_Cou_ok n_Cou hown hC.1 hP hD hS 0 rfl rfl 11 (by decide) (htw _ k412) (fun _ h9 => h9) rfl hin rfl (by decide +kernel) rfl rfl (Nat.le_of_ble_eq_true rfl) d_Cou_init_26 (fun H locs hP hD hS => ?_)
  have hP : va_P D classes [(h0, .inr (3, [.ref q5, .int 0, .int 0, .int 0, .int 0, .int 0, .int (-1), .int (-1), .int 0, .long 0, .null, .ref q6, .null, .int 0, .int 0])), (q5, .inl (cI, 8, .inl (fun _ => 0))), (q6, .inl (cI, 4, .inl (fun _ => 0)))] H := hP
  have hD : va_D A [(h0, .inr (3, [.ref q5, .int 0, .int 0, .int 0, .int 0, .int 0, .int (-1), .int (-1), .int 0, .long 0, .null, .ref q6, .null, .int 0, .int 0])), (q5, .inl (cI, 8, .inl (fun _ => 0))), (q6, .inl (cI, 4, .inl (fun _ => 0)))] := hD
  refine lv_aload_n hx hb d_Cou_init_29 rfl (lv_at hl 0 rfl) ?_
  refine lv_bipush (v := 64) hx hb d_Cou_init_30 (by decide) ?_
  refine wna_i hx hb (htw _ k238) hC hP hD hS (N := 64) (by decide) (by omega) (Nat.le_of_ble_eq_true rfl) (Nat.le_of_ble_eq_true rfl) d_Cou_init_32 (fun q7 H hP hD hS => ?_)
  have hP : va_P D classes [(h0, .inr (3, [.ref q5, .int 0, .int 0, .int 0, .int 0, .int 0, .int (-1), .int (-1), .int 0, .long 0, .null, .ref q6, .null, .int 0, .int 0])), (q5, .inl (cI, 8, .inl (fun _ => 0))), (q6, .inl (cI, 4, .inl (fun _ => 0))), (q7, .inl (cI, 64, .inl (fun _ => 0)))] H := hP
  have hD : va_D A [(h0, .inr (3, [.ref q5, .int 0, .int 0, .int 0, .int 0, .int 0, .int (-1), .int (-1), .int 0, .long 0, .null, .ref q6, .null, .int 0, .int 0])), (q5, .inl (cI, 8, .inl (fun _ => 0))), (q6, .inl (cI, 4, .inl (fun _ => 0))), (q7, .inl (cI, 64, .inl (fun _ => 0)))] := hD
  refine W.widen (k := 3) (n := 76) (by omega) (by omega) ?_
  refine va_put (D := D) (ci := 3) (v := .ref q7) (ty := .array .int) (C := R_Cou) (T := F_Cou) (N := 15) hx hb htw i_Cou t_Cou t_Cou_ok n_Cou hown hC.1 hP hD hS 0 rfl rfl 12 (by decide) (htw _ k413) (fun _ h9 => h9) rfl (by decide +kernel) rfl rfl (Nat.le_of_ble_eq_true rfl) d_Cou_init_34 (fun H locs hP hD hS => ?_)
  have hP : va_P D classes [(h0, .inr (3, [.ref q5, .int 0, .int 0, .int 0, .int 0, .int 0, .int (-1), .int (-1), .int 0, .long 0, .null, .ref q6, .ref q7, .int 0, .int 0])), (q5, .inl (cI, 8, .inl (fun _ => 0))), (q6, .inl (cI, 4, .inl (fun _ => 0))), (q7, .inl (cI, 64, .inl (fun _ => 0)))] H := hP
  have hD : va_D A [(h0, .inr (3, [.ref q5, .int 0, .int 0, .int 0, .int 0, .int 0, .int (-1), .int (-1), .int 0, .long 0, .null, .ref q6, .ref q7, .int 0, .int 0])), (q5, .inl (cI, 8, .inl (fun _ => 0))), (q6, .inl (cI, 4, .inl (fun _ => 0))), (q7, .inl (cI, 64, .inl (fun _ => 0)))] := hD
  refine lv_aload_n hx hb d_Cou_init_37 rfl (lv_at hl 0 rfl) ?_
  refine lv_aload_n hx hb d_Cou_init_38 rfl (lv_at hl 1 rfl) ?_
  refine va_putF (D := D) (ci := 3) (v := .ref me) (ty := .array .int) (C := R_Cou) (T := F_Cou) (N := 15) hx hb htw i_Cou t_Cou t_Cou_ok n_Cou hown hC.1 hP hD hS 0 rfl rfl 10 (by decide) (htw _ k414) (fun _ h9 => h9) rfl hin rfl (by decide +kernel) rfl rfl (Nat.le_of_ble_eq_true rfl) d_Cou_init_39 (fun H locs hP hD hS => ?_)
  have hP : va_P D classes [(h0, .inr (3, [.ref q5, .int 0, .int 0, .int 0, .int 0, .int 0, .int (-1), .int (-1), .int 0, .long 0, .ref me, .ref q6, .ref q7, .int 0, .int 0])), (q5, .inl (cI, 8, .inl (fun _ => 0))), (q6, .inl (cI, 4, .inl (fun _ => 0))), (q7, .inl (cI, 64, .inl (fun _ => 0)))] H := hP
  have hD : va_D A [(h0, .inr (3, [.ref q5, .int 0, .int 0, .int 0, .int 0, .int 0, .int (-1), .int (-1), .int 0, .long 0, .ref me, .ref q6, .ref q7, .int 0, .int 0])), (q5, .inl (cI, 8, .inl (fun _ => 0))), (q6, .inl (cI, 4, .inl (fun _ => 0))), (q7, .inl (cI, 64, .inl (fun _ => 0)))] := hD
  refine W.widen (k := 3) (n := 76) (Nat.le_of_ble_eq_true rfl) (Nat.le_of_ble_eq_true rfl) ?_
  have hP9 := hP.sub (ws' := [(h0, .inr (3, [.ref q5, .int 0, .int 0, .int 0, .int 0, .int 0, .int (-1), .int (-1), .int 0, .long 0, .ref me, .ref q6, .ref q7, .int 0, .int 0])), (q5, .inl (cI, 8, .inl (fun _ => 0))), (q7, .inl (cI, 64, .inl (fun _ => 0)))]) [0, 1, 3] rfl
  have hD9 := hD.sub (ws' := [(h0, .inr (3, [.ref q5, .int 0, .int 0, .int 0, .int 0, .int 0, .int (-1), .int (-1), .int 0, .long 0, .ref me, .ref q6, .ref q7, .int 0, .int 0])), (q5, .inl (cI, 8, .inl (fun _ => 0))), (q7, .inl (cI, 64, .inl (fun _ => 0)))]) [0, 1, 3] (by decide) rfl
  exact W.vret hx hb hr (fun t ht hW => ⟨⟨(q5, q6, q7), rfl, trivial, by rw [ht]; exact hP9, va_K.moved hW.alike hC.1, hD9⟩, hS.F ht⟩) hS.2.2 d_Cou_init_42

theorem d_Tex_init_0 : decode prog_10_method_1_code 0 = .ok (.aload_n 0, 1) := by decide +kernel
theorem d_Tex_init_1 : decode prog_10_method_1_code 1 = .ok (.invokespecial 3, 3) := by decide +kernel
theorem d_Tex_init_4 : decode prog_10_method_1_code 4 = .ok (.aload_n 0, 1) := by decide +kernel
theorem d_Tex_init_5 : decode prog_10_method_1_code 5 = .ok (.iconst 4, 1) := by decide +kernel
theorem d_Tex_init_6 : decode prog_10_method_1_code 6 = .ok (.newarray .int, 2) := by decide +kernel
theorem d_Tex_init_8 : decode prog_10_method_1_code 8 = .ok (.putfield 9, 3) := by decide +kernel
theorem d_Tex_init_11 : decode prog_10_method_1_code 11 = .ok (.aload_n 0, 1) := by decide +kernel
theorem d_Tex_init_12 : decode prog_10_method_1_code 12 = .ok (.iconst 4, 1) := by decide +kernel
theorem d_Tex_init_13 : decode prog_10_method_1_code 13 = .ok (.newarray .int, 2) := by decide +kernel
theorem d_Tex_init_15 : decode prog_10_method_1_code 15 = .ok (.putfield 15, 3) := by decide +kernel
theorem d_Tex_init_18 : decode prog_10_method_1_code 18 = .ok (.aload_n 0, 1) := by decide +kernel
theorem d_Tex_init_19 : decode prog_10_method_1_code 19 = .ok (.iconst 4, 1) := by decide +kernel
theorem d_Tex_init_20 : decode prog_10_method_1_code 20 = .ok (.newarray .int, 2) := by decide +kernel
theorem d_Tex_init_22 : decode prog_10_method_1_code 22 = .ok (.putfield 18, 3) := by decide +kernel
theorem d_Tex_init_25 : decode prog_10_method_1_code 25 = .ok (.aload_n 0, 1) := by decide +kernel
theorem d_Tex_init_26 : decode prog_10_method_1_code 26 = .ok (.iconst 4, 1) := by decide +kernel
theorem d_Tex_init_27 : decode prog_10_method_1_code 27 = .ok (.newarray .int, 2) := by decide +kernel
theorem d_Tex_init_29 : decode prog_10_method_1_code 29 = .ok (.putfield 21, 3) := by decide +kernel
theorem d_Tex_init_32 : decode prog_10_method_1_code 32 = .ok (.aload_n 0, 1) := by decide +kernel
theorem d_Tex_init_33 : decode prog_10_method_1_code 33 = .ok (.aload_n 1, 1) := by decide +kernel
theorem d_Tex_init_34 : decode prog_10_method_1_code 34 = .ok (.putfield 24, 3) := by decide +kernel
theorem d_Tex_init_37 : decode prog_10_method_1_code 37 = .ok (.aload_n 0, 1) := by decide +kernel
theorem d_Tex_init_38 : decode prog_10_method_1_code 38 = .ok (.aload_n 2, 1) := by decide +kernel
theorem d_Tex_init_39 : decode prog_10_method_1_code 39 = .ok (.getfield 27, 3) := by decide +kernel
theorem d_Tex_init_42 : decode prog_10_method_1_code 42 = .ok (.putfield 32, 3) := by decide +kernel
theorem d_Tex_init_45 : decode prog_10_method_1_code 45 = .ok (.return_, 1) := by decide +kernel
set_option maxHeartbeats 4000000 in
set_option maxRecDepth 100000 in
theorem c_Tex_init (l : Launch) (D : va_G) (cI cL : ClassId) (B sz : Nat) (h0 : Nat) (me : Nat) (to : Nat) (ke : Nat) : Met l y_Tex_init ((Cond.code y_Tex_init prog_10_method_1_code 3 none) :: tw) ({ frames := 20, cells := 4, slots := 16, locals := 2000 }) (va_Pc [.ref h0, .ref me, .ref to] (wP D cI cL B sz [(h0, .inr (7, [.null, .null, .null, .null, .null, .null])), (to, .inr (1, [.ref ke]))])) (va_Qv (S := Unit) (fun _ => True) (fun u => wB D cI cL (va_A [(h0, .inr (7, [.null, .null, .null, .null, .null, .null])), (to, .inr (1, [.ref ke]))] sz) ((fun _ : Unit => [(to, .inr (1, [.ref ke]))]) u)) (va_A [(h0, .inr (7, [.null, .null, .null, .null, .null, .null])), (to, .inr (1, [.ref ke]))] sz)) 4 16 (va_A [(h0, .inr (7, [.null, .null, .null, .null, .null, .null])), (to, .inr (1, [.ref ke]))] sz) := by
  refine Met.ofW (cc := prog_10_method_1_code) (maxL := 3) (ret := none) (by decide) rfl ?_
  intro p e s m args below meth c s₁ B0 hml hv
  obtain ⟨rfl, hv⟩ := hv
  have hx := B0.exec
  have hb := B0.bytes
  have hr := B0.returns
  have hts := atoms_spec (ws := (Cond.code y_Tex_init prog_10_method_1_code 3 none) :: tw) B0.pre
  have htw : ∀ w ∈ tw, w.before _ s = true := fun w hw => hts w (List.mem_cons_of_mem _ hw)
  have hown : s.vm.findClass "DrawingMachine$Textures" = some m.cls := findClass_of_methodNamed B0.named
  have hlocks := B0.notSynchronized
  have hin : meth.name = "<init>" := (name_of_methodNamed B0.named B0.method).1
  obtain ⟨hC, hP, hD, hsz⟩ := wC_init hv
  subst hsz
  generalize hAe : va_A [(h0, .inr (7, [.null, .null, .null, .null, .null, .null])), (to, .inr (1, [.ref ke]))] s.heap.size = A at hC hD ⊢
  have hS : va_S A s.heap s.heap [] := va_S.rf
  have hl := lv_entry ([.ref h0, .ref me, .ref to]) (n := 3) (Nat.le_of_ble_eq_true rfl)
  rw [lg_entry_eq]
  generalize (lg_sl ([.ref h0, .ref me, .ref to]) ++ List.replicate (3 - (lg_sl ([.ref h0, .ref me, .ref to])).length) Slot.unset).toArray = ls at hl ⊢
  have hl : lv_has ls 3 [(0, .ref h0), (1, .ref me), (2, .ref to)] := hl
  refine lv_aload_n hx hb d_Tex_init_0 rfl (lv_at hl 0 rfl) ?_
  refine W.objInit hx hb hown (htw _ k482) (htw _ k242) (htw _ k243) rfl (by rw [hml]; exact hl.1) rfl d_Tex_init_1 (Nat.le_of_ble_eq_true rfl) (Nat.le_of_ble_eq_true rfl) ?_
  refine W.eq (g2 := F0 m 4 ls []) rfl ?_
  refine lv_aload_n hx hb d_Tex_init_4 rfl (lv_at hl 0 rfl) ?_
  refine lv_iconst (v := 4) hx hb d_Tex_init_5 (by decide) ?_
  refine wna_i hx hb (htw _ k238) hC hP hD hS (N := 4) (by decide) (by omega) (Nat.le_of_ble_eq_true rfl) (Nat.le_of_ble_eq_true rfl) d_Tex_init_6 (fun q8 H hP hD hS => ?_)
  have hP : va_P D classes [(h0, .inr (7, [.null, .null, .null, .null, .null, .null])), (to, .inr (1, [.ref ke])), (q8, .inl (cI, 4, .inl (fun _ => 0)))] H := hP
  have hD : va_D A [(h0, .inr (7, [.null, .null, .null, .null, .null, .null])), (to, .inr (1, [.ref ke])), (q8, .inl (cI, 4, .inl (fun _ => 0)))] := hD
  refine W.widen (k := 1) (n := 4) (by omega) (by omega) ?_
  refine va_putF (D := D) (ci := 7) (v := .ref q8) (ty := .array .int) (C := R_Tex) (T := F_Tex) (N := 6) hx hb htw i_Tex t_Tex t_Tex_ok n_Tex hown hC.1 hP hD hS 0 rfl rfl 2 (by decide) (htw _ k483) (fun _ h9 => h9) rfl hin rfl (by decide +kernel) rfl rfl (Nat.le_of_ble_eq_true rfl) d_Tex_init_8 (fun H locs hP hD hS => ?_)
  have hP : va_P D classes [(h0, .inr (7, [.null, .null, .ref q8, .null, .null, .null])), (to, .inr (1, [.ref ke])), (q8, .inl (cI, 4, .inl (fun _ => 0)))] H := hP
  have hD : va_D A [(h0, .inr (7, [.null, .null, .ref q8, .null, .null, .null])), (to, .inr (1, [.ref ke])), (q8, .inl (cI, 4, .inl (fun _ => 0)))] := hD
  refine lv_aload_n hx hb d_Tex_init_11 rfl (lv_at hl 0 rfl) ?_
  refine lv_iconst (v := 4) hx hb d_Tex_init_12 (by decide) ?_
  refine wna_i hx hb (htw _ k238) hC hP hD hS (N := 4) (by decide) (by omega) (Nat.le_of_ble_eq_true rfl) (Nat.le_of_ble_eq_true rfl) d_Tex_init_13 (fun q9 H hP hD hS => ?_)
  have hP : va_P D classes [(h0, .inr (7, [.null, .null, .ref q8, .null, .null, .null])), (to, .inr (1, [.ref ke])), (q8, .inl (cI, 4, .inl (fun _ => 0))), (q9, .inl (cI, 4, .inl (fun _ => 0)))] H := hP
  have hD : va_D A [(h0, .inr (7, [.null, .null, .ref q8, .null, .null, .null])), (to, .inr (1, [.ref ke])), (q8, .inl (cI, 4, .inl (fun _ => 0))), (q9, .inl (cI, 4, .inl (fun _ => 0)))] := hD
  refine W.widen (k := 2) (n := 8) (by omega) (by omega) ?_
  refine va_putF (D := D) (ci := 7) (v := .ref q9) (ty := .array .int) (C := R_Tex) (T := F_Tex) (N := 6) hx hb htw i_Tex t_Tex t_Tex_ok n_Tex hown hC.1 hP hD hS 0 rfl rfl 3 (by decide) (htw _ k484) (fun _ h9 => h9) rfl hin rfl (by decide +kernel) rfl rfl (Nat.le_of_ble_eq_true rfl) d_Tex_init_15 (fun H locs hP hD hS => ?_)
  have hP : va_P D classes [(h0, .inr (7, [.null, .null, .ref q8, .ref q9, .null, .null])), (to, .inr (1, [.ref ke])), (q8, .inl (cI, 4, .inl (fun _ => 0))), (q9, .inl (cI, 4, .inl (fun _ => 0)))] H := hP
  have hD : va_D A [(h0, .inr (7, [.null, .null, .ref q8, .ref q9, .null, .null])), (to, .inr (1, [.ref ke])), (q8, .inl (cI, 4, .inl (fun _ => 0))), (q9, .inl (cI, 4, .inl (fun _ => 0)))] := hD
  refine lv_aload_n hx hb d_Tex_init_18 rfl (lv_at hl 0 rfl) ?_
  refine lv_iconst (v := 4) hx hb d_Tex_init_19 (by decide) ?_
  refine wna_i hx hb (htw _ k238) hC hP hD hS (N := 4) (by decide) (by omega) (Nat.le_of_ble_eq_true rfl) (Nat.le_of_ble_eq_true rfl) d_Tex_init_20 (fun q10 H hP hD hS => ?_)
  have hP : va_P D classes [(h0, .inr (7, [.null, .null, .ref q8, .ref q9, .null, .null])), (to, .inr (1, [.ref ke])), (q8, .inl (cI, 4, .inl (fun _ => 0))), (q9, .inl (cI, 4, .inl (fun _ => 0))), (q10, .inl (cI, 4, .inl (fun _ => 0)))] H := hP
  have hD : va_D A [(h0, .inr (7, [.null, .null, .ref q8, .ref q9, .null, .null])), (to, .inr (1, [.ref ke])), (q8, .inl (cI, 4, .inl (fun _ => 0))), (q9, .inl (cI, 4, .inl (fun _ => 0))), (q10, .inl (cI, 4, .inl (fun _ => 0)))] := hD
  refine W.widen (k := 3) (n := 12) (by omega) (by omega) ?_
  refine va_putF (D := D) (ci := 7) (v := .ref q10) (ty := .array .int) (C := R_Tex) (T := F_Tex) (N := 6) hx hb htw i_Tex t_Tex t_Tex_ok n_Tex hown hC.1 hP hD hS 0 rfl rfl 4 (by decide) (htw _ k485) (fun _ h9 => h9) rfl hin rfl (by decide +kernel) rfl rfl (Nat.le_of_ble_eq_true rfl) d_Tex_init_22 (fun H locs hP hD hS => ?_)
  have hP : va_P D classes [(h0, .inr (7, [.null, .null, .ref q8, .ref q9, .ref q10, .null])), (to, .inr (1, [.ref ke])), (q8, .inl (cI, 4, .inl (fun _ => 0))), (q9, .inl (cI, 4, .inl (fun _ => 0))), (q10, .inl (cI, 4, .inl (fun _ => 0)))] H := hP
  have hD : va_D A [(h0, .inr (7, [.null, .null, .ref q8, .ref q9, .ref q10, .null])), (to, .inr (1, [.ref ke])), (q8, .inl (cI, 4, .inl (fun _ => 0))), (q9, .inl (cI, 4, .inl (fun _ => 0))), (q10, .inl (cI, 4, .inl (fun _ => 0)))] := hD
  refine lv_aload_n hx hb d_Tex_init_25 rfl (lv_at hl 0 rfl) ?_
  refine lv_iconst (v := 4) hx hb d_Tex_init_26 (by decide) ?_
  refine wna_i hx hb (htw _ k238) hC hP hD hS (N := 4) (by decide) (by omega) (Nat.le_of_ble_eq_true rfl) (Nat.le_of_ble_eq_true rfl) d_Tex_init_27 (fun q11 H hP hD hS => ?_)
  have hP : va_P D classes [(h0, .inr (7, [.null, .null, .ref q8, .ref q9, .ref q10, .null])), (to, .inr (1, [.ref ke])), (q8, .inl (cI, 4, .inl (fun _ => 0))), (q9, .inl (cI, 4, .inl (fun _ => 0))), (q10, .inl (cI, 4, .inl (fun _ => 0))), (q11, .inl (cI, 4, .inl (fun _ => 0)))] H := hP
  have hD : va_D A [(h0, .inr (7, [.null, .null, .ref q8, .ref q9, .ref q10, .null])), (to, .inr (1, [.ref ke])), (q8, .inl (cI, 4, .inl (fun _ => 0))), (q9, .inl (cI, 4, .inl (fun _ => 0))), (q10, .inl (cI, 4, .inl (fun _ => 0))), (q11, .inl (cI, 4, .inl (fun _ => 0)))] := hD
  refine W.widen (k := 4) (n := 16) (by omega) (by omega) ?_
  refine va_putF (D := D) (ci := 7) (v := .ref q11) (ty := .array .int) (C := R_Tex) (T := F_Tex) (N := 6) hx hb htw i_Tex t_Tex t_Tex_ok n_Tex hown hC.1 hP hD hS 0 rfl rfl 5 (by decide) (htw _ k486) (fun _ h9 => h9) rfl hin rfl (by decide +kernel) rfl rfl (Nat.le_of_ble_eq_true rfl) d_Tex_init_29 (fun H locs hP hD hS => ?_)
  have hP : va_P D classes [(h0, .inr (7, [.null, .null, .ref q8, .ref q9, .ref q10, .ref q11])), (to, .inr (1, [.ref ke])), (q8, .inl (cI, 4, .inl (fun _ => 0))), (q9, .inl (cI, 4, .inl (fun _ => 0))), (q10, .inl (cI, 4, .inl (fun _ => 0))), (q11, .inl (cI, 4, .inl (fun _ => 0)))] H := hP
  have hD : va_D A [(h0, .inr (7, [.null, .null, .ref q8, .ref q9, .ref q10, .ref q11])), (to, .inr (1, [.ref ke])), (q8, .inl (cI, 4, .inl (fun _ => 0))), (q9, .inl (cI, 4, .inl (fun _ => 0))), (q10, .inl (cI, 4, .inl (fun _ => 0))), (q11, .inl (cI, 4, .inl (fun _ => 0)))] := hD
  refine lv_aload_n hx hb d_Tex_init_32 rfl (lv_at hl 0 rfl) ?_
  refine lv_aload_n hx hb d_Tex_init_33 rfl (lv_at hl 1 rfl) ?_
  refine va_putF (D := D) (ci := 7) (v := .ref me) (ty := .array .int) (C := R_Tex) (T := F_Tex) (N := 6) hx hb htw i_Tex t_Tex t_Tex_ok n_Tex hown hC.1 hP hD hS 0 rfl rfl 0 (by decide) (htw _ k487) (fun _ h9 => h9) rfl hin rfl (by decide +kernel) rfl rfl (Nat.le_of_ble_eq_true rfl) d_Tex_init_34 (fun H locs hP hD hS => ?_)
  have hP : va_P D classes [(h0, .inr (7, [.ref me, .null, .ref q8, .ref q9, .ref q10, .ref q11])), (to, .inr (1, [.ref ke])), (q8, .inl (cI, 4, .inl (fun _ => 0))), (q9, .inl (cI, 4, .inl (fun _ => 0))), (q10, .inl (cI, 4, .inl (fun _ => 0))), (q11, .inl (cI, 4, .inl (fun _ => 0)))] H := hP
  have hD : va_D A [(h0, .inr (7, [.ref me, .null, .ref q8, .ref q9, .ref q10, .ref q11])), (to, .inr (1, [.ref ke])), (q8, .inl (cI, 4, .inl (fun _ => 0))), (q9, .inl (cI, 4, .inl (fun _ => 0))), (q10, .inl (cI, 4, .inl (fun _ => 0))), (q11, .inl (cI, 4, .inl (fun _ => 0)))] := hD
  refine lv_aload_n hx hb d_Tex_init_37 rfl (lv_at hl 0 rfl) ?_
  refine lv_aload_n hx hb d_Tex_init_38 rfl (lv_at hl 2 rfl) ?_
  refine va_get (D := D) (ci := 1) (v := .ref ke) (C := R_Told) (T := F_Told) (N := 1) hx hb htw i_Told hown hC.1 hP 1 rfl rfl 0 (by decide) (htw _ k488) (fun _ h9 => h9) rfl d_Tex_init_39 ?_
  refine va_putF (D := D) (ci := 7) (v := .ref ke) (ty := .array .int) (C := R_Tex) (T := F_Tex) (N := 6) hx hb htw i_Tex t_Tex t_Tex_ok n_Tex hown hC.1 hP hD hS 0 rfl rfl 1 (by decide) (htw _ k489) (fun _ h9 => h9) rfl hin rfl (by decide +kernel) rfl rfl (Nat.le_of_ble_eq_true rfl) d_Tex_init_42 (fun H locs hP hD hS => ?_)
  have hP : va_P D classes [(h0, .inr (7, [.ref me, .ref ke, .ref q8, .ref q9, .ref q10, .ref q11])), (to, .inr (1, [.ref ke])), (q8, .inl (cI, 4, .inl (fun _ => 0))), (q9, .inl (cI, 4, .inl (fun _ => 0))), (q10, .inl (cI, 4, .inl (fun _ => 0))), (q11, .inl (cI, 4, .inl (fun _ => 0)))] H := hP
  have hD : va_D A [(h0, .inr (7, [.ref me, .ref ke, .ref q8, .ref q9, .ref q10, .ref q11])), (to, .inr (1, [.ref ke])), (q8, .inl (cI, 4, .inl (fun _ => 0))), (q9, .inl (cI, 4, .inl (fun _ => 0))), (q10, .inl (cI, 4, .inl (fun _ => 0))), (q11, .inl (cI, 4, .inl (fun _ => 0)))] := hD
  refine W.widen (k := 4) (n := 16) (Nat.le_of_ble_eq_true rfl) (Nat.le_of_ble_eq_true rfl) ?_
  have hP9 := hP.sub (ws' := [(to, .inr (1, [.ref ke]))]) [1] rfl
  have hD9 := hD.sub (ws' := [(to, .inr (1, [.ref ke]))]) [1] (by decide) rfl
  exact W.vret hx hb hr (fun t ht hW => ⟨⟨(), rfl, trivial, by rw [ht]; exact hP9, va_K.moved hW.alike hC.1, hD9⟩, hS.F ht⟩) hS.2.2 d_Tex_init_45

theorem d_Ver_init_0 : decode prog_12_method_1_code 0 = .ok (.aload_n 0, 1) := by decide +kernel
theorem d_Ver_init_1 : decode prog_12_method_1_code 1 = .ok (.invokespecial 3, 3) := by decide +kernel
theorem d_Ver_init_4 : decode prog_12_method_1_code 4 = .ok (.aload_n 0, 1) := by decide +kernel
theorem d_Ver_init_5 : decode prog_12_method_1_code 5 = .ok (.aload_n 1, 1) := by decide +kernel
theorem d_Ver_init_6 : decode prog_12_method_1_code 6 = .ok (.putfield 9, 3) := by decide +kernel
theorem d_Ver_init_9 : decode prog_12_method_1_code 9 = .ok (.aload_n 0, 1) := by decide +kernel
theorem d_Ver_init_10 : decode prog_12_method_1_code 10 = .ok (.aload_n 2, 1) := by decide +kernel
theorem d_Ver_init_11 : decode prog_12_method_1_code 11 = .ok (.getfield 15, 3) := by decide +kernel
theorem d_Ver_init_14 : decode prog_12_method_1_code 14 = .ok (.putfield 20, 3) := by decide +kernel
theorem d_Ver_init_17 : decode prog_12_method_1_code 17 = .ok (.return_, 1) := by decide +kernel
set_option maxHeartbeats 4000000 in
set_option maxRecDepth 100000 in
theorem c_Ver_init (l : Launch) (D : va_G) (cI cL : ClassId) (B sz : Nat) (h0 : Nat) (me : Nat) (to : Nat) (ke : Nat) : Met l y_Ver_init ((Cond.code y_Ver_init prog_12_method_1_code 3 none) :: tw) ({ frames := 20, cells := 0, slots := 0, locals := 2000 }) (va_Pc [.ref h0, .ref me, .ref to] (wP D cI cL B sz [(h0, .inr (8, [.null, .null])), (to, .inr (1, [.ref ke]))])) (va_Qv (S := Unit) (fun _ => True) (fun u => wB D cI cL (va_A [(h0, .inr (8, [.null, .null])), (to, .inr (1, [.ref ke]))] sz) ((fun _ : Unit => [(to, .inr (1, [.ref ke]))]) u)) (va_A [(h0, .inr (8, [.null, .null])), (to, .inr (1, [.ref ke]))] sz)) 0 0 (va_A [(h0, .inr (8, [.null, .null])), (to, .inr (1, [.ref ke]))] sz) := by
  refine Met.ofW (cc := prog_12_method_1_code) (maxL := 3) (ret := none) (by decide) rfl ?_
  intro p e s m args below meth c s₁ B0 hml hv
  obtain ⟨rfl, hv⟩ := hv
  have hx := B0.exec
  have hb := B0.bytes
  have hr := B0.returns
  have hts := atoms_spec (ws := (Cond.code y_Ver_init prog_12_method_1_code 3 none) :: tw) B0.pre
  have htw : ∀ w ∈ tw, w.before _ s = true := fun w hw => hts w (List.mem_cons_of_mem _ hw)
  have hown : s.vm.findClass "DrawingMachine$Vertices" = some m.cls := findClass_of_methodNamed B0.named
  have hlocks := B0.notSynchronized
  have hin : meth.name = "<init>" := (name_of_methodNamed B0.named B0.method).1
  obtain ⟨hC, hP, hD, hsz⟩ := wC_init hv
  subst hsz
  generalize hAe : va_A [(h0, .inr (8, [.null, .null])), (to, .inr (1, [.ref ke]))] s.heap.size = A at hC hD ⊢
  have hS : va_S A s.heap s.heap [] := va_S.rf
  have hl := lv_entry ([.ref h0, .ref me, .ref to]) (n := 3) (Nat.le_of_ble_eq_true rfl)
  rw [lg_entry_eq]
  generalize (lg_sl ([.ref h0, .ref me, .ref to]) ++ List.replicate (3 - (lg_sl ([.ref h0, .ref me, .ref to])).length) Slot.unset).toArray = ls at hl ⊢
  have hl : lv_has ls 3 [(0, .ref h0), (1, .ref me), (2, .ref to)] := hl
  refine lv_aload_n hx hb d_Ver_init_0 rfl (lv_at hl 0 rfl) ?_
  refine W.objInit hx hb hown (htw _ k490) (htw _ k242) (htw _ k243) rfl (by rw [hml]; exact hl.1) rfl d_Ver_init_1 (Nat.le_of_ble_eq_true rfl) (Nat.le_of_ble_eq_true rfl) ?_
  refine W.eq (g2 := F0 m 4 ls []) rfl ?_
  refine lv_aload_n hx hb d_Ver_init_4 rfl (lv_at hl 0 rfl) ?_
  refine lv_aload_n hx hb d_Ver_init_5 rfl (lv_at hl 1 rfl) ?_
  refine va_putF (D := D) (ci := 8) (v := .ref me) (ty := .array .int) (C := R_Ver) (T := F_Ver) (N := 2) hx hb htw i_Ver t_Ver t_Ver_ok n_Ver hown hC.1 hP hD hS 0 rfl rfl 0 (by decide) (htw _ k491) (fun _ h9 => h9) rfl hin rfl (by decide +kernel) rfl rfl (Nat.le_of_ble_eq_true rfl) d_Ver_init_6 (fun H locs hP hD hS => ?_)
  have hP : va_P D classes [(h0, .inr (8, [.ref me, .null])), (to, .inr (1, [.ref ke]))] H := hP
  have hD : va_D A [(h0, .inr (8, [.ref me, .null])), (to, .inr (1, [.ref ke]))] := hD
  refine lv_aload_n hx hb d_Ver_init_9 rfl (lv_at hl 0 rfl) ?_
  refine lv_aload_n hx hb d_Ver_init_10 rfl (lv_at hl 2 rfl) ?_
  refine va_get (D := D) (ci := 1) (v := .ref ke) (C := R_Told) (T := F_Told) (N := 1) hx hb htw i_Told hown hC.1 hP 1 rfl rfl 0 (by decide) (htw _ k492) (fun _ h9 => h9) rfl d_Ver_init_11 ?_
  refine va_putF (D := D) (ci := 8) (v := .ref ke) (ty := .array .int) (C := R_Ver) (T := F_Ver) (N := 2) hx hb htw i_Ver t_Ver t_Ver_ok n_Ver hown hC.1 hP hD hS 0 rfl rfl 1 (by decide) (htw _ k493) (fun _ h9 => h9) rfl hin rfl (by decide +kernel) rfl rfl (Nat.le_of_ble_eq_true rfl) d_Ver_init_14 (fun H locs hP hD hS => ?_)
  have hP : va_P D classes [(h0, .inr (8, [.ref me, .ref ke])), (to, .inr (1, [.ref ke]))] H := hP
  have hD : va_D A [(h0, .inr (8, [.ref me, .ref ke])), (to, .inr (1, [.ref ke]))] := hD
  refine W.widen (k := 0) (n := 0) (Nat.le_of_ble_eq_true rfl) (Nat.le_of_ble_eq_true rfl) ?_
  have hP9 := hP.sub (ws' := [(to, .inr (1, [.ref ke]))]) [1] rfl
  have hD9 := hD.sub (ws' := [(to, .inr (1, [.ref ke]))]) [1] (by decide) rfl
  exact W.vret hx hb hr (fun t ht hW => ⟨⟨(), rfl, trivial, by rw [ht]; exact hP9, va_K.moved hW.alike hC.1, hD9⟩, hS.F ht⟩) hS.2.2 d_Ver_init_17

theorem d_Pic_init_0 : decode prog_6_method_1_code 0 = .ok (.aload_n 0, 1) := by decide +kernel
theorem d_Pic_init_1 : decode prog_6_method_1_code 1 = .ok (.invokespecial 3, 3) := by decide +kernel
theorem d_Pic_init_4 : decode prog_6_method_1_code 4 = .ok (.aload_n 0, 1) := by decide +kernel
theorem d_Pic_init_5 : decode prog_6_method_1_code 5 = .ok (.iconst 1, 1) := by decide +kernel
theorem d_Pic_init_6 : decode prog_6_method_1_code 6 = .ok (.putfield 9, 3) := by decide +kernel
theorem d_Pic_init_9 : decode prog_6_method_1_code 9 = .ok (.aload_n 0, 1) := by decide +kernel
theorem d_Pic_init_10 : decode prog_6_method_1_code 10 = .ok (.iconst 1, 1) := by decide +kernel
theorem d_Pic_init_11 : decode prog_6_method_1_code 11 = .ok (.putfield 15, 3) := by decide +kernel
theorem d_Pic_init_14 : decode prog_6_method_1_code 14 = .ok (.aload_n 0, 1) := by decide +kernel
theorem d_Pic_init_15 : decode prog_6_method_1_code 15 = .ok (.iconst 1, 1) := by decide +kernel
theorem d_Pic_init_16 : decode prog_6_method_1_code 16 = .ok (.newarray .int, 2) := by decide +kernel
theorem d_Pic_init_18 : decode prog_6_method_1_code 18 = .ok (.putfield 18, 3) := by decide +kernel
theorem d_Pic_init_21 : decode prog_6_method_1_code 21 = .ok (.aload_n 0, 1) := by decide +kernel
theorem d_Pic_init_22 : decode prog_6_method_1_code 22 = .ok (.iconst 1, 1) := by decide +kernel
theorem d_Pic_init_23 : decode prog_6_method_1_code 23 = .ok (.newarray .int, 2) := by decide +kernel
theorem d_Pic_init_25 : decode prog_6_method_1_code 25 = .ok (.putfield 22, 3) := by decide +kernel
theorem d_Pic_init_28 : decode prog_6_method_1_code 28 = .ok (.aload_n 0, 1) := by decide +kernel
theorem d_Pic_init_29 : decode prog_6_method_1_code 29 = .ok (.iconst 1, 1) := by decide +kernel
theorem d_Pic_init_30 : decode prog_6_method_1_code 30 = .ok (.newarray .int, 2) := by decide +kernel
theorem d_Pic_init_32 : decode prog_6_method_1_code 32 = .ok (.putfield 25, 3) := by decide +kernel
theorem d_Pic_init_35 : decode prog_6_method_1_code 35 = .ok (.aload_n 0, 1) := by decide +kernel
theorem d_Pic_init_36 : decode prog_6_method_1_code 36 = .ok (.aload_n 1, 1) := by decide +kernel
theorem d_Pic_init_37 : decode prog_6_method_1_code 37 = .ok (.putfield 28, 3) := by decide +kernel
theorem d_Pic_init_40 : decode prog_6_method_1_code 40 = .ok (.aload_n 0, 1) := by decide +kernel
theorem d_Pic_init_41 : decode prog_6_method_1_code 41 = .ok (.aload_n 1, 1) := by decide +kernel
theorem d_Pic_init_42 : decode prog_6_method_1_code 42 = .ok (.getfield 32, 3) := by decide +kernel
theorem d_Pic_init_45 : decode prog_6_method_1_code 45 = .ok (.putfield 37, 3) := by decide +kernel
theorem d_Pic_init_48 : decode prog_6_method_1_code 48 = .ok (.return_, 1) := by decide +kernel
set_option maxHeartbeats 4000000 in
set_option maxRecDepth 100000 in
theorem c_Pic_init (l : Launch) (D : va_G) (cI cL : ClassId) (B sz : Nat) (h0 : Nat) (to : Nat) (ke : Nat) : Met l y_Pic_init ((Cond.code y_Pic_init prog_6_method_1_code 2 none) :: tw) ({ frames := 20, cells := 3, slots := 3, locals := 2000 }) (va_Pc [.ref h0, .ref to] (wP D cI cL B sz [(h0, .inr (2, [.int 0, .int 0, .null, .null, .null, .null, .null])), (to, .inr (1, [.ref ke]))])) (va_Qv (S := Nat × Nat × Nat) (fun _ => True) (fun u => wB D cI cL (va_A [(h0, .inr (2, [.int 0, .int 0, .null, .null, .null, .null, .null])), (to, .inr (1, [.ref ke]))] sz) ((fun u : Nat × Nat × Nat => match u with | (q12, q13, q14) => [(h0, .inr (2, [.int 1, .int 1, .ref q12, .ref q13, .ref q14, .ref to, .ref ke])), (to, .inr (1, [.ref ke])), (q12, .inl (cI, 1, .inl (fun _ => 0))), (q13, .inl (cI, 1, .inl (fun _ => 0))), (q14, .inl (cI, 1, .inl (fun _ => 0)))]) u)) (va_A [(h0, .inr (2, [.int 0, .int 0, .null, .null, .null, .null, .null])), (to, .inr (1, [.ref ke]))] sz)) 3 3 (va_A [(h0, .inr (2, [.int 0, .int 0, .null, .null, .null, .null, .null])), (to, .inr (1, [.ref ke]))] sz) := by
  refine Met.ofW (cc := prog_6_method_1_code) (maxL := 2) (ret := none) (by decide) rfl ?_
  intro p e s m args below meth c s₁ B0 hml hv
  obtain ⟨rfl, hv⟩ := hv
  have hx := B0.exec
  have hb := B0.bytes
  have hr := B0.returns
  have hts := atoms_spec (ws := (Cond.code y_Pic_init prog_6_method_1_code 2 none) :: tw) B0.pre
  have htw : ∀ w ∈ tw, w.before _ s = true := fun w hw => hts w (List.mem_cons_of_mem _ hw)
  have hown : s.vm.findClass "DrawingMachine$Picture" = some m.cls := findClass_of_methodNamed B0.named
  have hlocks := B0.notSynchronized
  have hin : meth.name = "<init>" := (name_of_methodNamed B0.named B0.method).1
  obtain ⟨hC, hP, hD, hsz⟩ := wC_init hv
  subst hsz
  generalize hAe : va_A [(h0, .inr (2, [.int 0, .int 0, .null, .null, .null, .null, .null])), (to, .inr (1, [.ref ke]))] s.heap.size = A at hC hD ⊢
  have hS : va_S A s.heap s.heap [] := va_S.rf
  have hl := lv_entry ([.ref h0, .ref to]) (n := 2) (Nat.le_of_ble_eq_true rfl)
  rw [lg_entry_eq]
  generalize (lg_sl ([.ref h0, .ref to]) ++ List.replicate (2 - (lg_sl ([.ref h0, .ref to])).length) Slot.unset).toArray = ls at hl ⊢
  have hl : lv_has ls 2 [(0, .ref h0), (1, .ref to)] := hl
  refine lv_aload_n hx hb d_Pic_init_0 rfl (lv_at hl 0 rfl) ?_
  refine W.objInit hx hb hown (htw _ k389) (htw _ k242) (htw _ k243) rfl (by rw [hml]; exact hl.1) rfl d_Pic_init_1 (Nat.le_of_ble_eq_true rfl) (Nat.le_of_ble_eq_true rfl) ?_
  refine W.eq (g2 := F0 m 4 ls []) rfl ?_
  refine lv_aload_n hx hb d_Pic_init_4 rfl (lv_at hl 0 rfl) ?_
  refine lv_iconst (v := 1) hx hb d_Pic_init_5 (by decide) ?_
  refine va_put (D := D) (ci := 2) (v := .int 1) (ty := .int) (C := R_Pic) (T := F_Pic) (N := 7) hx hb htw i_Pic t_Pic t_Pic_ok n_Pic hown hC.1 hP hD hS 0 rfl rfl 0 (by decide) (htw _ k390) (fun _ h9 => h9) rfl (by decide +kernel) rfl rfl (Nat.le_of_ble_eq_true rfl) d_Pic_init_6 (fun H locs hP hD hS => ?_)
  have hP : va_P D classes [(h0, .inr (2, [.int 1, .int 0, .null, .null, .null, .null, .null])), (to, .inr (1, [.ref ke]))] H := hP
  have hD : va_D A [(h0, .inr (2, [.int 1, .int 0, .null, .null, .null, .null, .null])), (to, .inr (1, [.ref ke]))] := hD
  refine lv_aload_n hx hb d_Pic_init_9 rfl (lv_at hl 0 rfl) ?_
  refine lv_iconst (v := 1) hx hb d_Pic_init_10 (by decide) ?_
  refine va_put (D := D) (ci := 2) (v := .int 1) (ty := .int) (C := R_Pic) (T := F_Pic) (N := 7) hx hb htw i_Pic t_Pic t_Pic_ok n_Pic hown hC.1 hP hD hS 0 rfl rfl 1 (by decide) (htw _ k391) (fun _ h9 => h9) rfl (by decide +kernel) rfl rfl (Nat.le_of_ble_eq_true rfl) d_Pic_init_11 (fun H locs hP hD hS => ?_)
  have hP : va_P D classes [(h0, .inr (2, [.int 1, .int 1, .null, .null, .null, .null, .null])), (to, .inr (1, [.ref ke]))] H := hP
  have hD : va_D A [(h0, .inr (2, [.int 1, .int 1, .null, .null, .null, .null, .null])), (to, .inr (1, [.ref ke]))] := hD
  refine lv_aload_n hx hb d_Pic_init_14 rfl (lv_at hl 0 rfl) ?_
  refine lv_iconst (v := 1) hx hb d_Pic_init_15 (by decide) ?_
  refine wna_i hx hb (htw _ k238) hC hP hD hS (N := 1) (by decide) (by omega) (Nat.le_of_ble_eq_true rfl) (Nat.le_of_ble_eq_true rfl) d_Pic_init_16 (fun q12 H hP hD hS => ?_)
  have hP : va_P D classes [(h0, .inr (2, [.int 1, .int 1, .null, .null, .null, .null, .null])), (to, .inr (1, [.ref ke])), (q12, .inl (cI, 1, .inl (fun _ => 0)))] H := hP
  have hD : va_D A [(h0, .inr (2, [.int 1, .int 1, .null, .null, .null, .null, .null])), (to, .inr (1, [.ref ke])), (q12, .inl (cI, 1, .inl (fun _ => 0)))] := hD
  refine W.widen (k := 1) (n := 1) (by omega) (by omega) ?_
  refine va_put (D := D) (ci := 2) (v := .ref q12) (ty := .array .int) (C := R_Pic) (T := F_Pic) (N := 7) hx hb htw i_Pic t_Pic t_Pic_ok n_Pic hown hC.1 hP hD hS 0 rfl rfl 2 (by decide) (htw _ k392) (fun _ h9 => h9) rfl (by decide +kernel) rfl rfl (Nat.le_of_ble_eq_true rfl) d_Pic_init_18 (fun H locs hP hD hS => ?_)
  have hP : va_P D classes [(h0, .inr (2, [.int 1, .int 1, .ref q12, .null, .null, .null, .null])), (to, .inr (1, [.ref ke])), (q12, .inl (cI, 1, .inl (fun _ => 0)))] H := hP
  have hD : va_D A [(h0, .inr (2, [.int 1, .int 1, .ref q12, .null, .null, .null, .null])), (to, .inr (1, [.ref ke])), (q12, .inl (cI, 1, .inl (fun _ => 0)))] := hD
  refine lv_aload_n hx hb d_Pic_init_21 rfl (lv_at hl 0 rfl) ?_
  refine lv_iconst (v := 1) hx hb d_Pic_init_22 (by decide) ?_
  refine wna_i hx hb (htw _ k238) hC hP hD hS (N := 1) (by decide) (by omega) (Nat.le_of_ble_eq_true rfl) (Nat.le_of_ble_eq_true rfl) d_Pic_init_23 (fun q13 H hP hD hS => ?_)
  have hP : va_P D classes [(h0, .inr (2, [.int 1, .int 1, .ref q12, .null, .null, .null, .null])), (to, .inr (1, [.ref ke])), (q12, .inl (cI, 1, .inl (fun _ => 0))), (q13, .inl (cI, 1, .inl (fun _ => 0)))] H := hP
  have hD : va_D A [(h0, .inr (2, [.int 1, .int 1, .ref q12, .null, .null, .null, .null])), (to, .inr (1, [.ref ke])), (q12, .inl (cI, 1, .inl (fun _ => 0))), (q13, .inl (cI, 1, .inl (fun _ => 0)))] := hD
  refine W.widen (k := 2) (n := 2) (by omega) (by omega) ?_
  refine va_put (D := D) (ci := 2) (v := .ref q13) (ty := .array .int) (C := R_Pic) (T := F_Pic) (N := 7) hx hb htw i_Pic t_Pic t_Pic_ok n_Pic hown hC.1 hP hD hS 0 rfl rfl 3 (by decide) (htw _ k393) (fun _ h9 => h9) rfl (by decide +kernel) rfl rfl (Nat.le_of_ble_eq_true rfl) d_Pic_init_25 (fun H locs hP hD hS => ?_)
  have hP : va_P D classes [(h0, .inr (2, [.int 1, .int 1, .ref q12, .ref q13, .null, .null, .null])), (to, .inr (1, [.ref ke])), (q12, .inl (cI, 1, .inl (fun _ => 0))), (q13, .inl (cI, 1, .inl (fun _ => 0)))] H := hP
  have hD : va_D A [(h0, .inr (2, [.int 1, .int 1, .ref q12, .ref q13, .null, .null, .null])), (to, .inr (1, [.ref ke])), (q12, .inl (cI, 1, .inl (fun _ => 0))), (q13, .inl (cI, 1, .inl (fun _ => 0)))] := hD
  refine lv_aload_n hx hb d_Pic_init_28 rfl (lv_at hl 0 rfl) ?_
  refine lv_iconst (v := 1) hx hb d_Pic_init_29 (by decide) ?_
  refine wna_i hx hb (htw _ k238) hC hP hD hS (N := 1) (by decide) (by omega) (Nat.le_of_ble_eq_true rfl) (Nat.le_of_ble_eq_true rfl) d_Pic_init_30 (fun q14 H hP hD hS => ?_)
  have hP : va_P D classes [(h0, .inr (2, [.int 1, .int 1, .ref q12, .ref q13, .null, .null, .null])), (to, .inr (1, [.ref ke])), (q12, .inl (cI, 1, .inl (fun _ => 0))), (q13, .inl (cI, 1, .inl (fun _ => 0))), (q14, .inl (cI, 1, .inl (fun _ => 0)))] H := hP
  have hD : va_D A [(h0, .inr (2, [.int 1, .int 1, .ref q12, .ref q13, .null, .null, .null])), (to, .inr (1, [.ref ke])), (q12, .inl (cI, 1, .inl (fun _ => 0))), (q13, .inl (cI, 1, .inl (fun _ => 0))), (q14, .inl (cI, 1, .inl (fun _ => 0)))] := hD
  refine W.widen (k := 3) (n := 3) (by omega) (by omega) ?_
  refine va_put (D := D) (ci := 2) (v := .ref q14) (ty := .array .int) (C := R_Pic) (T := F_Pic) (N := 7) hx hb htw i_Pic t_Pic t_Pic_ok n_Pic hown hC.1 hP hD hS 0 rfl rfl 4 (by decide) (htw _ k394) (fun _ h9 => h9) rfl (by decide +kernel) rfl rfl (Nat.le_of_ble_eq_true rfl) d_Pic_init_32 (fun H locs hP hD hS => ?_)
  have hP : va_P D classes [(h0, .inr (2, [.int 1, .int 1, .ref q12, .ref q13, .ref q14, .null, .null])), (to, .inr (1, [.ref ke])), (q12, .inl (cI, 1, .inl (fun _ => 0))), (q13, .inl (cI, 1, .inl (fun _ => 0))), (q14, .inl (cI, 1, .inl (fun _ => 0)))] H := hP
  have hD : va_D A [(h0, .inr (2, [.int 1, .int 1, .ref q12, .ref q13, .ref q14, .null, .null])), (to, .inr (1, [.ref ke])), (q12, .inl (cI, 1, .inl (fun _ => 0))), (q13, .inl (cI, 1, .inl (fun _ => 0))), (q14, .inl (cI, 1, .inl (fun _ => 0)))] := hD
  refine lv_aload_n hx hb d_Pic_init_35 rfl (lv_at hl 0 rfl) ?_
  refine lv_aload_n hx hb d_Pic_init_36 rfl (lv_at hl 1 rfl) ?_
  refine va_putF (D := D) (ci := 2) (v := .ref to) (ty := .object "DrawingMachine$Told") (C := R_Pic) (T := F_Pic) (N := 7) hx hb htw i_Pic t_Pic t_Pic_ok n_Pic hown hC.1 hP hD hS 0 rfl rfl 5 (by decide) (htw _ k395) (fun _ h9 => h9) rfl hin rfl (by decide +kernel) rfl rfl (Nat.le_of_ble_eq_true rfl) d_Pic_init_37 (fun H locs hP hD hS => ?_)
  have hP : va_P D classes [(h0, .inr (2, [.int 1, .int 1, .ref q12, .ref q13, .ref q14, .ref to, .null])), (to, .inr (1, [.ref ke])), (q12, .inl (cI, 1, .inl (fun _ => 0))), (q13, .inl (cI, 1, .inl (fun _ => 0))), (q14, .inl (cI, 1, .inl (fun _ => 0)))] H := hP
  have hD : va_D A [(h0, .inr (2, [.int 1, .int 1, .ref q12, .ref q13, .ref q14, .ref to, .null])), (to, .inr (1, [.ref ke])), (q12, .inl (cI, 1, .inl (fun _ => 0))), (q13, .inl (cI, 1, .inl (fun _ => 0))), (q14, .inl (cI, 1, .inl (fun _ => 0)))] := hD
  refine lv_aload_n hx hb d_Pic_init_40 rfl (lv_at hl 0 rfl) ?_
  refine lv_aload_n hx hb d_Pic_init_41 rfl (lv_at hl 1 rfl) ?_
  refine va_get (D := D) (ci := 1) (v := .ref ke) (C := R_Told) (T := F_Told) (N := 1) hx hb htw i_Told hown hC.1 hP 1 rfl rfl 0 (by decide) (htw _ k396) (fun _ h9 => h9) rfl d_Pic_init_42 ?_
  refine va_putF (D := D) (ci := 2) (v := .ref ke) (ty := .array .int) (C := R_Pic) (T := F_Pic) (N := 7) hx hb htw i_Pic t_Pic t_Pic_ok n_Pic hown hC.1 hP hD hS 0 rfl rfl 6 (by decide) (htw _ k397) (fun _ h9 => h9) rfl hin rfl (by decide +kernel) rfl rfl (Nat.le_of_ble_eq_true rfl) d_Pic_init_45 (fun H locs hP hD hS => ?_)
  have hP : va_P D classes [(h0, .inr (2, [.int 1, .int 1, .ref q12, .ref q13, .ref q14, .ref to, .ref ke])), (to, .inr (1, [.ref ke])), (q12, .inl (cI, 1, .inl (fun _ => 0))), (q13, .inl (cI, 1, .inl (fun _ => 0))), (q14, .inl (cI, 1, .inl (fun _ => 0)))] H := hP
  have hD : va_D A [(h0, .inr (2, [.int 1, .int 1, .ref q12, .ref q13, .ref q14, .ref to, .ref ke])), (to, .inr (1, [.ref ke])), (q12, .inl (cI, 1, .inl (fun _ => 0))), (q13, .inl (cI, 1, .inl (fun _ => 0))), (q14, .inl (cI, 1, .inl (fun _ => 0)))] := hD
  refine W.widen (k := 3) (n := 3) (Nat.le_of_ble_eq_true rfl) (Nat.le_of_ble_eq_true rfl) ?_
  have hP9 := hP.sub (ws' := [(h0, .inr (2, [.int 1, .int 1, .ref q12, .ref q13, .ref q14, .ref to, .ref ke])), (to, .inr (1, [.ref ke])), (q12, .inl (cI, 1, .inl (fun _ => 0))), (q13, .inl (cI, 1, .inl (fun _ => 0))), (q14, .inl (cI, 1, .inl (fun _ => 0)))]) [0, 1, 2, 3, 4] rfl
  have hD9 := hD.sub (ws' := [(h0, .inr (2, [.int 1, .int 1, .ref q12, .ref q13, .ref q14, .ref to, .ref ke])), (to, .inr (1, [.ref ke])), (q12, .inl (cI, 1, .inl (fun _ => 0))), (q13, .inl (cI, 1, .inl (fun _ => 0))), (q14, .inl (cI, 1, .inl (fun _ => 0)))]) [0, 1, 2, 3, 4] (by decide) rfl
  exact W.vret hx hb hr (fun t ht hW => ⟨⟨(q12, q13, q14), rfl, trivial, by rw [ht]; exact hP9, va_K.moved hW.alike hC.1, hD9⟩, hS.F ht⟩) hS.2.2 d_Pic_init_48

theorem d_Sha_init_0 : decode prog_9_method_1_code 0 = .ok (.aload_n 0, 1) := by decide +kernel
theorem d_Sha_init_1 : decode prog_9_method_1_code 1 = .ok (.invokespecial 3, 3) := by decide +kernel
theorem d_Sha_init_4 : decode prog_9_method_1_code 4 = .ok (.aload_n 0, 1) := by decide +kernel
theorem d_Sha_init_5 : decode prog_9_method_1_code 5 = .ok (.bipush 8, 2) := by decide +kernel
theorem d_Sha_init_7 : decode prog_9_method_1_code 7 = .ok (.bipush 32, 2) := by decide +kernel
theorem d_Sha_init_9 : decode prog_9_method_1_code 9 = .ok (.multianewarray 11 2, 4) := by decide +kernel
theorem d_Sha_init_13 : decode prog_9_method_1_code 13 = .ok (.putfield 13, 3) := by decide +kernel
theorem d_Sha_init_16 : decode prog_9_method_1_code 16 = .ok (.aload_n 0, 1) := by decide +kernel
theorem d_Sha_init_17 : decode prog_9_method_1_code 17 = .ok (.bipush 8, 2) := by decide +kernel
theorem d_Sha_init_19 : decode prog_9_method_1_code 19 = .ok (.newarray .int, 2) := by decide +kernel
theorem d_Sha_init_21 : decode prog_9_method_1_code 21 = .ok (.putfield 16, 3) := by decide +kernel
theorem d_Sha_init_24 : decode prog_9_method_1_code 24 = .ok (.aload_n 0, 1) := by decide +kernel
theorem d_Sha_init_25 : decode prog_9_method_1_code 25 = .ok (.bipush 8, 2) := by decide +kernel
theorem d_Sha_init_27 : decode prog_9_method_1_code 27 = .ok (.newarray .int, 2) := by decide +kernel
theorem d_Sha_init_29 : decode prog_9_method_1_code 29 = .ok (.putfield 20, 3) := by decide +kernel
theorem d_Sha_init_32 : decode prog_9_method_1_code 32 = .ok (.aload_n 0, 1) := by decide +kernel
theorem d_Sha_init_33 : decode prog_9_method_1_code 33 = .ok (.bipush 8, 2) := by decide +kernel
theorem d_Sha_init_35 : decode prog_9_method_1_code 35 = .ok (.newarray .int, 2) := by decide +kernel
theorem d_Sha_init_37 : decode prog_9_method_1_code 37 = .ok (.putfield 23, 3) := by decide +kernel
theorem d_Sha_init_40 : decode prog_9_method_1_code 40 = .ok (.aload_n 0, 1) := by decide +kernel
theorem d_Sha_init_41 : decode prog_9_method_1_code 41 = .ok (.bipush 8, 2) := by decide +kernel
theorem d_Sha_init_43 : decode prog_9_method_1_code 43 = .ok (.newarray .int, 2) := by decide +kernel
theorem d_Sha_init_45 : decode prog_9_method_1_code 45 = .ok (.putfield 26, 3) := by decide +kernel
theorem d_Sha_init_48 : decode prog_9_method_1_code 48 = .ok (.aload_n 0, 1) := by decide +kernel
theorem d_Sha_init_49 : decode prog_9_method_1_code 49 = .ok (.bipush 8, 2) := by decide +kernel
theorem d_Sha_init_51 : decode prog_9_method_1_code 51 = .ok (.bipush 32, 2) := by decide +kernel
theorem d_Sha_init_53 : decode prog_9_method_1_code 53 = .ok (.multianewarray 11 2, 4) := by decide +kernel
theorem d_Sha_init_57 : decode prog_9_method_1_code 57 = .ok (.putfield 29, 3) := by decide +kernel
theorem d_Sha_init_60 : decode prog_9_method_1_code 60 = .ok (.aload_n 0, 1) := by decide +kernel
theorem d_Sha_init_61 : decode prog_9_method_1_code 61 = .ok (.aload_n 1, 1) := by decide +kernel
theorem d_Sha_init_62 : decode prog_9_method_1_code 62 = .ok (.getfield 32, 3) := by decide +kernel
theorem d_Sha_init_65 : decode prog_9_method_1_code 65 = .ok (.putfield 37, 3) := by decide +kernel
theorem d_Sha_init_68 : decode prog_9_method_1_code 68 = .ok (.return_, 1) := by decide +kernel
set_option maxHeartbeats 4000000 in
set_option maxRecDepth 100000 in
theorem c_Sha_init (l : Launch) (D : va_G) (cI cL : ClassId) (B sz : Nat) (h0 : Nat) (to : Nat) (ke : Nat) : Met l y_Sha_init ((Cond.code y_Sha_init prog_9_method_1_code 2 none) :: tw) ({ frames := 20, cells := 22, slots := 560, locals := 2000 }) (va_Pc [.ref h0, .ref to] (wP D cI cL B sz [(h0, .inr (9, [.int 0, .null, .null, .null, .null, .null, .null, .null])), (to, .inr (1, [.ref ke]))])) (va_Qv (S := Unit) (fun _ => True) (fun u => wB D cI cL (va_A [(h0, .inr (9, [.int 0, .null, .null, .null, .null, .null, .null, .null])), (to, .inr (1, [.ref ke]))] sz) ((fun _ : Unit => [(to, .inr (1, [.ref ke]))]) u)) (va_A [(h0, .inr (9, [.int 0, .null, .null, .null, .null, .null, .null, .null])), (to, .inr (1, [.ref ke]))] sz)) 22 560 (va_A [(h0, .inr (9, [.int 0, .null, .null, .null, .null, .null, .null, .null])), (to, .inr (1, [.ref ke]))] sz) := by
  refine Met.ofW (cc := prog_9_method_1_code) (maxL := 2) (ret := none) (by decide) rfl ?_
  intro p e s m args below meth c s₁ B0 hml hv
  obtain ⟨rfl, hv⟩ := hv
  have hx := B0.exec
  have hb := B0.bytes
  have hr := B0.returns
  have hts := atoms_spec (ws := (Cond.code y_Sha_init prog_9_method_1_code 2 none) :: tw) B0.pre
  have htw : ∀ w ∈ tw, w.before _ s = true := fun w hw => hts w (List.mem_cons_of_mem _ hw)
  have hown : s.vm.findClass "DrawingMachine$Shape" = some m.cls := findClass_of_methodNamed B0.named
  have hlocks := B0.notSynchronized
  have hin : meth.name = "<init>" := (name_of_methodNamed B0.named B0.method).1
  obtain ⟨hC, hP, hD, hsz⟩ := wC_init hv
  subst hsz
  generalize hAe : va_A [(h0, .inr (9, [.int 0, .null, .null, .null, .null, .null, .null, .null])), (to, .inr (1, [.ref ke]))] s.heap.size = A at hC hD ⊢
  have hS : va_S A s.heap s.heap [] := va_S.rf
  have hl := lv_entry ([.ref h0, .ref to]) (n := 2) (Nat.le_of_ble_eq_true rfl)
  rw [lg_entry_eq]
  generalize (lg_sl ([.ref h0, .ref to]) ++ List.replicate (2 - (lg_sl ([.ref h0, .ref to])).length) Slot.unset).toArray = ls at hl ⊢
  have hl : lv_has ls 2 [(0, .ref h0), (1, .ref to)] := hl
  refine lv_aload_n hx hb d_Sha_init_0 rfl (lv_at hl 0 rfl) ?_
  refine W.objInit hx hb hown (htw _ k494) (htw _ k242) (htw _ k243) rfl (by rw [hml]; exact hl.1) rfl d_Sha_init_1 (Nat.le_of_ble_eq_true rfl) (Nat.le_of_ble_eq_true rfl) ?_
  refine W.eq (g2 := F0 m 4 ls []) rfl ?_
  refine lv_aload_n hx hb d_Sha_init_4 rfl (lv_at hl 0 rfl) ?_
  refine lv_bipush (v := 8) hx hb d_Sha_init_5 (by decide) ?_
  refine lv_bipush (v := 32) hx hb d_Sha_init_7 (by decide) ?_
  refine wmulti hx hb hown (htw _ k495) (htw _ k238) hC hP hS (k := 8) (n := 32) (by decide) (by decide) (by omega) (by omega) (by omega) d_Sha_init_9 (Nat.le_of_ble_eq_true rfl) (Nat.le_of_ble_eq_true rfl) (fun q15 H hP hS => ?_)
  refine W.widen (k := 9) (n := 264) (by omega) (by omega) ?_
  refine va_put (D := D) (ci := 9) (v := .ref q15) (ty := .array (.array .int)) (C := R_Sha) (T := F_Sha) (N := 8) hx hb htw i_Sha t_Sha t_Sha_ok n_Sha hown hC.1 hP hD hS 0 rfl rfl 1 (by decide) (htw _ k496) (fun _ h9 => h9) rfl (by decide +kernel) rfl rfl (Nat.le_of_ble_eq_true rfl) d_Sha_init_13 (fun H locs hP hD hS => ?_)
  have hP : va_P D classes [(h0, .inr (9, [.int 0, .ref q15, .null, .null, .null, .null, .null, .null])), (to, .inr (1, [.ref ke]))] H := hP
  have hD : va_D A [(h0, .inr (9, [.int 0, .ref q15, .null, .null, .null, .null, .null, .null])), (to, .inr (1, [.ref ke]))] := hD
  refine lv_aload_n hx hb d_Sha_init_16 rfl (lv_at hl 0 rfl) ?_
  refine lv_bipush (v := 8) hx hb d_Sha_init_17 (by decide) ?_
  refine wna_i hx hb (htw _ k238) hC hP hD hS (N := 8) (by decide) (by omega) (Nat.le_of_ble_eq_true rfl) (Nat.le_of_ble_eq_true rfl) d_Sha_init_19 (fun q16 H hP hD hS => ?_)
  have hP : va_P D classes [(h0, .inr (9, [.int 0, .ref q15, .null, .null, .null, .null, .null, .null])), (to, .inr (1, [.ref ke])), (q16, .inl (cI, 8, .inl (fun _ => 0)))] H := hP
  have hD : va_D A [(h0, .inr (9, [.int 0, .ref q15, .null, .null, .null, .null, .null, .null])), (to, .inr (1, [.ref ke])), (q16, .inl (cI, 8, .inl (fun _ => 0)))] := hD
  refine W.widen (k := 10) (n := 272) (by omega) (by omega) ?_
  refine va_putF (D := D) (ci := 9) (v := .ref q16) (ty := .array .int) (C := R_Sha) (T := F_Sha) (N := 8) hx hb htw i_Sha t_Sha t_Sha_ok n_Sha hown hC.1 hP hD hS 0 rfl rfl 2 (by decide) (htw _ k497) (fun _ h9 => h9) rfl hin rfl (by decide +kernel) rfl rfl (Nat.le_of_ble_eq_true rfl) d_Sha_init_21 (fun H locs hP hD hS => ?_)
  have hP : va_P D classes [(h0, .inr (9, [.int 0, .ref q15, .ref q16, .null, .null, .null, .null, .null])), (to, .inr (1, [.ref ke])), (q16, .inl (cI, 8, .inl (fun _ => 0)))] H := hP
  have hD : va_D A [(h0, .inr (9, [.int 0, .ref q15, .ref q16, .null, .null, .null, .null, .null])), (to, .inr (1, [.ref ke])), (q16, .inl (cI, 8, .inl (fun _ => 0)))] := hD
  refine lv_aload_n hx hb d_Sha_init_24 rfl (lv_at hl 0 rfl) ?_
  refine lv_bipush (v := 8) hx hb d_Sha_init_25 (by decide) ?_
  refine wna_i hx hb (htw _ k238) hC hP hD hS (N := 8) (by decide) (by omega) (Nat.le_of_ble_eq_true rfl) (Nat.le_of_ble_eq_true rfl) d_Sha_init_27 (fun q17 H hP hD hS => ?_)
  have hP : va_P D classes [(h0, .inr (9, [.int 0, .ref q15, .ref q16, .null, .null, .null, .null, .null])), (to, .inr (1, [.ref ke])), (q16, .inl (cI, 8, .inl (fun _ => 0))), (q17, .inl (cI, 8, .inl (fun _ => 0)))] H := hP
  have hD : va_D A [(h0, .inr (9, [.int 0, .ref q15, .ref q16, .null, .null, .null, .null, .null])), (to, .inr (1, [.ref ke])), (q16, .inl (cI, 8, .inl (fun _ => 0))), (q17, .inl (cI, 8, .inl (fun _ => 0)))] := hD
  refine W.widen (k := 11) (n := 280) (by omega) (by omega) ?_
  refine va_putF (D := D) (ci := 9) (v := .ref q17) (ty := .array .int) (C := R_Sha) (T := F_Sha) (N := 8) hx hb htw i_Sha t_Sha t_Sha_ok n_Sha hown hC.1 hP hD hS 0 rfl rfl 3 (by decide) (htw _ k498) (fun _ h9 => h9) rfl hin rfl (by decide +kernel) rfl rfl (Nat.le_of_ble_eq_true rfl) d_Sha_init_29 (fun H locs hP hD hS => ?_)
  have hP : va_P D classes [(h0, .inr (9, [.int 0, .ref q15, .ref q16, .ref q17, .null, .null, .null, .null])), (to, .inr (1, [.ref ke])), (q16, .inl (cI, 8, .inl (fun _ => 0))), (q17, .inl (cI, 8, .inl (fun _ => 0)))] H := hP
  have hD : va_D A [(h0, .inr (9, [.int 0, .ref q15, .ref q16, .ref q17, .null, .null, .null, .null])), (to, .inr (1, [.ref ke])), (q16, .inl (cI, 8, .inl (fun _ => 0))), (q17, .inl (cI, 8, .inl (fun _ => 0)))] := hD
  refine lv_aload_n hx hb d_Sha_init_32 rfl (lv_at hl 0 rfl) ?_
  refine lv_bipush (v := 8) hx hb d_Sha_init_33 (by decide) ?_
  refine wna_i hx hb (htw _ k238) hC hP hD hS (N := 8) (by decide) (by omega) (Nat.le_of_ble_eq_true rfl) (Nat.le_of_ble_eq_true rfl) d_Sha_init_35 (fun q18 H hP hD hS => ?_)
  have hP : va_P D classes [(h0, .inr (9, [.int 0, .ref q15, .ref q16, .ref q17, .null, .null, .null, .null])), (to, .inr (1, [.ref ke])), (q16, .inl (cI, 8, .inl (fun _ => 0))), (q17, .inl (cI, 8, .inl (fun _ => 0))), (q18, .inl (cI, 8, .inl (fun _ => 0)))] H := hP
  have hD : va_D A [(h0, .inr (9, [.int 0, .ref q15, .ref q16, .ref q17, .null, .null, .null, .null])), (to, .inr (1, [.ref ke])), (q16, .inl (cI, 8, .inl (fun _ => 0))), (q17, .inl (cI, 8, .inl (fun _ => 0))), (q18, .inl (cI, 8, .inl (fun _ => 0)))] := hD
  refine W.widen (k := 12) (n := 288) (by omega) (by omega) ?_
  refine va_putF (D := D) (ci := 9) (v := .ref q18) (ty := .array .int) (C := R_Sha) (T := F_Sha) (N := 8) hx hb htw i_Sha t_Sha t_Sha_ok n_Sha hown hC.1 hP hD hS 0 rfl rfl 4 (by decide) (htw _ k499) (fun _ h9 => h9) rfl hin rfl (by decide +kernel) rfl rfl (Nat.le_of_ble_eq_true rfl) d_Sha_init_37 (fun H locs hP hD hS => ?_)
  have hP : va_P D classes [(h0, .inr (9, [.int 0, .ref q15, .ref q16, .ref q17, .ref q18, .null, .null, .null])), (to, .inr (1, [.ref ke])), (q16, .inl (cI, 8, .inl (fun _ => 0))), (q17, .inl (cI, 8, .inl (fun _ => 0))), (q18, .inl (cI, 8, .inl (fun _ => 0)))] H := hP
  have hD : va_D A [(h0, .inr (9, [.int 0, .ref q15, .ref q16, .ref q17, .ref q18, .null, .null, .null])), (to, .inr (1, [.ref ke])), (q16, .inl (cI, 8, .inl (fun _ => 0))), (q17, .inl (cI, 8, .inl (fun _ => 0))), (q18, .inl (cI, 8, .inl (fun _ => 0)))] := hD
  refine lv_aload_n hx hb d_Sha_init_40 rfl (lv_at hl 0 rfl) ?_
  refine lv_bipush (v := 8) hx hb d_Sha_init_41 (by decide) ?_
  refine wna_i hx hb (htw _ k238) hC hP hD hS (N := 8) (by decide) (by omega) (Nat.le_of_ble_eq_true rfl) (Nat.le_of_ble_eq_true rfl) d_Sha_init_43 (fun q19 H hP hD hS => ?_)
  have hP : va_P D classes [(h0, .inr (9, [.int 0, .ref q15, .ref q16, .ref q17, .ref q18, .null, .null, .null])), (to, .inr (1, [.ref ke])), (q16, .inl (cI, 8, .inl (fun _ => 0))), (q17, .inl (cI, 8, .inl (fun _ => 0))), (q18, .inl (cI, 8, .inl (fun _ => 0))), (q19, .inl (cI, 8, .inl (fun _ => 0)))] H := hP
  have hD : va_D A [(h0, .inr (9, [.int 0, .ref q15, .ref q16, .ref q17, .ref q18, .null, .null, .null])), (to, .inr (1, [.ref ke])), (q16, .inl (cI, 8, .inl (fun _ => 0))), (q17, .inl (cI, 8, .inl (fun _ => 0))), (q18, .inl (cI, 8, .inl (fun _ => 0))), (q19, .inl (cI, 8, .inl (fun _ => 0)))] := hD
  refine W.widen (k := 13) (n := 296) (by omega) (by omega) ?_
  refine va_putF (D := D) (ci := 9) (v := .ref q19) (ty := .array .int) (C := R_Sha) (T := F_Sha) (N := 8) hx hb htw i_Sha t_Sha t_Sha_ok n_Sha hown hC.1 hP hD hS 0 rfl rfl 5 (by decide) (htw _ k500) (fun _ h9 => h9) rfl hin rfl (by decide +kernel) rfl rfl (Nat.le_of_ble_eq_true rfl) d_Sha_init_45 (fun H locs hP hD hS => ?_)
  have hP : va_P D classes [(h0, .inr (9, [.int 0, .ref q15, .ref q16, .ref q17, .ref q18, .ref q19, .null, .null])), (to, .inr (1, [.ref ke])), (q16, .inl (cI, 8, .inl (fun _ => 0))), (q17, .inl (cI, 8, .inl (fun _ => 0))), (q18, .inl (cI, 8, .inl (fun _ => 0))), (q19, .inl (cI, 8, .inl (fun _ => 0)))] H := hP
  have hD : va_D A [(h0, .inr (9, [.int 0, .ref q15, .ref q16, .ref q17, .ref q18, .ref q19, .null, .null])), (to, .inr (1, [.ref ke])), (q16, .inl (cI, 8, .inl (fun _ => 0))), (q17, .inl (cI, 8, .inl (fun _ => 0))), (q18, .inl (cI, 8, .inl (fun _ => 0))), (q19, .inl (cI, 8, .inl (fun _ => 0)))] := hD
  refine lv_aload_n hx hb d_Sha_init_48 rfl (lv_at hl 0 rfl) ?_
  refine lv_bipush (v := 8) hx hb d_Sha_init_49 (by decide) ?_
  refine lv_bipush (v := 32) hx hb d_Sha_init_51 (by decide) ?_
  refine wmulti hx hb hown (htw _ k495) (htw _ k238) hC hP hS (k := 8) (n := 32) (by decide) (by decide) (by omega) (by omega) (by omega) d_Sha_init_53 (Nat.le_of_ble_eq_true rfl) (Nat.le_of_ble_eq_true rfl) (fun q20 H hP hS => ?_)
  refine W.widen (k := 22) (n := 560) (by omega) (by omega) ?_
  refine va_put (D := D) (ci := 9) (v := .ref q20) (ty := .array (.array .int)) (C := R_Sha) (T := F_Sha) (N := 8) hx hb htw i_Sha t_Sha t_Sha_ok n_Sha hown hC.1 hP hD hS 0 rfl rfl 6 (by decide) (htw _ k501) (fun _ h9 => h9) rfl (by decide +kernel) rfl rfl (Nat.le_of_ble_eq_true rfl) d_Sha_init_57 (fun H locs hP hD hS => ?_)
  have hP : va_P D classes [(h0, .inr (9, [.int 0, .ref q15, .ref q16, .ref q17, .ref q18, .ref q19, .ref q20, .null])), (to, .inr (1, [.ref ke])), (q16, .inl (cI, 8, .inl (fun _ => 0))), (q17, .inl (cI, 8, .inl (fun _ => 0))), (q18, .inl (cI, 8, .inl (fun _ => 0))), (q19, .inl (cI, 8, .inl (fun _ => 0)))] H := hP
  have hD : va_D A [(h0, .inr (9, [.int 0, .ref q15, .ref q16, .ref q17, .ref q18, .ref q19, .ref q20, .null])), (to, .inr (1, [.ref ke])), (q16, .inl (cI, 8, .inl (fun _ => 0))), (q17, .inl (cI, 8, .inl (fun _ => 0))), (q18, .inl (cI, 8, .inl (fun _ => 0))), (q19, .inl (cI, 8, .inl (fun _ => 0)))] := hD
  refine lv_aload_n hx hb d_Sha_init_60 rfl (lv_at hl 0 rfl) ?_
  refine lv_aload_n hx hb d_Sha_init_61 rfl (lv_at hl 1 rfl) ?_
  refine va_get (D := D) (ci := 1) (v := .ref ke) (C := R_Told) (T := F_Told) (N := 1) hx hb htw i_Told hown hC.1 hP 1 rfl rfl 0 (by decide) (htw _ k502) (fun _ h9 => h9) rfl d_Sha_init_62 ?_
  refine va_putF (D := D) (ci := 9) (v := .ref ke) (ty := .array .int) (C := R_Sha) (T := F_Sha) (N := 8) hx hb htw i_Sha t_Sha t_Sha_ok n_Sha hown hC.1 hP hD hS 0 rfl rfl 7 (by decide) (htw _ k503) (fun _ h9 => h9) rfl hin rfl (by decide +kernel) rfl rfl (Nat.le_of_ble_eq_true rfl) d_Sha_init_65 (fun H locs hP hD hS => ?_)
  have hP : va_P D classes [(h0, .inr (9, [.int 0, .ref q15, .ref q16, .ref q17, .ref q18, .ref q19, .ref q20, .ref ke])), (to, .inr (1, [.ref ke])), (q16, .inl (cI, 8, .inl (fun _ => 0))), (q17, .inl (cI, 8, .inl (fun _ => 0))), (q18, .inl (cI, 8, .inl (fun _ => 0))), (q19, .inl (cI, 8, .inl (fun _ => 0)))] H := hP
  have hD : va_D A [(h0, .inr (9, [.int 0, .ref q15, .ref q16, .ref q17, .ref q18, .ref q19, .ref q20, .ref ke])), (to, .inr (1, [.ref ke])), (q16, .inl (cI, 8, .inl (fun _ => 0))), (q17, .inl (cI, 8, .inl (fun _ => 0))), (q18, .inl (cI, 8, .inl (fun _ => 0))), (q19, .inl (cI, 8, .inl (fun _ => 0)))] := hD
  refine W.widen (k := 22) (n := 560) (Nat.le_of_ble_eq_true rfl) (Nat.le_of_ble_eq_true rfl) ?_
  have hP9 := hP.sub (ws' := [(to, .inr (1, [.ref ke]))]) [1] rfl
  have hD9 := hD.sub (ws' := [(to, .inr (1, [.ref ke]))]) [1] (by decide) rfl
  exact W.vret hx hb hr (fun t ht hW => ⟨⟨(), rfl, trivial, by rw [ht]; exact hP9, va_K.moved hW.alike hC.1, hD9⟩, hS.F ht⟩) hS.2.2 d_Sha_init_68

theorem d_Cov_init_0 : decode prog_4_method_1_code 0 = .ok (.aload_n 0, 1) := by decide +kernel
theorem d_Cov_init_1 : decode prog_4_method_1_code 1 = .ok (.invokespecial 3, 3) := by decide +kernel
theorem d_Cov_init_4 : decode prog_4_method_1_code 4 = .ok (.aload_n 0, 1) := by decide +kernel
theorem d_Cov_init_5 : decode prog_4_method_1_code 5 = .ok (.iconst 3, 1) := by decide +kernel
theorem d_Cov_init_6 : decode prog_4_method_1_code 6 = .ok (.newarray .int, 2) := by decide +kernel
theorem d_Cov_init_8 : decode prog_4_method_1_code 8 = .ok (.putfield 9, 3) := by decide +kernel
theorem d_Cov_init_11 : decode prog_4_method_1_code 11 = .ok (.aload_n 0, 1) := by decide +kernel
theorem d_Cov_init_12 : decode prog_4_method_1_code 12 = .ok (.iconst 3, 1) := by decide +kernel
theorem d_Cov_init_13 : decode prog_4_method_1_code 13 = .ok (.newarray .long, 2) := by decide +kernel
theorem d_Cov_init_15 : decode prog_4_method_1_code 15 = .ok (.putfield 15, 3) := by decide +kernel
theorem d_Cov_init_18 : decode prog_4_method_1_code 18 = .ok (.aload_n 0, 1) := by decide +kernel
theorem d_Cov_init_19 : decode prog_4_method_1_code 19 = .ok (.iconst 3, 1) := by decide +kernel
theorem d_Cov_init_20 : decode prog_4_method_1_code 20 = .ok (.newarray .long, 2) := by decide +kernel
theorem d_Cov_init_22 : decode prog_4_method_1_code 22 = .ok (.putfield 19, 3) := by decide +kernel
theorem d_Cov_init_25 : decode prog_4_method_1_code 25 = .ok (.aload_n 0, 1) := by decide +kernel
theorem d_Cov_init_26 : decode prog_4_method_1_code 26 = .ok (.iconst 3, 1) := by decide +kernel
theorem d_Cov_init_27 : decode prog_4_method_1_code 27 = .ok (.newarray .long, 2) := by decide +kernel
theorem d_Cov_init_29 : decode prog_4_method_1_code 29 = .ok (.putfield 22, 3) := by decide +kernel
theorem d_Cov_init_32 : decode prog_4_method_1_code 32 = .ok (.aload_n 0, 1) := by decide +kernel
theorem d_Cov_init_33 : decode prog_4_method_1_code 33 = .ok (.iconst 3, 1) := by decide +kernel
theorem d_Cov_init_34 : decode prog_4_method_1_code 34 = .ok (.newarray .long, 2) := by decide +kernel
theorem d_Cov_init_36 : decode prog_4_method_1_code 36 = .ok (.putfield 25, 3) := by decide +kernel
theorem d_Cov_init_39 : decode prog_4_method_1_code 39 = .ok (.aload_n 0, 1) := by decide +kernel
theorem d_Cov_init_40 : decode prog_4_method_1_code 40 = .ok (.iconst 3, 1) := by decide +kernel
theorem d_Cov_init_41 : decode prog_4_method_1_code 41 = .ok (.newarray .long, 2) := by decide +kernel
theorem d_Cov_init_43 : decode prog_4_method_1_code 43 = .ok (.putfield 28, 3) := by decide +kernel
theorem d_Cov_init_46 : decode prog_4_method_1_code 46 = .ok (.aload_n 0, 1) := by decide +kernel
theorem d_Cov_init_47 : decode prog_4_method_1_code 47 = .ok (.iconst 3, 1) := by decide +kernel
theorem d_Cov_init_48 : decode prog_4_method_1_code 48 = .ok (.newarray .long, 2) := by decide +kernel
theorem d_Cov_init_50 : decode prog_4_method_1_code 50 = .ok (.putfield 31, 3) := by decide +kernel
theorem d_Cov_init_53 : decode prog_4_method_1_code 53 = .ok (.aload_n 0, 1) := by decide +kernel
theorem d_Cov_init_54 : decode prog_4_method_1_code 54 = .ok (.aload_n 1, 1) := by decide +kernel
theorem d_Cov_init_55 : decode prog_4_method_1_code 55 = .ok (.putfield 34, 3) := by decide +kernel
theorem d_Cov_init_58 : decode prog_4_method_1_code 58 = .ok (.return_, 1) := by decide +kernel
set_option maxHeartbeats 4000000 in
set_option maxRecDepth 100000 in
theorem c_Cov_init (l : Launch) (D : va_G) (cI cL : ClassId) (B sz : Nat) (h0 : Nat) (sh : Nat) : Met l y_Cov_init ((Cond.code y_Cov_init prog_4_method_1_code 2 none) :: tw) ({ frames := 20, cells := 7, slots := 21, locals := 2000 }) (va_Pc [.ref h0, .ref sh] (wP D cI cL B sz [(h0, .inr (10, [.int 0, .int 0, .int 0, .int 0, .int 0, .null, .null, .null, .null, .null, .null, .null, .null, .long 0, .long 0]))])) (va_Qv (S := Unit) (fun _ => True) (fun u => wB D cI cL (va_A [(h0, .inr (10, [.int 0, .int 0, .int 0, .int 0, .int 0, .null, .null, .null, .null, .null, .null, .null, .null, .long 0, .long 0]))] sz) ((fun _ : Unit => []) u)) (va_A [(h0, .inr (10, [.int 0, .int 0, .int 0, .int 0, .int 0, .null, .null, .null, .null, .null, .null, .null, .null, .long 0, .long 0]))] sz)) 7 21 (va_A [(h0, .inr (10, [.int 0, .int 0, .int 0, .int 0, .int 0, .null, .null, .null, .null, .null, .null, .null, .null, .long 0, .long 0]))] sz) := by
  refine Met.ofW (cc := prog_4_method_1_code) (maxL := 2) (ret := none) (by decide) rfl ?_
  intro p e s m args below meth c s₁ B0 hml hv
  obtain ⟨rfl, hv⟩ := hv
  have hx := B0.exec
  have hb := B0.bytes
  have hr := B0.returns
  have hts := atoms_spec (ws := (Cond.code y_Cov_init prog_4_method_1_code 2 none) :: tw) B0.pre
  have htw : ∀ w ∈ tw, w.before _ s = true := fun w hw => hts w (List.mem_cons_of_mem _ hw)
  have hown : s.vm.findClass "DrawingMachine$Covering" = some m.cls := findClass_of_methodNamed B0.named
  have hlocks := B0.notSynchronized
  have hin : meth.name = "<init>" := (name_of_methodNamed B0.named B0.method).1
  obtain ⟨hC, hP, hD, hsz⟩ := wC_init hv
  subst hsz
  generalize hAe : va_A [(h0, .inr (10, [.int 0, .int 0, .int 0, .int 0, .int 0, .null, .null, .null, .null, .null, .null, .null, .null, .long 0, .long 0]))] s.heap.size = A at hC hD ⊢
  have hS : va_S A s.heap s.heap [] := va_S.rf
  have hl := lv_entry ([.ref h0, .ref sh]) (n := 2) (Nat.le_of_ble_eq_true rfl)
  rw [lg_entry_eq]
  generalize (lg_sl ([.ref h0, .ref sh]) ++ List.replicate (2 - (lg_sl ([.ref h0, .ref sh])).length) Slot.unset).toArray = ls at hl ⊢
  have hl : lv_has ls 2 [(0, .ref h0), (1, .ref sh)] := hl
  refine lv_aload_n hx hb d_Cov_init_0 rfl (lv_at hl 0 rfl) ?_
  refine W.objInit hx hb hown (htw _ k504) (htw _ k242) (htw _ k243) rfl (by rw [hml]; exact hl.1) rfl d_Cov_init_1 (Nat.le_of_ble_eq_true rfl) (Nat.le_of_ble_eq_true rfl) ?_
  refine W.eq (g2 := F0 m 4 ls []) rfl ?_
  refine lv_aload_n hx hb d_Cov_init_4 rfl (lv_at hl 0 rfl) ?_
  refine lv_iconst (v := 3) hx hb d_Cov_init_5 (by decide) ?_
  refine wna_i hx hb (htw _ k238) hC hP hD hS (N := 3) (by decide) (by omega) (Nat.le_of_ble_eq_true rfl) (Nat.le_of_ble_eq_true rfl) d_Cov_init_6 (fun q21 H hP hD hS => ?_)
  have hP : va_P D classes [(h0, .inr (10, [.int 0, .int 0, .int 0, .int 0, .int 0, .null, .null, .null, .null, .null, .null, .null, .null, .long 0, .long 0])), (q21, .inl (cI, 3, .inl (fun _ => 0)))] H := hP
  have hD : va_D A [(h0, .inr (10, [.int 0, .int 0, .int 0, .int 0, .int 0, .null, .null, .null, .null, .null, .null, .null, .null, .long 0, .long 0])), (q21, .inl (cI, 3, .inl (fun _ => 0)))] := hD
  refine W.widen (k := 1) (n := 3) (by omega) (by omega) ?_
  refine va_putF (D := D) (ci := 10) (v := .ref q21) (ty := .array .int) (C := R_Cov) (T := F_Cov) (N := 15) hx hb htw i_Cov t_Cov t_Cov_ok n_Cov hown hC.1 hP hD hS 0 rfl rfl 6 (by decide) (htw _ k505) (fun _ h9 => h9) rfl hin rfl (by decide +kernel) rfl rfl (Nat.le_of_ble_eq_true rfl) d_Cov_init_8 (fun H locs hP hD hS => ?_)
  have hP : va_P D classes [(h0, .inr (10, [.int 0, .int 0, .int 0, .int 0, .int 0, .null, .ref q21, .null, .null, .null, .null, .null, .null, .long 0, .long 0])), (q21, .inl (cI, 3, .inl (fun _ => 0)))] H := hP
  have hD : va_D A [(h0, .inr (10, [.int 0, .int 0, .int 0, .int 0, .int 0, .null, .ref q21, .null, .null, .null, .null, .null, .null, .long 0, .long 0])), (q21, .inl (cI, 3, .inl (fun _ => 0)))] := hD
  refine lv_aload_n hx hb d_Cov_init_11 rfl (lv_at hl 0 rfl) ?_
  refine lv_iconst (v := 3) hx hb d_Cov_init_12 (by decide) ?_
  refine wna_l hx hb (htw _ k239) hC hP hD hS (N := 3) (by decide) (by omega) (Nat.le_of_ble_eq_true rfl) (Nat.le_of_ble_eq_true rfl) d_Cov_init_13 (fun q22 H hP hD hS => ?_)
  have hP : va_P D classes [(h0, .inr (10, [.int 0, .int 0, .int 0, .int 0, .int 0, .null, .ref q21, .null, .null, .null, .null, .null, .null, .long 0, .long 0])), (q21, .inl (cI, 3, .inl (fun _ => 0))), (q22, .inl (cL, 3, .inr (.inl (fun _ => 0))))] H := hP
  have hD : va_D A [(h0, .inr (10, [.int 0, .int 0, .int 0, .int 0, .int 0, .null, .ref q21, .null, .null, .null, .null, .null, .null, .long 0, .long 0])), (q21, .inl (cI, 3, .inl (fun _ => 0))), (q22, .inl (cL, 3, .inr (.inl (fun _ => 0))))] := hD
  refine W.widen (k := 2) (n := 6) (by omega) (by omega) ?_
  refine va_putF (D := D) (ci := 10) (v := .ref q22) (ty := .array .long) (C := R_Cov) (T := F_Cov) (N := 15) hx hb htw i_Cov t_Cov t_Cov_ok n_Cov hown hC.1 hP hD hS 0 rfl rfl 7 (by decide) (htw _ k506) (fun _ h9 => h9) rfl hin rfl (by decide +kernel) rfl rfl (Nat.le_of_ble_eq_true rfl) d_Cov_init_15 (fun H locs hP hD hS => ?_)
  have hP : va_P D classes [(h0, .inr (10, [.int 0, .int 0, .int 0, .int 0, .int 0, .null, .ref q21, .ref q22, .null, .null, .null, .null, .null, .long 0, .long 0])), (q21, .inl (cI, 3, .inl (fun _ => 0))), (q22, .inl (cL, 3, .inr (.inl (fun _ => 0))))] H := hP
  have hD : va_D A [(h0, .inr (10, [.int 0, .int 0, .int 0, .int 0, .int 0, .null, .ref q21, .ref q22, .null, .null, .null, .null, .null, .long 0, .long 0])), (q21, .inl (cI, 3, .inl (fun _ => 0))), (q22, .inl (cL, 3, .inr (.inl (fun _ => 0))))] := hD
  refine lv_aload_n hx hb d_Cov_init_18 rfl (lv_at hl 0 rfl) ?_
  refine lv_iconst (v := 3) hx hb d_Cov_init_19 (by decide) ?_
  refine wna_l hx hb (htw _ k239) hC hP hD hS (N := 3) (by decide) (by omega) (Nat.le_of_ble_eq_true rfl) (Nat.le_of_ble_eq_true rfl) d_Cov_init_20 (fun q23 H hP hD hS => ?_)
  have hP : va_P D classes [(h0, .inr (10, [.int 0, .int 0, .int 0, .int 0, .int 0, .null, .ref q21, .ref q22, .null, .null, .null, .null, .null, .long 0, .long 0])), (q21, .inl (cI, 3, .inl (fun _ => 0))), (q22, .inl (cL, 3, .inr (.inl (fun _ => 0)))), (q23, .inl (cL, 3, .inr (.inl (fun _ => 0))))] H := hP
  have hD : va_D A [(h0, .inr (10, [.int 0, .int 0, .int 0, .int 0, .int 0, .null, .ref q21, .ref q22, .null, .null, .null, .null, .null, .long 0, .long 0])), (q21, .inl (cI, 3, .inl (fun _ => 0))), (q22, .inl (cL, 3, .inr (.inl (fun _ => 0)))), (q23, .inl (cL, 3, .inr (.inl (fun _ => 0))))] := hD
  refine W.widen (k := 3) (n := 9) (by omega) (by omega) ?_
  refine va_putF (D := D) (ci := 10) (v := .ref q23) (ty := .array .long) (C := R_Cov) (T := F_Cov) (N := 15) hx hb htw i_Cov t_Cov t_Cov_ok n_Cov hown hC.1 hP hD hS 0 rfl rfl 8 (by decide) (htw _ k507) (fun _ h9 => h9) rfl hin rfl (by decide +kernel) rfl rfl (Nat.le_of_ble_eq_true rfl) d_Cov_init_22 (fun H locs hP hD hS => ?_)
  have hP : va_P D classes [(h0, .inr (10, [.int 0, .int 0, .int 0, .int 0, .int 0, .null, .ref q21, .ref q22, .ref q23, .null, .null, .null, .null, .long 0, .long 0])), (q21, .inl (cI, 3, .inl (fun _ => 0))), (q22, .inl (cL, 3, .inr (.inl (fun _ => 0)))), (q23, .inl (cL, 3, .inr (.inl (fun _ => 0))))] H := hP
  have hD : va_D A [(h0, .inr (10, [.int 0, .int 0, .int 0, .int 0, .int 0, .null, .ref q21, .ref q22, .ref q23, .null, .null, .null, .null, .long 0, .long 0])), (q21, .inl (cI, 3, .inl (fun _ => 0))), (q22, .inl (cL, 3, .inr (.inl (fun _ => 0)))), (q23, .inl (cL, 3, .inr (.inl (fun _ => 0))))] := hD
  refine lv_aload_n hx hb d_Cov_init_25 rfl (lv_at hl 0 rfl) ?_
  refine lv_iconst (v := 3) hx hb d_Cov_init_26 (by decide) ?_
  refine wna_l hx hb (htw _ k239) hC hP hD hS (N := 3) (by decide) (by omega) (Nat.le_of_ble_eq_true rfl) (Nat.le_of_ble_eq_true rfl) d_Cov_init_27 (fun q24 H hP hD hS => ?_)
  have hP : va_P D classes [(h0, .inr (10, [.int 0, .int 0, .int 0, .int 0, .int 0, .null, .ref q21, .ref q22, .ref q23, .null, .null, .null, .null, .long 0, .long 0])), (q21, .inl (cI, 3, .inl (fun _ => 0))), (q22, .inl (cL, 3, .inr (.inl (fun _ => 0)))), (q23, .inl (cL, 3, .inr (.inl (fun _ => 0)))), (q24, .inl (cL, 3, .inr (.inl (fun _ => 0))))] H := hP
  have hD : va_D A [(h0, .inr (10, [.int 0, .int 0, .int 0, .int 0, .int 0, .null, .ref q21, .ref q22, .ref q23, .null, .null, .null, .null, .long 0, .long 0])), (q21, .inl (cI, 3, .inl (fun _ => 0))), (q22, .inl (cL, 3, .inr (.inl (fun _ => 0)))), (q23, .inl (cL, 3, .inr (.inl (fun _ => 0)))), (q24, .inl (cL, 3, .inr (.inl (fun _ => 0))))] := hD
  refine W.widen (k := 4) (n := 12) (by omega) (by omega) ?_
  refine va_putF (D := D) (ci := 10) (v := .ref q24) (ty := .array .long) (C := R_Cov) (T := F_Cov) (N := 15) hx hb htw i_Cov t_Cov t_Cov_ok n_Cov hown hC.1 hP hD hS 0 rfl rfl 9 (by decide) (htw _ k508) (fun _ h9 => h9) rfl hin rfl (by decide +kernel) rfl rfl (Nat.le_of_ble_eq_true rfl) d_Cov_init_29 (fun H locs hP hD hS => ?_)
  have hP : va_P D classes [(h0, .inr (10, [.int 0, .int 0, .int 0, .int 0, .int 0, .null, .ref q21, .ref q22, .ref q23, .ref q24, .null, .null, .null, .long 0, .long 0])), (q21, .inl (cI, 3, .inl (fun _ => 0))), (q22, .inl (cL, 3, .inr (.inl (fun _ => 0)))), (q23, .inl (cL, 3, .inr (.inl (fun _ => 0)))), (q24, .inl (cL, 3, .inr (.inl (fun _ => 0))))] H := hP
  have hD : va_D A [(h0, .inr (10, [.int 0, .int 0, .int 0, .int 0, .int 0, .null, .ref q21, .ref q22, .ref q23, .ref q24, .null, .null, .null, .long 0, .long 0])), (q21, .inl (cI, 3, .inl (fun _ => 0))), (q22, .inl (cL, 3, .inr (.inl (fun _ => 0)))), (q23, .inl (cL, 3, .inr (.inl (fun _ => 0)))), (q24, .inl (cL, 3, .inr (.inl (fun _ => 0))))] := hD
  refine lv_aload_n hx hb d_Cov_init_32 rfl (lv_at hl 0 rfl) ?_
  refine lv_iconst (v := 3) hx hb d_Cov_init_33 (by decide) ?_
  refine wna_l hx hb (htw _ k239) hC hP hD hS (N := 3) (by decide) (by omega) (Nat.le_of_ble_eq_true rfl) (Nat.le_of_ble_eq_true rfl) d_Cov_init_34 (fun q25 H hP hD hS => ?_)
  have hP : va_P D classes [(h0, .inr (10, [.int 0, .int 0, .int 0, .int 0, .int 0, .null, .ref q21, .ref q22, .ref q23, .ref q24, .null, .null, .null, .long 0, .long 0])), (q21, .inl (cI, 3, .inl (fun _ => 0))), (q22, .inl (cL, 3, .inr (.inl (fun _ => 0)))), (q23, .inl (cL, 3, .inr (.inl (fun _ => 0)))), (q24, .inl (cL, 3, .inr (.inl (fun _ => 0)))), (q25, .inl (cL, 3, .inr (.inl (fun _ => 0))))] H := hP
  have hD : va_D A [(h0, .inr (10, [.int 0, .int 0, .int 0, .int 0, .int 0, .null, .ref q21, .ref q22, .ref q23, .ref q24, .null, .null, .null, .long 0, .long 0])), (q21, .inl (cI, 3, .inl (fun _ => 0))), (q22, .inl (cL, 3, .inr (.inl (fun _ => 0)))), (q23, .inl (cL, 3, .inr (.inl (fun _ => 0)))), (q24, .inl (cL, 3, .inr (.inl (fun _ => 0)))), (q25, .inl (cL, 3, .inr (.inl (fun _ => 0))))] := hD
  refine W.widen (k := 5) (n := 15) (by omega) (by omega) ?_
  refine va_putF (D := D) (ci := 10) (v := .ref q25) (ty := .array .long) (C := R_Cov) (T := F_Cov) (N := 15) hx hb htw i_Cov t_Cov t_Cov_ok n_Cov hown hC.1 hP hD hS 0 rfl rfl 10 (by decide) (htw _ k509) (fun _ h9 => h9) rfl hin rfl (by decide +kernel) rfl rfl (Nat.le_of_ble_eq_true rfl) d_Cov_init_36 (fun H locs hP hD hS => ?_)
  have hP : va_P D classes [(h0, .inr (10, [.int 0, .int 0, .int 0, .int 0, .int 0, .null, .ref q21, .ref q22, .ref q23, .ref q24, .ref q25, .null, .null, .long 0, .long 0])), (q21, .inl (cI, 3, .inl (fun _ => 0))), (q22, .inl (cL, 3, .inr (.inl (fun _ => 0)))), (q23, .inl (cL, 3, .inr (.inl (fun _ => 0)))), (q24, .inl (cL, 3, .inr (.inl (fun _ => 0)))), (q25, .inl (cL, 3, .inr (.inl (fun _ => 0))))] H := hP
  have hD : va_D A [(h0, .inr (10, [.int 0, .int 0, .int 0, .int 0, .int 0, .null, .ref q21, .ref q22, .ref q23, .ref q24, .ref q25, .null, .null, .long 0, .long 0])), (q21, .inl (cI, 3, .inl (fun _ => 0))), (q22, .inl (cL, 3, .inr (.inl (fun _ => 0)))), (q23, .inl (cL, 3, .inr (.inl (fun _ => 0)))), (q24, .inl (cL, 3, .inr (.inl (fun _ => 0)))), (q25, .inl (cL, 3, .inr (.inl (fun _ => 0))))] := hD
  refine lv_aload_n hx hb d_Cov_init_39 rfl (lv_at hl 0 rfl) ?_
  refine lv_iconst (v := 3) hx hb d_Cov_init_40 (by decide) ?_
  refine wna_l hx hb (htw _ k239) hC hP hD hS (N := 3) (by decide) (by omega) (Nat.le_of_ble_eq_true rfl) (Nat.le_of_ble_eq_true rfl) d_Cov_init_41 (fun q26 H hP hD hS => ?_)
  have hP : va_P D classes [(h0, .inr (10, [.int 0, .int 0, .int 0, .int 0, .int 0, .null, .ref q21, .ref q22, .ref q23, .ref q24, .ref q25, .null, .null, .long 0, .long 0])), (q21, .inl (cI, 3, .inl (fun _ => 0))), (q22, .inl (cL, 3, .inr (.inl (fun _ => 0)))), (q23, .inl (cL, 3, .inr (.inl (fun _ => 0)))), (q24, .inl (cL, 3, .inr (.inl (fun _ => 0)))), (q25, .inl (cL, 3, .inr (.inl (fun _ => 0)))), (q26, .inl (cL, 3, .inr (.inl (fun _ => 0))))] H := hP
  have hD : va_D A [(h0, .inr (10, [.int 0, .int 0, .int 0, .int 0, .int 0, .null, .ref q21, .ref q22, .ref q23, .ref q24, .ref q25, .null, .null, .long 0, .long 0])), (q21, .inl (cI, 3, .inl (fun _ => 0))), (q22, .inl (cL, 3, .inr (.inl (fun _ => 0)))), (q23, .inl (cL, 3, .inr (.inl (fun _ => 0)))), (q24, .inl (cL, 3, .inr (.inl (fun _ => 0)))), (q25, .inl (cL, 3, .inr (.inl (fun _ => 0)))), (q26, .inl (cL, 3, .inr (.inl (fun _ => 0))))] := hD
  refine W.widen (k := 6) (n := 18) (by omega) (by omega) ?_
  refine va_putF (D := D) (ci := 10) (v := .ref q26) (ty := .array .long) (C := R_Cov) (T := F_Cov) (N := 15) hx hb htw i_Cov t_Cov t_Cov_ok n_Cov hown hC.1 hP hD hS 0 rfl rfl 11 (by decide) (htw _ k510) (fun _ h9 => h9) rfl hin rfl (by decide +kernel) rfl rfl (Nat.le_of_ble_eq_true rfl) d_Cov_init_43 (fun H locs hP hD hS => ?_)
  have hP : va_P D classes [(h0, .inr (10, [.int 0, .int 0, .int 0, .int 0, .int 0, .null, .ref q21, .ref q22, .ref q23, .ref q24, .ref q25, .ref q26, .null, .long 0, .long 0])), (q21, .inl (cI, 3, .inl (fun _ => 0))), (q22, .inl (cL, 3, .inr (.inl (fun _ => 0)))), (q23, .inl (cL, 3, .inr (.inl (fun _ => 0)))), (q24, .inl (cL, 3, .inr (.inl (fun _ => 0)))), (q25, .inl (cL, 3, .inr (.inl (fun _ => 0)))), (q26, .inl (cL, 3, .inr (.inl (fun _ => 0))))] H := hP
  have hD : va_D A [(h0, .inr (10, [.int 0, .int 0, .int 0, .int 0, .int 0, .null, .ref q21, .ref q22, .ref q23, .ref q24, .ref q25, .ref q26, .null, .long 0, .long 0])), (q21, .inl (cI, 3, .inl (fun _ => 0))), (q22, .inl (cL, 3, .inr (.inl (fun _ => 0)))), (q23, .inl (cL, 3, .inr (.inl (fun _ => 0)))), (q24, .inl (cL, 3, .inr (.inl (fun _ => 0)))), (q25, .inl (cL, 3, .inr (.inl (fun _ => 0)))), (q26, .inl (cL, 3, .inr (.inl (fun _ => 0))))] := hD
  refine lv_aload_n hx hb d_Cov_init_46 rfl (lv_at hl 0 rfl) ?_
  refine lv_iconst (v := 3) hx hb d_Cov_init_47 (by decide) ?_
  refine wna_l hx hb (htw _ k239) hC hP hD hS (N := 3) (by decide) (by omega) (Nat.le_of_ble_eq_true rfl) (Nat.le_of_ble_eq_true rfl) d_Cov_init_48 (fun q27 H hP hD hS => ?_)
  have hP : va_P D classes [(h0, .inr (10, [.int 0, .int 0, .int 0, .int 0, .int 0, .null, .ref q21, .ref q22, .ref q23, .ref q24, .ref q25, .ref q26, .null, .long 0, .long 0])), (q21, .inl (cI, 3, .inl (fun _ => 0))), (q22, .inl (cL, 3, .inr (.inl (fun _ => 0)))), (q23, .inl (cL, 3, .inr (.inl (fun _ => 0)))), (q24, .inl (cL, 3, .inr (.inl (fun _ => 0)))), (q25, .inl (cL, 3, .inr (.inl (fun _ => 0)))), (q26, .inl (cL, 3, .inr (.inl (fun _ => 0)))), (q27, .inl (cL, 3, .inr (.inl (fun _ => 0))))] H := hP
  have hD : va_D A [(h0, .inr (10, [.int 0, .int 0, .int 0, .int 0, .int 0, .null, .ref q21, .ref q22, .ref q23, .ref q24, .ref q25, .ref q26, .null, .long 0, .long 0])), (q21, .inl (cI, 3, .inl (fun _ => 0))), (q22, .inl (cL, 3, .inr (.inl (fun _ => 0)))), (q23, .inl (cL, 3, .inr (.inl (fun _ => 0)))), (q24, .inl (cL, 3, .inr (.inl (fun _ => 0)))), (q25, .inl (cL, 3, .inr (.inl (fun _ => 0)))), (q26, .inl (cL, 3, .inr (.inl (fun _ => 0)))), (q27, .inl (cL, 3, .inr (.inl (fun _ => 0))))] := hD
  refine W.widen (k := 7) (n := 21) (by omega) (by omega) ?_
  refine va_putF (D := D) (ci := 10) (v := .ref q27) (ty := .array .long) (C := R_Cov) (T := F_Cov) (N := 15) hx hb htw i_Cov t_Cov t_Cov_ok n_Cov hown hC.1 hP hD hS 0 rfl rfl 12 (by decide) (htw _ k511) (fun _ h9 => h9) rfl hin rfl (by decide +kernel) rfl rfl (Nat.le_of_ble_eq_true rfl) d_Cov_init_50 (fun H locs hP hD hS => ?_)
  have hP : va_P D classes [(h0, .inr (10, [.int 0, .int 0, .int 0, .int 0, .int 0, .null, .ref q21, .ref q22, .ref q23, .ref q24, .ref q25, .ref q26, .ref q27, .long 0, .long 0])), (q21, .inl (cI, 3, .inl (fun _ => 0))), (q22, .inl (cL, 3, .inr (.inl (fun _ => 0)))), (q23, .inl (cL, 3, .inr (.inl (fun _ => 0)))), (q24, .inl (cL, 3, .inr (.inl (fun _ => 0)))), (q25, .inl (cL, 3, .inr (.inl (fun _ => 0)))), (q26, .inl (cL, 3, .inr (.inl (fun _ => 0)))), (q27, .inl (cL, 3, .inr (.inl (fun _ => 0))))] H := hP
  have hD : va_D A [(h0, .inr (10, [.int 0, .int 0, .int 0, .int 0, .int 0, .null, .ref q21, .ref q22, .ref q23, .ref q24, .ref q25, .ref q26, .ref q27, .long 0, .long 0])), (q21, .inl (cI, 3, .inl (fun _ => 0))), (q22, .inl (cL, 3, .inr (.inl (fun _ => 0)))), (q23, .inl (cL, 3, .inr (.inl (fun _ => 0)))), (q24, .inl (cL, 3, .inr (.inl (fun _ => 0)))), (q25, .inl (cL, 3, .inr (.inl (fun _ => 0)))), (q26, .inl (cL, 3, .inr (.inl (fun _ => 0)))), (q27, .inl (cL, 3, .inr (.inl (fun _ => 0))))] := hD
  refine lv_aload_n hx hb d_Cov_init_53 rfl (lv_at hl 0 rfl) ?_
  refine lv_aload_n hx hb d_Cov_init_54 rfl (lv_at hl 1 rfl) ?_
  refine va_putF (D := D) (ci := 10) (v := .ref sh) (ty := .object "DrawingMachine$Shape") (C := R_Cov) (T := F_Cov) (N := 15) hx hb htw i_Cov t_Cov t_Cov_ok n_Cov hown hC.1 hP hD hS 0 rfl rfl 5 (by decide) (htw _ k512) (fun _ h9 => h9) rfl hin rfl (by decide +kernel) rfl rfl (Nat.le_of_ble_eq_true rfl) d_Cov_init_55 (fun H locs hP hD hS => ?_)
  have hP : va_P D classes [(h0, .inr (10, [.int 0, .int 0, .int 0, .int 0, .int 0, .ref sh, .ref q21, .ref q22, .ref q23, .ref q24, .ref q25, .ref q26, .ref q27, .long 0, .long 0])), (q21, .inl (cI, 3, .inl (fun _ => 0))), (q22, .inl (cL, 3, .inr (.inl (fun _ => 0)))), (q23, .inl (cL, 3, .inr (.inl (fun _ => 0)))), (q24, .inl (cL, 3, .inr (.inl (fun _ => 0)))), (q25, .inl (cL, 3, .inr (.inl (fun _ => 0)))), (q26, .inl (cL, 3, .inr (.inl (fun _ => 0)))), (q27, .inl (cL, 3, .inr (.inl (fun _ => 0))))] H := hP
  have hD : va_D A [(h0, .inr (10, [.int 0, .int 0, .int 0, .int 0, .int 0, .ref sh, .ref q21, .ref q22, .ref q23, .ref q24, .ref q25, .ref q26, .ref q27, .long 0, .long 0])), (q21, .inl (cI, 3, .inl (fun _ => 0))), (q22, .inl (cL, 3, .inr (.inl (fun _ => 0)))), (q23, .inl (cL, 3, .inr (.inl (fun _ => 0)))), (q24, .inl (cL, 3, .inr (.inl (fun _ => 0)))), (q25, .inl (cL, 3, .inr (.inl (fun _ => 0)))), (q26, .inl (cL, 3, .inr (.inl (fun _ => 0)))), (q27, .inl (cL, 3, .inr (.inl (fun _ => 0))))] := hD
  refine W.widen (k := 7) (n := 21) (Nat.le_of_ble_eq_true rfl) (Nat.le_of_ble_eq_true rfl) ?_
  have hP9 := hP.sub (ws' := []) [] rfl
  have hD9 := hD.sub (ws' := []) [] (by decide) rfl
  exact W.vret hx hb hr (fun t ht hW => ⟨⟨(), rfl, trivial, by rw [ht]; exact hP9, va_K.moved hW.alike hC.1, hD9⟩, hS.F ht⟩) hS.2.2 d_Cov_init_58

theorem d_Pro_init_0 : decode prog_7_method_1_code 0 = .ok (.aload_n 0, 1) := by decide +kernel
theorem d_Pro_init_1 : decode prog_7_method_1_code 1 = .ok (.invokespecial 3, 3) := by decide +kernel
theorem d_Pro_init_4 : decode prog_7_method_1_code 4 = .ok (.aload_n 0, 1) := by decide +kernel
theorem d_Pro_init_5 : decode prog_7_method_1_code 5 = .ok (.sipush 260, 3) := by decide +kernel
theorem d_Pro_init_8 : decode prog_7_method_1_code 8 = .ok (.newarray .int, 2) := by decide +kernel
theorem d_Pro_init_10 : decode prog_7_method_1_code 10 = .ok (.putfield 9, 3) := by decide +kernel
theorem d_Pro_init_13 : decode prog_7_method_1_code 13 = .ok (.aload_n 0, 1) := by decide +kernel
theorem d_Pro_init_14 : decode prog_7_method_1_code 14 = .ok (.iconst 4, 1) := by decide +kernel
theorem d_Pro_init_15 : decode prog_7_method_1_code 15 = .ok (.newarray .int, 2) := by decide +kernel
theorem d_Pro_init_17 : decode prog_7_method_1_code 17 = .ok (.putfield 15, 3) := by decide +kernel
theorem d_Pro_init_20 : decode prog_7_method_1_code 20 = .ok (.aload_n 0, 1) := by decide +kernel
theorem d_Pro_init_21 : decode prog_7_method_1_code 21 = .ok (.iconst 4, 1) := by decide +kernel
theorem d_Pro_init_22 : decode prog_7_method_1_code 22 = .ok (.newarray .int, 2) := by decide +kernel
theorem d_Pro_init_24 : decode prog_7_method_1_code 24 = .ok (.putfield 18, 3) := by decide +kernel
theorem d_Pro_init_27 : decode prog_7_method_1_code 27 = .ok (.aload_n 0, 1) := by decide +kernel
theorem d_Pro_init_28 : decode prog_7_method_1_code 28 = .ok (.iconst 4, 1) := by decide +kernel
theorem d_Pro_init_29 : decode prog_7_method_1_code 29 = .ok (.newarray .int, 2) := by decide +kernel
theorem d_Pro_init_31 : decode prog_7_method_1_code 31 = .ok (.putfield 21, 3) := by decide +kernel
theorem d_Pro_init_34 : decode prog_7_method_1_code 34 = .ok (.aload_n 0, 1) := by decide +kernel
theorem d_Pro_init_35 : decode prog_7_method_1_code 35 = .ok (.iconst 4, 1) := by decide +kernel
theorem d_Pro_init_36 : decode prog_7_method_1_code 36 = .ok (.newarray .int, 2) := by decide +kernel
theorem d_Pro_init_38 : decode prog_7_method_1_code 38 = .ok (.putfield 24, 3) := by decide +kernel
theorem d_Pro_init_41 : decode prog_7_method_1_code 41 = .ok (.aload_n 0, 1) := by decide +kernel
theorem d_Pro_init_42 : decode prog_7_method_1_code 42 = .ok (.iconst 4, 1) := by decide +kernel
theorem d_Pro_init_43 : decode prog_7_method_1_code 43 = .ok (.newarray .int, 2) := by decide +kernel
theorem d_Pro_init_45 : decode prog_7_method_1_code 45 = .ok (.putfield 27, 3) := by decide +kernel
theorem d_Pro_init_48 : decode prog_7_method_1_code 48 = .ok (.aload_n 0, 1) := by decide +kernel
theorem d_Pro_init_49 : decode prog_7_method_1_code 49 = .ok (.iconst 4, 1) := by decide +kernel
theorem d_Pro_init_50 : decode prog_7_method_1_code 50 = .ok (.newarray .int, 2) := by decide +kernel
theorem d_Pro_init_52 : decode prog_7_method_1_code 52 = .ok (.putfield 30, 3) := by decide +kernel
theorem d_Pro_init_55 : decode prog_7_method_1_code 55 = .ok (.aload_n 0, 1) := by decide +kernel
theorem d_Pro_init_56 : decode prog_7_method_1_code 56 = .ok (.aload_n 1, 1) := by decide +kernel
theorem d_Pro_init_57 : decode prog_7_method_1_code 57 = .ok (.putfield 33, 3) := by decide +kernel
theorem d_Pro_init_60 : decode prog_7_method_1_code 60 = .ok (.aload_n 0, 1) := by decide +kernel
theorem d_Pro_init_61 : decode prog_7_method_1_code 61 = .ok (.new 36, 3) := by decide +kernel
theorem d_Pro_init_64 : decode prog_7_method_1_code 64 = .ok (.dup, 1) := by decide +kernel
theorem d_Pro_init_65 : decode prog_7_method_1_code 65 = .ok (.aload_n 1, 1) := by decide +kernel
theorem d_Pro_init_66 : decode prog_7_method_1_code 66 = .ok (.aload_n 2, 1) := by decide +kernel
theorem d_Pro_init_67 : decode prog_7_method_1_code 67 = .ok (.invokespecial 38, 3) := by decide +kernel
theorem d_Pro_init_70 : decode prog_7_method_1_code 70 = .ok (.putfield 41, 3) := by decide +kernel
theorem d_Pro_init_73 : decode prog_7_method_1_code 73 = .ok (.return_, 1) := by decide +kernel
set_option maxHeartbeats 4000000 in
set_option maxRecDepth 100000 in
theorem c_Pro_init (l : Launch) (D : va_G) (cI cL : ClassId) (B sz : Nat) (h0 : Nat) (me : Nat) (to : Nat) (ke : Nat) : Met l y_Pro_init ((Cond.code y_Pro_init prog_7_method_1_code 3 none) :: tw) ({ frames := 30, cells := 12, slots := 306, locals := 3000 }) (va_Pc [.ref h0, .ref me, .ref to] (wP D cI cL B sz [(h0, .inr (6, [.null, .null, .null, .null, .null, .null, .null, .null, .null])), (to, .inr (1, [.ref ke]))])) (va_Qv (S := Unit) (fun _ => True) (fun u => wB D cI cL (va_A [(h0, .inr (6, [.null, .null, .null, .null, .null, .null, .null, .null, .null])), (to, .inr (1, [.ref ke]))] sz) ((fun _ : Unit => [(to, .inr (1, [.ref ke]))]) u)) (va_A [(h0, .inr (6, [.null, .null, .null, .null, .null, .null, .null, .null, .null])), (to, .inr (1, [.ref ke]))] sz)) 12 306 (va_A [(h0, .inr (6, [.null, .null, .null, .null, .null, .null, .null, .null, .null])), (to, .inr (1, [.ref ke]))] sz) := by
  refine Met.ofW (cc := prog_7_method_1_code) (maxL := 3) (ret := none) (by decide) rfl ?_
  intro p e s m args below meth c s₁ B0 hml hv
  obtain ⟨rfl, hv⟩ := hv
  have hx := B0.exec
  have hb := B0.bytes
  have hr := B0.returns
  have hts := atoms_spec (ws := (Cond.code y_Pro_init prog_7_method_1_code 3 none) :: tw) B0.pre
  have htw : ∀ w ∈ tw, w.before _ s = true := fun w hw => hts w (List.mem_cons_of_mem _ hw)
  have hown : s.vm.findClass "DrawingMachine$Processor" = some m.cls := findClass_of_methodNamed B0.named
  have hlocks := B0.notSynchronized
  have hin : meth.name = "<init>" := (name_of_methodNamed B0.named B0.method).1
  obtain ⟨hC, hP, hD, hsz⟩ := wC_init hv
  subst hsz
  generalize hAe : va_A [(h0, .inr (6, [.null, .null, .null, .null, .null, .null, .null, .null, .null])), (to, .inr (1, [.ref ke]))] s.heap.size = A at hC hD ⊢
  have hS : va_S A s.heap s.heap [] := va_S.rf
  have hl := lv_entry ([.ref h0, .ref me, .ref to]) (n := 3) (Nat.le_of_ble_eq_true rfl)
  rw [lg_entry_eq]
  generalize (lg_sl ([.ref h0, .ref me, .ref to]) ++ List.replicate (3 - (lg_sl ([.ref h0, .ref me, .ref to])).length) Slot.unset).toArray = ls at hl ⊢
  have hl : lv_has ls 3 [(0, .ref h0), (1, .ref me), (2, .ref to)] := hl
  refine lv_aload_n hx hb d_Pro_init_0 rfl (lv_at hl 0 rfl) ?_
  refine W.objInit hx hb hown (htw _ k468) (htw _ k242) (htw _ k243) rfl (by rw [hml]; exact hl.1) rfl d_Pro_init_1 (Nat.le_of_ble_eq_true rfl) (Nat.le_of_ble_eq_true rfl) ?_
  refine W.eq (g2 := F0 m 4 ls []) rfl ?_
  refine lv_aload_n hx hb d_Pro_init_4 rfl (lv_at hl 0 rfl) ?_
  refine lv_sipush (v := 260) hx hb d_Pro_init_5 (by decide) ?_
  refine wna_i hx hb (htw _ k238) hC hP hD hS (N := 260) (by decide) (by omega) (Nat.le_of_ble_eq_true rfl) (Nat.le_of_ble_eq_true rfl) d_Pro_init_8 (fun q28 H hP hD hS => ?_)
  have hP : va_P D classes [(h0, .inr (6, [.null, .null, .null, .null, .null, .null, .null, .null, .null])), (to, .inr (1, [.ref ke])), (q28, .inl (cI, 260, .inl (fun _ => 0)))] H := hP
  have hD : va_D A [(h0, .inr (6, [.null, .null, .null, .null, .null, .null, .null, .null, .null])), (to, .inr (1, [.ref ke])), (q28, .inl (cI, 260, .inl (fun _ => 0)))] := hD
  refine W.widen (k := 1) (n := 260) (by omega) (by omega) ?_
  refine va_putF (D := D) (ci := 6) (v := .ref q28) (ty := .array .int) (C := R_Pro) (T := F_Pro) (N := 9) hx hb htw i_Pro t_Pro t_Pro_ok n_Pro hown hC.1 hP hD hS 0 rfl rfl 0 (by decide) (htw _ k469) (fun _ h9 => h9) rfl hin rfl (by decide +kernel) rfl rfl (Nat.le_of_ble_eq_true rfl) d_Pro_init_10 (fun H locs hP hD hS => ?_)
  have hP : va_P D classes [(h0, .inr (6, [.ref q28, .null, .null, .null, .null, .null, .null, .null, .null])), (to, .inr (1, [.ref ke])), (q28, .inl (cI, 260, .inl (fun _ => 0)))] H := hP
  have hD : va_D A [(h0, .inr (6, [.ref q28, .null, .null, .null, .null, .null, .null, .null, .null])), (to, .inr (1, [.ref ke])), (q28, .inl (cI, 260, .inl (fun _ => 0)))] := hD
  refine lv_aload_n hx hb d_Pro_init_13 rfl (lv_at hl 0 rfl) ?_
  refine lv_iconst (v := 4) hx hb d_Pro_init_14 (by decide) ?_
  refine wna_i hx hb (htw _ k238) hC hP hD hS (N := 4) (by decide) (by omega) (Nat.le_of_ble_eq_true rfl) (Nat.le_of_ble_eq_true rfl) d_Pro_init_15 (fun q29 H hP hD hS => ?_)
  have hP : va_P D classes [(h0, .inr (6, [.ref q28, .null, .null, .null, .null, .null, .null, .null, .null])), (to, .inr (1, [.ref ke])), (q28, .inl (cI, 260, .inl (fun _ => 0))), (q29, .inl (cI, 4, .inl (fun _ => 0)))] H := hP
  have hD : va_D A [(h0, .inr (6, [.ref q28, .null, .null, .null, .null, .null, .null, .null, .null])), (to, .inr (1, [.ref ke])), (q28, .inl (cI, 260, .inl (fun _ => 0))), (q29, .inl (cI, 4, .inl (fun _ => 0)))] := hD
  refine W.widen (k := 2) (n := 264) (by omega) (by omega) ?_
  refine va_putF (D := D) (ci := 6) (v := .ref q29) (ty := .array .int) (C := R_Pro) (T := F_Pro) (N := 9) hx hb htw i_Pro t_Pro t_Pro_ok n_Pro hown hC.1 hP hD hS 0 rfl rfl 3 (by decide) (htw _ k470) (fun _ h9 => h9) rfl hin rfl (by decide +kernel) rfl rfl (Nat.le_of_ble_eq_true rfl) d_Pro_init_17 (fun H locs hP hD hS => ?_)
  have hP : va_P D classes [(h0, .inr (6, [.ref q28, .null, .null, .ref q29, .null, .null, .null, .null, .null])), (to, .inr (1, [.ref ke])), (q28, .inl (cI, 260, .inl (fun _ => 0))), (q29, .inl (cI, 4, .inl (fun _ => 0)))] H := hP
  have hD : va_D A [(h0, .inr (6, [.ref q28, .null, .null, .ref q29, .null, .null, .null, .null, .null])), (to, .inr (1, [.ref ke])), (q28, .inl (cI, 260, .inl (fun _ => 0))), (q29, .inl (cI, 4, .inl (fun _ => 0)))] := hD
  refine lv_aload_n hx hb d_Pro_init_20 rfl (lv_at hl 0 rfl) ?_
  refine lv_iconst (v := 4) hx hb d_Pro_init_21 (by decide) ?_
  refine wna_i hx hb (htw _ k238) hC hP hD hS (N := 4) (by decide) (by omega) (Nat.le_of_ble_eq_true rfl) (Nat.le_of_ble_eq_true rfl) d_Pro_init_22 (fun q30 H hP hD hS => ?_)
  have hP : va_P D classes [(h0, .inr (6, [.ref q28, .null, .null, .ref q29, .null, .null, .null, .null, .null])), (to, .inr (1, [.ref ke])), (q28, .inl (cI, 260, .inl (fun _ => 0))), (q29, .inl (cI, 4, .inl (fun _ => 0))), (q30, .inl (cI, 4, .inl (fun _ => 0)))] H := hP
  have hD : va_D A [(h0, .inr (6, [.ref q28, .null, .null, .ref q29, .null, .null, .null, .null, .null])), (to, .inr (1, [.ref ke])), (q28, .inl (cI, 260, .inl (fun _ => 0))), (q29, .inl (cI, 4, .inl (fun _ => 0))), (q30, .inl (cI, 4, .inl (fun _ => 0)))] := hD
  refine W.widen (k := 3) (n := 268) (by omega) (by omega) ?_
  refine va_putF (D := D) (ci := 6) (v := .ref q30) (ty := .array .int) (C := R_Pro) (T := F_Pro) (N := 9) hx hb htw i_Pro t_Pro t_Pro_ok n_Pro hown hC.1 hP hD hS 0 rfl rfl 4 (by decide) (htw _ k471) (fun _ h9 => h9) rfl hin rfl (by decide +kernel) rfl rfl (Nat.le_of_ble_eq_true rfl) d_Pro_init_24 (fun H locs hP hD hS => ?_)
  have hP : va_P D classes [(h0, .inr (6, [.ref q28, .null, .null, .ref q29, .ref q30, .null, .null, .null, .null])), (to, .inr (1, [.ref ke])), (q28, .inl (cI, 260, .inl (fun _ => 0))), (q29, .inl (cI, 4, .inl (fun _ => 0))), (q30, .inl (cI, 4, .inl (fun _ => 0)))] H := hP
  have hD : va_D A [(h0, .inr (6, [.ref q28, .null, .null, .ref q29, .ref q30, .null, .null, .null, .null])), (to, .inr (1, [.ref ke])), (q28, .inl (cI, 260, .inl (fun _ => 0))), (q29, .inl (cI, 4, .inl (fun _ => 0))), (q30, .inl (cI, 4, .inl (fun _ => 0)))] := hD
  refine lv_aload_n hx hb d_Pro_init_27 rfl (lv_at hl 0 rfl) ?_
  refine lv_iconst (v := 4) hx hb d_Pro_init_28 (by decide) ?_
  refine wna_i hx hb (htw _ k238) hC hP hD hS (N := 4) (by decide) (by omega) (Nat.le_of_ble_eq_true rfl) (Nat.le_of_ble_eq_true rfl) d_Pro_init_29 (fun q31 H hP hD hS => ?_)
  have hP : va_P D classes [(h0, .inr (6, [.ref q28, .null, .null, .ref q29, .ref q30, .null, .null, .null, .null])), (to, .inr (1, [.ref ke])), (q28, .inl (cI, 260, .inl (fun _ => 0))), (q29, .inl (cI, 4, .inl (fun _ => 0))), (q30, .inl (cI, 4, .inl (fun _ => 0))), (q31, .inl (cI, 4, .inl (fun _ => 0)))] H := hP
  have hD : va_D A [(h0, .inr (6, [.ref q28, .null, .null, .ref q29, .ref q30, .null, .null, .null, .null])), (to, .inr (1, [.ref ke])), (q28, .inl (cI, 260, .inl (fun _ => 0))), (q29, .inl (cI, 4, .inl (fun _ => 0))), (q30, .inl (cI, 4, .inl (fun _ => 0))), (q31, .inl (cI, 4, .inl (fun _ => 0)))] := hD
  refine W.widen (k := 4) (n := 272) (by omega) (by omega) ?_
  refine va_putF (D := D) (ci := 6) (v := .ref q31) (ty := .array .int) (C := R_Pro) (T := F_Pro) (N := 9) hx hb htw i_Pro t_Pro t_Pro_ok n_Pro hown hC.1 hP hD hS 0 rfl rfl 5 (by decide) (htw _ k472) (fun _ h9 => h9) rfl hin rfl (by decide +kernel) rfl rfl (Nat.le_of_ble_eq_true rfl) d_Pro_init_31 (fun H locs hP hD hS => ?_)
  have hP : va_P D classes [(h0, .inr (6, [.ref q28, .null, .null, .ref q29, .ref q30, .ref q31, .null, .null, .null])), (to, .inr (1, [.ref ke])), (q28, .inl (cI, 260, .inl (fun _ => 0))), (q29, .inl (cI, 4, .inl (fun _ => 0))), (q30, .inl (cI, 4, .inl (fun _ => 0))), (q31, .inl (cI, 4, .inl (fun _ => 0)))] H := hP
  have hD : va_D A [(h0, .inr (6, [.ref q28, .null, .null, .ref q29, .ref q30, .ref q31, .null, .null, .null])), (to, .inr (1, [.ref ke])), (q28, .inl (cI, 260, .inl (fun _ => 0))), (q29, .inl (cI, 4, .inl (fun _ => 0))), (q30, .inl (cI, 4, .inl (fun _ => 0))), (q31, .inl (cI, 4, .inl (fun _ => 0)))] := hD
  refine lv_aload_n hx hb d_Pro_init_34 rfl (lv_at hl 0 rfl) ?_
  refine lv_iconst (v := 4) hx hb d_Pro_init_35 (by decide) ?_
  refine wna_i hx hb (htw _ k238) hC hP hD hS (N := 4) (by decide) (by omega) (Nat.le_of_ble_eq_true rfl) (Nat.le_of_ble_eq_true rfl) d_Pro_init_36 (fun q32 H hP hD hS => ?_)
  have hP : va_P D classes [(h0, .inr (6, [.ref q28, .null, .null, .ref q29, .ref q30, .ref q31, .null, .null, .null])), (to, .inr (1, [.ref ke])), (q28, .inl (cI, 260, .inl (fun _ => 0))), (q29, .inl (cI, 4, .inl (fun _ => 0))), (q30, .inl (cI, 4, .inl (fun _ => 0))), (q31, .inl (cI, 4, .inl (fun _ => 0))), (q32, .inl (cI, 4, .inl (fun _ => 0)))] H := hP
  have hD : va_D A [(h0, .inr (6, [.ref q28, .null, .null, .ref q29, .ref q30, .ref q31, .null, .null, .null])), (to, .inr (1, [.ref ke])), (q28, .inl (cI, 260, .inl (fun _ => 0))), (q29, .inl (cI, 4, .inl (fun _ => 0))), (q30, .inl (cI, 4, .inl (fun _ => 0))), (q31, .inl (cI, 4, .inl (fun _ => 0))), (q32, .inl (cI, 4, .inl (fun _ => 0)))] := hD
  refine W.widen (k := 5) (n := 276) (by omega) (by omega) ?_
  refine va_putF (D := D) (ci := 6) (v := .ref q32) (ty := .array .int) (C := R_Pro) (T := F_Pro) (N := 9) hx hb htw i_Pro t_Pro t_Pro_ok n_Pro hown hC.1 hP hD hS 0 rfl rfl 6 (by decide) (htw _ k473) (fun _ h9 => h9) rfl hin rfl (by decide +kernel) rfl rfl (Nat.le_of_ble_eq_true rfl) d_Pro_init_38 (fun H locs hP hD hS => ?_)
  have hP : va_P D classes [(h0, .inr (6, [.ref q28, .null, .null, .ref q29, .ref q30, .ref q31, .ref q32, .null, .null])), (to, .inr (1, [.ref ke])), (q28, .inl (cI, 260, .inl (fun _ => 0))), (q29, .inl (cI, 4, .inl (fun _ => 0))), (q30, .inl (cI, 4, .inl (fun _ => 0))), (q31, .inl (cI, 4, .inl (fun _ => 0))), (q32, .inl (cI, 4, .inl (fun _ => 0)))] H := hP
  have hD : va_D A [(h0, .inr (6, [.ref q28, .null, .null, .ref q29, .ref q30, .ref q31, .ref q32, .null, .null])), (to, .inr (1, [.ref ke])), (q28, .inl (cI, 260, .inl (fun _ => 0))), (q29, .inl (cI, 4, .inl (fun _ => 0))), (q30, .inl (cI, 4, .inl (fun _ => 0))), (q31, .inl (cI, 4, .inl (fun _ => 0))), (q32, .inl (cI, 4, .inl (fun _ => 0)))] := hD
  refine lv_aload_n hx hb d_Pro_init_41 rfl (lv_at hl 0 rfl) ?_
  refine lv_iconst (v := 4) hx hb d_Pro_init_42 (by decide) ?_
  refine wna_i hx hb (htw _ k238) hC hP hD hS (N := 4) (by decide) (by omega) (Nat.le_of_ble_eq_true rfl) (Nat.le_of_ble_eq_true rfl) d_Pro_init_43 (fun q33 H hP hD hS => ?_)
  have hP : va_P D classes [(h0, .inr (6, [.ref q28, .null, .null, .ref q29, .ref q30, .ref q31, .ref q32, .null, .null])), (to, .inr (1, [.ref ke])), (q28, .inl (cI, 260, .inl (fun _ => 0))), (q29, .inl (cI, 4, .inl (fun _ => 0))), (q30, .inl (cI, 4, .inl (fun _ => 0))), (q31, .inl (cI, 4, .inl (fun _ => 0))), (q32, .inl (cI, 4, .inl (fun _ => 0))), (q33, .inl (cI, 4, .inl (fun _ => 0)))] H := hP
  have hD : va_D A [(h0, .inr (6, [.ref q28, .null, .null, .ref q29, .ref q30, .ref q31, .ref q32, .null, .null])), (to, .inr (1, [.ref ke])), (q28, .inl (cI, 260, .inl (fun _ => 0))), (q29, .inl (cI, 4, .inl (fun _ => 0))), (q30, .inl (cI, 4, .inl (fun _ => 0))), (q31, .inl (cI, 4, .inl (fun _ => 0))), (q32, .inl (cI, 4, .inl (fun _ => 0))), (q33, .inl (cI, 4, .inl (fun _ => 0)))] := hD
  refine W.widen (k := 6) (n := 280) (by omega) (by omega) ?_
  refine va_putF (D := D) (ci := 6) (v := .ref q33) (ty := .array .int) (C := R_Pro) (T := F_Pro) (N := 9) hx hb htw i_Pro t_Pro t_Pro_ok n_Pro hown hC.1 hP hD hS 0 rfl rfl 7 (by decide) (htw _ k474) (fun _ h9 => h9) rfl hin rfl (by decide +kernel) rfl rfl (Nat.le_of_ble_eq_true rfl) d_Pro_init_45 (fun H locs hP hD hS => ?_)
  have hP : va_P D classes [(h0, .inr (6, [.ref q28, .null, .null, .ref q29, .ref q30, .ref q31, .ref q32, .ref q33, .null])), (to, .inr (1, [.ref ke])), (q28, .inl (cI, 260, .inl (fun _ => 0))), (q29, .inl (cI, 4, .inl (fun _ => 0))), (q30, .inl (cI, 4, .inl (fun _ => 0))), (q31, .inl (cI, 4, .inl (fun _ => 0))), (q32, .inl (cI, 4, .inl (fun _ => 0))), (q33, .inl (cI, 4, .inl (fun _ => 0)))] H := hP
  have hD : va_D A [(h0, .inr (6, [.ref q28, .null, .null, .ref q29, .ref q30, .ref q31, .ref q32, .ref q33, .null])), (to, .inr (1, [.ref ke])), (q28, .inl (cI, 260, .inl (fun _ => 0))), (q29, .inl (cI, 4, .inl (fun _ => 0))), (q30, .inl (cI, 4, .inl (fun _ => 0))), (q31, .inl (cI, 4, .inl (fun _ => 0))), (q32, .inl (cI, 4, .inl (fun _ => 0))), (q33, .inl (cI, 4, .inl (fun _ => 0)))] := hD
  refine lv_aload_n hx hb d_Pro_init_48 rfl (lv_at hl 0 rfl) ?_
  refine lv_iconst (v := 4) hx hb d_Pro_init_49 (by decide) ?_
  refine wna_i hx hb (htw _ k238) hC hP hD hS (N := 4) (by decide) (by omega) (Nat.le_of_ble_eq_true rfl) (Nat.le_of_ble_eq_true rfl) d_Pro_init_50 (fun q34 H hP hD hS => ?_)
  have hP : va_P D classes [(h0, .inr (6, [.ref q28, .null, .null, .ref q29, .ref q30, .ref q31, .ref q32, .ref q33, .null])), (to, .inr (1, [.ref ke])), (q28, .inl (cI, 260, .inl (fun _ => 0))), (q29, .inl (cI, 4, .inl (fun _ => 0))), (q30, .inl (cI, 4, .inl (fun _ => 0))), (q31, .inl (cI, 4, .inl (fun _ => 0))), (q32, .inl (cI, 4, .inl (fun _ => 0))), (q33, .inl (cI, 4, .inl (fun _ => 0))), (q34, .inl (cI, 4, .inl (fun _ => 0)))] H := hP
  have hD : va_D A [(h0, .inr (6, [.ref q28, .null, .null, .ref q29, .ref q30, .ref q31, .ref q32, .ref q33, .null])), (to, .inr (1, [.ref ke])), (q28, .inl (cI, 260, .inl (fun _ => 0))), (q29, .inl (cI, 4, .inl (fun _ => 0))), (q30, .inl (cI, 4, .inl (fun _ => 0))), (q31, .inl (cI, 4, .inl (fun _ => 0))), (q32, .inl (cI, 4, .inl (fun _ => 0))), (q33, .inl (cI, 4, .inl (fun _ => 0))), (q34, .inl (cI, 4, .inl (fun _ => 0)))] := hD
  refine W.widen (k := 7) (n := 284) (by omega) (by omega) ?_
  refine va_putF (D := D) (ci := 6) (v := .ref q34) (ty := .array .int) (C := R_Pro) (T := F_Pro) (N := 9) hx hb htw i_Pro t_Pro t_Pro_ok n_Pro hown hC.1 hP hD hS 0 rfl rfl 8 (by decide) (htw _ k475) (fun _ h9 => h9) rfl hin rfl (by decide +kernel) rfl rfl (Nat.le_of_ble_eq_true rfl) d_Pro_init_52 (fun H locs hP hD hS => ?_)
  have hP : va_P D classes [(h0, .inr (6, [.ref q28, .null, .null, .ref q29, .ref q30, .ref q31, .ref q32, .ref q33, .ref q34])), (to, .inr (1, [.ref ke])), (q28, .inl (cI, 260, .inl (fun _ => 0))), (q29, .inl (cI, 4, .inl (fun _ => 0))), (q30, .inl (cI, 4, .inl (fun _ => 0))), (q31, .inl (cI, 4, .inl (fun _ => 0))), (q32, .inl (cI, 4, .inl (fun _ => 0))), (q33, .inl (cI, 4, .inl (fun _ => 0))), (q34, .inl (cI, 4, .inl (fun _ => 0)))] H := hP
  have hD : va_D A [(h0, .inr (6, [.ref q28, .null, .null, .ref q29, .ref q30, .ref q31, .ref q32, .ref q33, .ref q34])), (to, .inr (1, [.ref ke])), (q28, .inl (cI, 260, .inl (fun _ => 0))), (q29, .inl (cI, 4, .inl (fun _ => 0))), (q30, .inl (cI, 4, .inl (fun _ => 0))), (q31, .inl (cI, 4, .inl (fun _ => 0))), (q32, .inl (cI, 4, .inl (fun _ => 0))), (q33, .inl (cI, 4, .inl (fun _ => 0))), (q34, .inl (cI, 4, .inl (fun _ => 0)))] := hD
  refine lv_aload_n hx hb d_Pro_init_55 rfl (lv_at hl 0 rfl) ?_
  refine lv_aload_n hx hb d_Pro_init_56 rfl (lv_at hl 1 rfl) ?_
  refine va_putF (D := D) (ci := 6) (v := .ref me) (ty := .array .int) (C := R_Pro) (T := F_Pro) (N := 9) hx hb htw i_Pro t_Pro t_Pro_ok n_Pro hown hC.1 hP hD hS 0 rfl rfl 1 (by decide) (htw _ k476) (fun _ h9 => h9) rfl hin rfl (by decide +kernel) rfl rfl (Nat.le_of_ble_eq_true rfl) d_Pro_init_57 (fun H locs hP hD hS => ?_)
  have hP : va_P D classes [(h0, .inr (6, [.ref q28, .ref me, .null, .ref q29, .ref q30, .ref q31, .ref q32, .ref q33, .ref q34])), (to, .inr (1, [.ref ke])), (q28, .inl (cI, 260, .inl (fun _ => 0))), (q29, .inl (cI, 4, .inl (fun _ => 0))), (q30, .inl (cI, 4, .inl (fun _ => 0))), (q31, .inl (cI, 4, .inl (fun _ => 0))), (q32, .inl (cI, 4, .inl (fun _ => 0))), (q33, .inl (cI, 4, .inl (fun _ => 0))), (q34, .inl (cI, 4, .inl (fun _ => 0)))] H := hP
  have hD : va_D A [(h0, .inr (6, [.ref q28, .ref me, .null, .ref q29, .ref q30, .ref q31, .ref q32, .ref q33, .ref q34])), (to, .inr (1, [.ref ke])), (q28, .inl (cI, 260, .inl (fun _ => 0))), (q29, .inl (cI, 4, .inl (fun _ => 0))), (q30, .inl (cI, 4, .inl (fun _ => 0))), (q31, .inl (cI, 4, .inl (fun _ => 0))), (q32, .inl (cI, 4, .inl (fun _ => 0))), (q33, .inl (cI, 4, .inl (fun _ => 0))), (q34, .inl (cI, 4, .inl (fun _ => 0)))] := hD
  refine lv_aload_n hx hb d_Pro_init_60 rfl (lv_at hl 0 rfl) ?_
  refine va_new (ci := 7) (fs := [.null, .null, .null, .null, .null, .null]) (C := R_Tex) (T := F_Tex) (N := 6) hx hb htw i_Tex t_Tex t_Tex_ok hown (htw _ k477) (htw _ k72) (htw _ k71) hC.1 hP hD hS hC.2.2.2.1 rfl (fun j hj => by rcases (show j = 0 ∨ j = 1 ∨ j = 2 ∨ j = 3 ∨ j = 4 ∨ j = 5 by omega) with rfl | rfl | rfl | rfl | rfl | rfl <;> rfl) (Nat.le_of_ble_eq_true rfl) (Nat.le_of_ble_eq_true rfl) d_Pro_init_61 (fun q35 H hP hD hS => ?_)
  have hP : va_P D classes [(h0, .inr (6, [.ref q28, .ref me, .null, .ref q29, .ref q30, .ref q31, .ref q32, .ref q33, .ref q34])), (to, .inr (1, [.ref ke])), (q28, .inl (cI, 260, .inl (fun _ => 0))), (q29, .inl (cI, 4, .inl (fun _ => 0))), (q30, .inl (cI, 4, .inl (fun _ => 0))), (q31, .inl (cI, 4, .inl (fun _ => 0))), (q32, .inl (cI, 4, .inl (fun _ => 0))), (q33, .inl (cI, 4, .inl (fun _ => 0))), (q34, .inl (cI, 4, .inl (fun _ => 0))), (q35, .inr (7, [.null, .null, .null, .null, .null, .null]))] H := hP
  have hD : va_D A [(h0, .inr (6, [.ref q28, .ref me, .null, .ref q29, .ref q30, .ref q31, .ref q32, .ref q33, .ref q34])), (to, .inr (1, [.ref ke])), (q28, .inl (cI, 260, .inl (fun _ => 0))), (q29, .inl (cI, 4, .inl (fun _ => 0))), (q30, .inl (cI, 4, .inl (fun _ => 0))), (q31, .inl (cI, 4, .inl (fun _ => 0))), (q32, .inl (cI, 4, .inl (fun _ => 0))), (q33, .inl (cI, 4, .inl (fun _ => 0))), (q34, .inl (cI, 4, .inl (fun _ => 0))), (q35, .inr (7, [.null, .null, .null, .null, .null, .null]))] := hD
  refine W.widen (k := 8) (n := 290) (by omega) (by omega) ?_
  refine lv_dup hx hb d_Pro_init_64 rfl ?_
  refine lv_aload_n hx hb d_Pro_init_65 rfl (lv_at hl 1 rfl) ?_
  refine lv_aload_n hx hb d_Pro_init_66 rfl (lv_at hl 2 rfl) ?_
  refine wc_v (wr := [(h0, .inr (6, [.ref q28, .ref me, .null, .ref q29, .ref q30, .ref q31, .ref q32, .ref q33, .ref q34])), (q28, .inl (cI, 260, .inl (fun _ => 0))), (q29, .inl (cI, 4, .inl (fun _ => 0))), (q30, .inl (cI, 4, .inl (fun _ => 0))), (q31, .inl (cI, 4, .inl (fun _ => 0))), (q32, .inl (cI, 4, .inl (fun _ => 0))), (q33, .inl (cI, 4, .inl (fun _ => 0))), (q34, .inl (cI, 4, .inl (fun _ => 0)))]) hC hP hD hS [9, 1] [0, 2, 3, 4, 5, 6, 7, 8] rfl rfl (by decide) (by decide) (va_runI (As := [.ref me, .ref to]) (rest := [.ref q35, .ref h0]) ⟨hx, hb, hml, hown, htw⟩ (c_Tex_init l D cI cL B _ q35 me to ke) (cwI 2 htw (tw_good (fun _ h => h) k480) rfl rfl rfl (htw _ k71) (htw _ k478) (htw _ k479) rfl (by decide +kernel) ⟨Nat.le_of_ble_eq_true rfl, Nat.le_of_ble_eq_true rfl⟩) (wC_pre hC hP hD hS [9, 1] (by decide) rfl) rfl rfl hl.1 rfl (lv_room (Nat.le_of_ble_eq_true rfl)) d_Pro_init_67 ⟨Nat.le_of_ble_eq_true rfl, Nat.le_of_ble_eq_true rfl⟩) (fun u36 H locs hw37 hP hD hS => ?_)
  have hP : va_P D classes [(h0, .inr (6, [.ref q28, .ref me, .null, .ref q29, .ref q30, .ref q31, .ref q32, .ref q33, .ref q34])), (q28, .inl (cI, 260, .inl (fun _ => 0))), (q29, .inl (cI, 4, .inl (fun _ => 0))), (q30, .inl (cI, 4, .inl (fun _ => 0))), (q31, .inl (cI, 4, .inl (fun _ => 0))), (q32, .inl (cI, 4, .inl (fun _ => 0))), (q33, .inl (cI, 4, .inl (fun _ => 0))), (q34, .inl (cI, 4, .inl (fun _ => 0))), (to, .inr (1, [.ref ke]))] H := hP
  have hD : va_D A [(h0, .inr (6, [.ref q28, .ref me, .null, .ref q29, .ref q30, .ref q31, .ref q32, .ref q33, .ref q34])), (q28, .inl (cI, 260, .inl (fun _ => 0))), (q29, .inl (cI, 4, .inl (fun _ => 0))), (q30, .inl (cI, 4, .inl (fun _ => 0))), (q31, .inl (cI, 4, .inl (fun _ => 0))), (q32, .inl (cI, 4, .inl (fun _ => 0))), (q33, .inl (cI, 4, .inl (fun _ => 0))), (q34, .inl (cI, 4, .inl (fun _ => 0))), (to, .inr (1, [.ref ke]))] := hD
  refine W.widen (k := 12) (n := 306) (by omega) (by omega) ?_
  refine va_putF (D := D) (ci := 6) (v := .ref q35) (ty := .object "DrawingMachine$Textures") (C := R_Pro) (T := F_Pro) (N := 9) hx hb htw i_Pro t_Pro t_Pro_ok n_Pro hown hC.1 hP hD hS 0 rfl rfl 2 (by decide) (htw _ k481) (fun _ h9 => h9) rfl hin rfl (by decide +kernel) rfl rfl (Nat.le_of_ble_eq_true rfl) d_Pro_init_70 (fun H locs hP hD hS => ?_)
  have hP : va_P D classes [(h0, .inr (6, [.ref q28, .ref me, .ref q35, .ref q29, .ref q30, .ref q31, .ref q32, .ref q33, .ref q34])), (q28, .inl (cI, 260, .inl (fun _ => 0))), (q29, .inl (cI, 4, .inl (fun _ => 0))), (q30, .inl (cI, 4, .inl (fun _ => 0))), (q31, .inl (cI, 4, .inl (fun _ => 0))), (q32, .inl (cI, 4, .inl (fun _ => 0))), (q33, .inl (cI, 4, .inl (fun _ => 0))), (q34, .inl (cI, 4, .inl (fun _ => 0))), (to, .inr (1, [.ref ke]))] H := hP
  have hD : va_D A [(h0, .inr (6, [.ref q28, .ref me, .ref q35, .ref q29, .ref q30, .ref q31, .ref q32, .ref q33, .ref q34])), (q28, .inl (cI, 260, .inl (fun _ => 0))), (q29, .inl (cI, 4, .inl (fun _ => 0))), (q30, .inl (cI, 4, .inl (fun _ => 0))), (q31, .inl (cI, 4, .inl (fun _ => 0))), (q32, .inl (cI, 4, .inl (fun _ => 0))), (q33, .inl (cI, 4, .inl (fun _ => 0))), (q34, .inl (cI, 4, .inl (fun _ => 0))), (to, .inr (1, [.ref ke]))] := hD
  refine W.widen (k := 12) (n := 306) (Nat.le_of_ble_eq_true rfl) (Nat.le_of_ble_eq_true rfl) ?_
  have hP9 := hP.sub (ws' := [(to, .inr (1, [.ref ke]))]) [8] rfl
  have hD9 := hD.sub (ws' := [(to, .inr (1, [.ref ke]))]) [8] (by decide) rfl
  exact W.vret hx hb hr (fun t ht hW => ⟨⟨(), rfl, trivial, by rw [ht]; exact hP9, va_K.moved hW.alike hC.1, hD9⟩, hS.F ht⟩) hS.2.2 d_Pro_init_73

theorem d_Drw_init_0 : decode prog_5_method_1_code 0 = .ok (.aload_n 0, 1) := by decide +kernel
theorem d_Drw_init_1 : decode prog_5_method_1_code 1 = .ok (.invokespecial 3, 3) := by decide +kernel
theorem d_Drw_init_4 : decode prog_5_method_1_code 4 = .ok (.aload_n 0, 1) := by decide +kernel
theorem d_Drw_init_5 : decode prog_5_method_1_code 5 = .ok (.bipush 9, 2) := by decide +kernel
theorem d_Drw_init_7 : decode prog_5_method_1_code 7 = .ok (.newarray .int, 2) := by decide +kernel
theorem d_Drw_init_9 : decode prog_5_method_1_code 9 = .ok (.putfield 9, 3) := by decide +kernel
theorem d_Drw_init_12 : decode prog_5_method_1_code 12 = .ok (.aload_n 0, 1) := by decide +kernel
theorem d_Drw_init_13 : decode prog_5_method_1_code 13 = .ok (.bipush 8, 2) := by decide +kernel
theorem d_Drw_init_15 : decode prog_5_method_1_code 15 = .ok (.newarray .int, 2) := by decide +kernel
theorem d_Drw_init_17 : decode prog_5_method_1_code 17 = .ok (.putfield 15, 3) := by decide +kernel
theorem d_Drw_init_20 : decode prog_5_method_1_code 20 = .ok (.aload_n 0, 1) := by decide +kernel
theorem d_Drw_init_21 : decode prog_5_method_1_code 21 = .ok (.iconst (-1), 1) := by decide +kernel
theorem d_Drw_init_22 : decode prog_5_method_1_code 22 = .ok (.putfield 18, 3) := by decide +kernel
theorem d_Drw_init_25 : decode prog_5_method_1_code 25 = .ok (.aload_n 0, 1) := by decide +kernel
theorem d_Drw_init_26 : decode prog_5_method_1_code 26 = .ok (.aload_n 2, 1) := by decide +kernel
theorem d_Drw_init_27 : decode prog_5_method_1_code 27 = .ok (.getfield 22, 3) := by decide +kernel
theorem d_Drw_init_30 : decode prog_5_method_1_code 30 = .ok (.putfield 27, 3) := by decide +kernel
theorem d_Drw_init_33 : decode prog_5_method_1_code 33 = .ok (.aload_n 0, 1) := by decide +kernel
theorem d_Drw_init_34 : decode prog_5_method_1_code 34 = .ok (.aload_n 3, 1) := by decide +kernel
theorem d_Drw_init_35 : decode prog_5_method_1_code 35 = .ok (.putfield 28, 3) := by decide +kernel
theorem d_Drw_init_38 : decode prog_5_method_1_code 38 = .ok (.aload_n 0, 1) := by decide +kernel
theorem d_Drw_init_39 : decode prog_5_method_1_code 39 = .ok (.new 32, 3) := by decide +kernel
theorem d_Drw_init_42 : decode prog_5_method_1_code 42 = .ok (.dup, 1) := by decide +kernel
theorem d_Drw_init_43 : decode prog_5_method_1_code 43 = .ok (.aload_n 1, 1) := by decide +kernel
theorem d_Drw_init_44 : decode prog_5_method_1_code 44 = .ok (.aload_n 2, 1) := by decide +kernel
theorem d_Drw_init_45 : decode prog_5_method_1_code 45 = .ok (.invokespecial 34, 3) := by decide +kernel
theorem d_Drw_init_48 : decode prog_5_method_1_code 48 = .ok (.putfield 37, 3) := by decide +kernel
theorem d_Drw_init_51 : decode prog_5_method_1_code 51 = .ok (.aload_n 0, 1) := by decide +kernel
theorem d_Drw_init_52 : decode prog_5_method_1_code 52 = .ok (.new 41, 3) := by decide +kernel
theorem d_Drw_init_55 : decode prog_5_method_1_code 55 = .ok (.dup, 1) := by decide +kernel
theorem d_Drw_init_56 : decode prog_5_method_1_code 56 = .ok (.aload_n 1, 1) := by decide +kernel
theorem d_Drw_init_57 : decode prog_5_method_1_code 57 = .ok (.aload_n 2, 1) := by decide +kernel
theorem d_Drw_init_58 : decode prog_5_method_1_code 58 = .ok (.invokespecial 43, 3) := by decide +kernel
theorem d_Drw_init_61 : decode prog_5_method_1_code 61 = .ok (.putfield 44, 3) := by decide +kernel
theorem d_Drw_init_64 : decode prog_5_method_1_code 64 = .ok (.aload_n 0, 1) := by decide +kernel
theorem d_Drw_init_65 : decode prog_5_method_1_code 65 = .ok (.new 48, 3) := by decide +kernel
theorem d_Drw_init_68 : decode prog_5_method_1_code 68 = .ok (.dup, 1) := by decide +kernel
theorem d_Drw_init_69 : decode prog_5_method_1_code 69 = .ok (.aload_n 2, 1) := by decide +kernel
theorem d_Drw_init_70 : decode prog_5_method_1_code 70 = .ok (.invokespecial 50, 3) := by decide +kernel
theorem d_Drw_init_73 : decode prog_5_method_1_code 73 = .ok (.putfield 53, 3) := by decide +kernel
theorem d_Drw_init_76 : decode prog_5_method_1_code 76 = .ok (.aload_n 0, 1) := by decide +kernel
theorem d_Drw_init_77 : decode prog_5_method_1_code 77 = .ok (.new 57, 3) := by decide +kernel
theorem d_Drw_init_80 : decode prog_5_method_1_code 80 = .ok (.dup, 1) := by decide +kernel
theorem d_Drw_init_81 : decode prog_5_method_1_code 81 = .ok (.aload_n 0, 1) := by decide +kernel
theorem d_Drw_init_82 : decode prog_5_method_1_code 82 = .ok (.getfield 53, 3) := by decide +kernel
theorem d_Drw_init_85 : decode prog_5_method_1_code 85 = .ok (.invokespecial 59, 3) := by decide +kernel
theorem d_Drw_init_88 : decode prog_5_method_1_code 88 = .ok (.putfield 62, 3) := by decide +kernel
theorem d_Drw_init_91 : decode prog_5_method_1_code 91 = .ok (.return_, 1) := by decide +kernel
set_option maxHeartbeats 4000000 in
set_option maxRecDepth 100000 in
theorem c_Drw_init (l : Launch) (D : va_G) (cI cL : ClassId) (B sz : Nat) (h0 : Nat) (me : Nat) (to : Nat) (pi : Nat) (ke : Nat) : Met l y_Drw_init ((Cond.code y_Drw_init prog_5_method_1_code 4 none) :: tw) ({ frames := 40, cells := 47, slots := 938, locals := 4000 }) (va_Pc [.ref h0, .ref me, .ref to, .ref pi] (wP D cI cL B sz [(h0, .inr (5, [.null, .null, .int 0, .null, .null, .null, .null, .null, .null])), (to, .inr (1, [.ref ke]))])) (va_Qv (S := Nat × Nat × Nat × Nat × Nat × Nat) (fun _ => True) (fun u => wB D cI cL (va_A [(h0, .inr (5, [.null, .null, .int 0, .null, .null, .null, .null, .null, .null])), (to, .inr (1, [.ref ke]))] sz) ((fun u : Nat × Nat × Nat × Nat × Nat × Nat => match u with | (q38, q39, q40, q43, q46, q49) => [(h0, .inr (5, [.ref q38, .ref q39, .int (-1), .ref ke, .ref pi, .ref q40, .ref q43, .ref q46, .ref q49])), (to, .inr (1, [.ref ke])), (q38, .inl (cI, 9, .inl (fun _ => 0))), (q39, .inl (cI, 8, .inl (fun _ => 0)))]) u)) (va_A [(h0, .inr (5, [.null, .null, .int 0, .null, .null, .null, .null, .null, .null])), (to, .inr (1, [.ref ke]))] sz)) 47 938 (va_A [(h0, .inr (5, [.null, .null, .int 0, .null, .null, .null, .null, .null, .null])), (to, .inr (1, [.ref ke]))] sz) := by
  refine Met.ofW (cc := prog_5_method_1_code) (maxL := 4) (ret := none) (by decide) rfl ?_
  intro p e s m args below meth c s₁ B0 hml hv
  obtain ⟨rfl, hv⟩ := hv
  have hx := B0.exec
  have hb := B0.bytes
  have hr := B0.returns
  have hts := atoms_spec (ws := (Cond.code y_Drw_init prog_5_method_1_code 4 none) :: tw) B0.pre
  have htw : ∀ w ∈ tw, w.before _ s = true := fun w hw => hts w (List.mem_cons_of_mem _ hw)
  have hown : s.vm.findClass "DrawingMachine$Drawing" = some m.cls := findClass_of_methodNamed B0.named
  have hlocks := B0.notSynchronized
  have hin : meth.name = "<init>" := (name_of_methodNamed B0.named B0.method).1
  obtain ⟨hC, hP, hD, hsz⟩ := wC_init hv
  subst hsz
  generalize hAe : va_A [(h0, .inr (5, [.null, .null, .int 0, .null, .null, .null, .null, .null, .null])), (to, .inr (1, [.ref ke]))] s.heap.size = A at hC hD ⊢
  have hS : va_S A s.heap s.heap [] := va_S.rf
  have hl := lv_entry ([.ref h0, .ref me, .ref to, .ref pi]) (n := 4) (Nat.le_of_ble_eq_true rfl)
  rw [lg_entry_eq]
  generalize (lg_sl ([.ref h0, .ref me, .ref to, .ref pi]) ++ List.replicate (4 - (lg_sl ([.ref h0, .ref me, .ref to, .ref pi])).length) Slot.unset).toArray = ls at hl ⊢
  have hl : lv_has ls 4 [(0, .ref h0), (1, .ref me), (2, .ref to), (3, .ref pi)] := hl
  refine lv_aload_n hx hb d_Drw_init_0 rfl (lv_at hl 0 rfl) ?_
  refine W.objInit hx hb hown (htw _ k441) (htw _ k242) (htw _ k243) rfl (by rw [hml]; exact hl.1) rfl d_Drw_init_1 (Nat.le_of_ble_eq_true rfl) (Nat.le_of_ble_eq_true rfl) ?_
  refine W.eq (g2 := F0 m 4 ls []) rfl ?_
  refine lv_aload_n hx hb d_Drw_init_4 rfl (lv_at hl 0 rfl) ?_
  refine lv_bipush (v := 9) hx hb d_Drw_init_5 (by decide) ?_
  refine wna_i hx hb (htw _ k238) hC hP hD hS (N := 9) (by decide) (by omega) (Nat.le_of_ble_eq_true rfl) (Nat.le_of_ble_eq_true rfl) d_Drw_init_7 (fun q38 H hP hD hS => ?_)
  have hP : va_P D classes [(h0, .inr (5, [.null, .null, .int 0, .null, .null, .null, .null, .null, .null])), (to, .inr (1, [.ref ke])), (q38, .inl (cI, 9, .inl (fun _ => 0)))] H := hP
  have hD : va_D A [(h0, .inr (5, [.null, .null, .int 0, .null, .null, .null, .null, .null, .null])), (to, .inr (1, [.ref ke])), (q38, .inl (cI, 9, .inl (fun _ => 0)))] := hD
  refine W.widen (k := 1) (n := 9) (by omega) (by omega) ?_
  refine va_putF (D := D) (ci := 5) (v := .ref q38) (ty := .array .int) (C := R_Drw) (T := F_Drw) (N := 9) hx hb htw i_Drw t_Drw t_Drw_ok n_Drw hown hC.1 hP hD hS 0 rfl rfl 0 (by decide) (htw _ k442) (fun _ h9 => h9) rfl hin rfl (by decide +kernel) rfl rfl (Nat.le_of_ble_eq_true rfl) d_Drw_init_9 (fun H locs hP hD hS => ?_)
  have hP : va_P D classes [(h0, .inr (5, [.ref q38, .null, .int 0, .null, .null, .null, .null, .null, .null])), (to, .inr (1, [.ref ke])), (q38, .inl (cI, 9, .inl (fun _ => 0)))] H := hP
  have hD : va_D A [(h0, .inr (5, [.ref q38, .null, .int 0, .null, .null, .null, .null, .null, .null])), (to, .inr (1, [.ref ke])), (q38, .inl (cI, 9, .inl (fun _ => 0)))] := hD
  refine lv_aload_n hx hb d_Drw_init_12 rfl (lv_at hl 0 rfl) ?_
  refine lv_bipush (v := 8) hx hb d_Drw_init_13 (by decide) ?_
  refine wna_i hx hb (htw _ k238) hC hP hD hS (N := 8) (by decide) (by omega) (Nat.le_of_ble_eq_true rfl) (Nat.le_of_ble_eq_true rfl) d_Drw_init_15 (fun q39 H hP hD hS => ?_)
  have hP : va_P D classes [(h0, .inr (5, [.ref q38, .null, .int 0, .null, .null, .null, .null, .null, .null])), (to, .inr (1, [.ref ke])), (q38, .inl (cI, 9, .inl (fun _ => 0))), (q39, .inl (cI, 8, .inl (fun _ => 0)))] H := hP
  have hD : va_D A [(h0, .inr (5, [.ref q38, .null, .int 0, .null, .null, .null, .null, .null, .null])), (to, .inr (1, [.ref ke])), (q38, .inl (cI, 9, .inl (fun _ => 0))), (q39, .inl (cI, 8, .inl (fun _ => 0)))] := hD
  refine W.widen (k := 2) (n := 17) (by omega) (by omega) ?_
  refine va_putF (D := D) (ci := 5) (v := .ref q39) (ty := .array .int) (C := R_Drw) (T := F_Drw) (N := 9) hx hb htw i_Drw t_Drw t_Drw_ok n_Drw hown hC.1 hP hD hS 0 rfl rfl 1 (by decide) (htw _ k443) (fun _ h9 => h9) rfl hin rfl (by decide +kernel) rfl rfl (Nat.le_of_ble_eq_true rfl) d_Drw_init_17 (fun H locs hP hD hS => ?_)
  have hP : va_P D classes [(h0, .inr (5, [.ref q38, .ref q39, .int 0, .null, .null, .null, .null, .null, .null])), (to, .inr (1, [.ref ke])), (q38, .inl (cI, 9, .inl (fun _ => 0))), (q39, .inl (cI, 8, .inl (fun _ => 0)))] H := hP
  have hD : va_D A [(h0, .inr (5, [.ref q38, .ref q39, .int 0, .null, .null, .null, .null, .null, .null])), (to, .inr (1, [.ref ke])), (q38, .inl (cI, 9, .inl (fun _ => 0))), (q39, .inl (cI, 8, .inl (fun _ => 0)))] := hD
  refine lv_aload_n hx hb d_Drw_init_20 rfl (lv_at hl 0 rfl) ?_
  refine lv_iconst (v := (-1)) hx hb d_Drw_init_21 (by decide) ?_
  refine va_put (D := D) (ci := 5) (v := .int (-1)) (ty := .int) (C := R_Drw) (T := F_Drw) (N := 9) hx hb htw i_Drw t_Drw t_Drw_ok n_Drw hown hC.1 hP hD hS 0 rfl rfl 2 (by decide) (htw _ k444) (fun _ h9 => h9) rfl (by decide +kernel) rfl rfl (Nat.le_of_ble_eq_true rfl) d_Drw_init_22 (fun H locs hP hD hS => ?_)
  have hP : va_P D classes [(h0, .inr (5, [.ref q38, .ref q39, .int (-1), .null, .null, .null, .null, .null, .null])), (to, .inr (1, [.ref ke])), (q38, .inl (cI, 9, .inl (fun _ => 0))), (q39, .inl (cI, 8, .inl (fun _ => 0)))] H := hP
  have hD : va_D A [(h0, .inr (5, [.ref q38, .ref q39, .int (-1), .null, .null, .null, .null, .null, .null])), (to, .inr (1, [.ref ke])), (q38, .inl (cI, 9, .inl (fun _ => 0))), (q39, .inl (cI, 8, .inl (fun _ => 0)))] := hD
  refine lv_aload_n hx hb d_Drw_init_25 rfl (lv_at hl 0 rfl) ?_
  refine lv_aload_n hx hb d_Drw_init_26 rfl (lv_at hl 2 rfl) ?_
  refine va_get (D := D) (ci := 1) (v := .ref ke) (C := R_Told) (T := F_Told) (N := 1) hx hb htw i_Told hown hC.1 hP 1 rfl rfl 0 (by decide) (htw _ k445) (fun _ h9 => h9) rfl d_Drw_init_27 ?_
  refine va_putF (D := D) (ci := 5) (v := .ref ke) (ty := .array .int) (C := R_Drw) (T := F_Drw) (N := 9) hx hb htw i_Drw t_Drw t_Drw_ok n_Drw hown hC.1 hP hD hS 0 rfl rfl 3 (by decide) (htw _ k446) (fun _ h9 => h9) rfl hin rfl (by decide +kernel) rfl rfl (Nat.le_of_ble_eq_true rfl) d_Drw_init_30 (fun H locs hP hD hS => ?_)
  have hP : va_P D classes [(h0, .inr (5, [.ref q38, .ref q39, .int (-1), .ref ke, .null, .null, .null, .null, .null])), (to, .inr (1, [.ref ke])), (q38, .inl (cI, 9, .inl (fun _ => 0))), (q39, .inl (cI, 8, .inl (fun _ => 0)))] H := hP
  have hD : va_D A [(h0, .inr (5, [.ref q38, .ref q39, .int (-1), .ref ke, .null, .null, .null, .null, .null])), (to, .inr (1, [.ref ke])), (q38, .inl (cI, 9, .inl (fun _ => 0))), (q39, .inl (cI, 8, .inl (fun _ => 0)))] := hD
  refine lv_aload_n hx hb d_Drw_init_33 rfl (lv_at hl 0 rfl) ?_
  refine lv_aload_n hx hb d_Drw_init_34 rfl (lv_at hl 3 rfl) ?_
  refine va_putF (D := D) (ci := 5) (v := .ref pi) (ty := .object "DrawingMachine$Picture") (C := R_Drw) (T := F_Drw) (N := 9) hx hb htw i_Drw t_Drw t_Drw_ok n_Drw hown hC.1 hP hD hS 0 rfl rfl 4 (by decide) (htw _ k447) (fun _ h9 => h9) rfl hin rfl (by decide +kernel) rfl rfl (Nat.le_of_ble_eq_true rfl) d_Drw_init_35 (fun H locs hP hD hS => ?_)
  have hP : va_P D classes [(h0, .inr (5, [.ref q38, .ref q39, .int (-1), .ref ke, .ref pi, .null, .null, .null, .null])), (to, .inr (1, [.ref ke])), (q38, .inl (cI, 9, .inl (fun _ => 0))), (q39, .inl (cI, 8, .inl (fun _ => 0)))] H := hP
  have hD : va_D A [(h0, .inr (5, [.ref q38, .ref q39, .int (-1), .ref ke, .ref pi, .null, .null, .null, .null])), (to, .inr (1, [.ref ke])), (q38, .inl (cI, 9, .inl (fun _ => 0))), (q39, .inl (cI, 8, .inl (fun _ => 0)))] := hD
  refine lv_aload_n hx hb d_Drw_init_38 rfl (lv_at hl 0 rfl) ?_
  refine va_new (ci := 6) (fs := [.null, .null, .null, .null, .null, .null, .null, .null, .null]) (C := R_Pro) (T := F_Pro) (N := 9) hx hb htw i_Pro t_Pro t_Pro_ok hown (htw _ k448) (htw _ k61) (htw _ k60) hC.1 hP hD hS hC.2.2.2.1 rfl (fun j hj => by rcases (show j = 0 ∨ j = 1 ∨ j = 2 ∨ j = 3 ∨ j = 4 ∨ j = 5 ∨ j = 6 ∨ j = 7 ∨ j = 8 by omega) with rfl | rfl | rfl | rfl | rfl | rfl | rfl | rfl | rfl <;> rfl) (Nat.le_of_ble_eq_true rfl) (Nat.le_of_ble_eq_true rfl) d_Drw_init_39 (fun q40 H hP hD hS => ?_)
  have hP : va_P D classes [(h0, .inr (5, [.ref q38, .ref q39, .int (-1), .ref ke, .ref pi, .null, .null, .null, .null])), (to, .inr (1, [.ref ke])), (q38, .inl (cI, 9, .inl (fun _ => 0))), (q39, .inl (cI, 8, .inl (fun _ => 0))), (q40, .inr (6, [.null, .null, .null, .null, .null, .null, .null, .null, .null]))] H := hP
  have hD : va_D A [(h0, .inr (5, [.ref q38, .ref q39, .int (-1), .ref ke, .ref pi, .null, .null, .null, .null])), (to, .inr (1, [.ref ke])), (q38, .inl (cI, 9, .inl (fun _ => 0))), (q39, .inl (cI, 8, .inl (fun _ => 0))), (q40, .inr (6, [.null, .null, .null, .null, .null, .null, .null, .null, .null]))] := hD
  refine W.widen (k := 3) (n := 26) (by omega) (by omega) ?_
  refine lv_dup hx hb d_Drw_init_42 rfl ?_
  refine lv_aload_n hx hb d_Drw_init_43 rfl (lv_at hl 1 rfl) ?_
  refine lv_aload_n hx hb d_Drw_init_44 rfl (lv_at hl 2 rfl) ?_
  refine wc_v (wr := [(h0, .inr (5, [.ref q38, .ref q39, .int (-1), .ref ke, .ref pi, .null, .null, .null, .null])), (q38, .inl (cI, 9, .inl (fun _ => 0))), (q39, .inl (cI, 8, .inl (fun _ => 0)))]) hC hP hD hS [4, 1] [0, 2, 3] rfl rfl (by decide) (by decide) (va_runI (As := [.ref me, .ref to]) (rest := [.ref q40, .ref h0]) ⟨hx, hb, hml, hown, htw⟩ (c_Pro_init l D cI cL B _ q40 me to ke) (cwI 2 htw (tw_good (fun _ h => h) k451) rfl rfl rfl (htw _ k60) (htw _ k449) (htw _ k450) rfl (by decide +kernel) ⟨Nat.le_of_ble_eq_true rfl, Nat.le_of_ble_eq_true rfl⟩) (wC_pre hC hP hD hS [4, 1] (by decide) rfl) rfl rfl hl.1 rfl (lv_room (Nat.le_of_ble_eq_true rfl)) d_Drw_init_45 ⟨Nat.le_of_ble_eq_true rfl, Nat.le_of_ble_eq_true rfl⟩) (fun u41 H locs hw42 hP hD hS => ?_)
  have hP : va_P D classes [(h0, .inr (5, [.ref q38, .ref q39, .int (-1), .ref ke, .ref pi, .null, .null, .null, .null])), (q38, .inl (cI, 9, .inl (fun _ => 0))), (q39, .inl (cI, 8, .inl (fun _ => 0))), (to, .inr (1, [.ref ke]))] H := hP
  have hD : va_D A [(h0, .inr (5, [.ref q38, .ref q39, .int (-1), .ref ke, .ref pi, .null, .null, .null, .null])), (q38, .inl (cI, 9, .inl (fun _ => 0))), (q39, .inl (cI, 8, .inl (fun _ => 0))), (to, .inr (1, [.ref ke]))] := hD
  refine W.widen (k := 15) (n := 332) (by omega) (by omega) ?_
  refine va_putF (D := D) (ci := 5) (v := .ref q40) (ty := .object "DrawingMachine$Processor") (C := R_Drw) (T := F_Drw) (N := 9) hx hb htw i_Drw t_Drw t_Drw_ok n_Drw hown hC.1 hP hD hS 0 rfl rfl 5 (by decide) (htw _ k452) (fun _ h9 => h9) rfl hin rfl (by decide +kernel) rfl rfl (Nat.le_of_ble_eq_true rfl) d_Drw_init_48 (fun H locs hP hD hS => ?_)
  have hP : va_P D classes [(h0, .inr (5, [.ref q38, .ref q39, .int (-1), .ref ke, .ref pi, .ref q40, .null, .null, .null])), (q38, .inl (cI, 9, .inl (fun _ => 0))), (q39, .inl (cI, 8, .inl (fun _ => 0))), (to, .inr (1, [.ref ke]))] H := hP
  have hD : va_D A [(h0, .inr (5, [.ref q38, .ref q39, .int (-1), .ref ke, .ref pi, .ref q40, .null, .null, .null])), (q38, .inl (cI, 9, .inl (fun _ => 0))), (q39, .inl (cI, 8, .inl (fun _ => 0))), (to, .inr (1, [.ref ke]))] := hD
  refine lv_aload_n hx hb d_Drw_init_51 rfl (lv_at hl 0 rfl) ?_
  refine va_new (ci := 8) (fs := [.null, .null]) (C := R_Ver) (T := F_Ver) (N := 2) hx hb htw i_Ver t_Ver t_Ver_ok hown (htw _ k453) (htw _ k80) (htw _ k79) hC.1 hP hD hS hC.2.2.2.1 rfl (fun j hj => by rcases (show j = 0 ∨ j = 1 by omega) with rfl | rfl <;> rfl) (Nat.le_of_ble_eq_true rfl) (Nat.le_of_ble_eq_true rfl) d_Drw_init_52 (fun q43 H hP hD hS => ?_)
  have hP : va_P D classes [(h0, .inr (5, [.ref q38, .ref q39, .int (-1), .ref ke, .ref pi, .ref q40, .null, .null, .null])), (q38, .inl (cI, 9, .inl (fun _ => 0))), (q39, .inl (cI, 8, .inl (fun _ => 0))), (to, .inr (1, [.ref ke])), (q43, .inr (8, [.null, .null]))] H := hP
  have hD : va_D A [(h0, .inr (5, [.ref q38, .ref q39, .int (-1), .ref ke, .ref pi, .ref q40, .null, .null, .null])), (q38, .inl (cI, 9, .inl (fun _ => 0))), (q39, .inl (cI, 8, .inl (fun _ => 0))), (to, .inr (1, [.ref ke])), (q43, .inr (8, [.null, .null]))] := hD
  refine W.widen (k := 16) (n := 334) (by omega) (by omega) ?_
  refine lv_dup hx hb d_Drw_init_55 rfl ?_
  refine lv_aload_n hx hb d_Drw_init_56 rfl (lv_at hl 1 rfl) ?_
  refine lv_aload_n hx hb d_Drw_init_57 rfl (lv_at hl 2 rfl) ?_
  refine wc_v (wr := [(h0, .inr (5, [.ref q38, .ref q39, .int (-1), .ref ke, .ref pi, .ref q40, .null, .null, .null])), (q38, .inl (cI, 9, .inl (fun _ => 0))), (q39, .inl (cI, 8, .inl (fun _ => 0)))]) hC hP hD hS [4, 3] [0, 1, 2] rfl rfl (by decide) (by decide) (va_runI (As := [.ref me, .ref to]) (rest := [.ref q43, .ref h0]) ⟨hx, hb, hml, hown, htw⟩ (c_Ver_init l D cI cL B _ q43 me to ke) (cwI 2 htw (tw_good (fun _ h => h) k456) rfl rfl rfl (htw _ k79) (htw _ k454) (htw _ k455) rfl (by decide +kernel) ⟨Nat.le_of_ble_eq_true rfl, Nat.le_of_ble_eq_true rfl⟩) (wC_pre hC hP hD hS [4, 3] (by decide) rfl) rfl rfl hl.1 rfl (lv_room (Nat.le_of_ble_eq_true rfl)) d_Drw_init_58 ⟨Nat.le_of_ble_eq_true rfl, Nat.le_of_ble_eq_true rfl⟩) (fun u44 H locs hw45 hP hD hS => ?_)
  have hP : va_P D classes [(h0, .inr (5, [.ref q38, .ref q39, .int (-1), .ref ke, .ref pi, .ref q40, .null, .null, .null])), (q38, .inl (cI, 9, .inl (fun _ => 0))), (q39, .inl (cI, 8, .inl (fun _ => 0))), (to, .inr (1, [.ref ke]))] H := hP
  have hD : va_D A [(h0, .inr (5, [.ref q38, .ref q39, .int (-1), .ref ke, .ref pi, .ref q40, .null, .null, .null])), (q38, .inl (cI, 9, .inl (fun _ => 0))), (q39, .inl (cI, 8, .inl (fun _ => 0))), (to, .inr (1, [.ref ke]))] := hD
  refine W.widen (k := 16) (n := 334) (by omega) (by omega) ?_
  refine va_putF (D := D) (ci := 5) (v := .ref q43) (ty := .object "DrawingMachine$Vertices") (C := R_Drw) (T := F_Drw) (N := 9) hx hb htw i_Drw t_Drw t_Drw_ok n_Drw hown hC.1 hP hD hS 0 rfl rfl 6 (by decide) (htw _ k457) (fun _ h9 => h9) rfl hin rfl (by decide +kernel) rfl rfl (Nat.le_of_ble_eq_true rfl) d_Drw_init_61 (fun H locs hP hD hS => ?_)
  have hP : va_P D classes [(h0, .inr (5, [.ref q38, .ref q39, .int (-1), .ref ke, .ref pi, .ref q40, .ref q43, .null, .null])), (q38, .inl (cI, 9, .inl (fun _ => 0))), (q39, .inl (cI, 8, .inl (fun _ => 0))), (to, .inr (1, [.ref ke]))] H := hP
  have hD : va_D A [(h0, .inr (5, [.ref q38, .ref q39, .int (-1), .ref ke, .ref pi, .ref q40, .ref q43, .null, .null])), (q38, .inl (cI, 9, .inl (fun _ => 0))), (q39, .inl (cI, 8, .inl (fun _ => 0))), (to, .inr (1, [.ref ke]))] := hD
  refine lv_aload_n hx hb d_Drw_init_64 rfl (lv_at hl 0 rfl) ?_
  refine va_new (ci := 9) (fs := [.int 0, .null, .null, .null, .null, .null, .null, .null]) (C := R_Sha) (T := F_Sha) (N := 8) hx hb htw i_Sha t_Sha t_Sha_ok hown (htw _ k458) (htw _ k84) (htw _ k83) hC.1 hP hD hS hC.2.2.2.1 rfl (fun j hj => by rcases (show j = 0 ∨ j = 1 ∨ j = 2 ∨ j = 3 ∨ j = 4 ∨ j = 5 ∨ j = 6 ∨ j = 7 by omega) with rfl | rfl | rfl | rfl | rfl | rfl | rfl | rfl <;> rfl) (Nat.le_of_ble_eq_true rfl) (Nat.le_of_ble_eq_true rfl) d_Drw_init_65 (fun q46 H hP hD hS => ?_)
  have hP : va_P D classes [(h0, .inr (5, [.ref q38, .ref q39, .int (-1), .ref ke, .ref pi, .ref q40, .ref q43, .null, .null])), (q38, .inl (cI, 9, .inl (fun _ => 0))), (q39, .inl (cI, 8, .inl (fun _ => 0))), (to, .inr (1, [.ref ke])), (q46, .inr (9, [.int 0, .null, .null, .null, .null, .null, .null, .null]))] H := hP
  have hD : va_D A [(h0, .inr (5, [.ref q38, .ref q39, .int (-1), .ref ke, .ref pi, .ref q40, .ref q43, .null, .null])), (q38, .inl (cI, 9, .inl (fun _ => 0))), (q39, .inl (cI, 8, .inl (fun _ => 0))), (to, .inr (1, [.ref ke])), (q46, .inr (9, [.int 0, .null, .null, .null, .null, .null, .null, .null]))] := hD
  refine W.widen (k := 17) (n := 342) (by omega) (by omega) ?_
  refine lv_dup hx hb d_Drw_init_68 rfl ?_
  refine lv_aload_n hx hb d_Drw_init_69 rfl (lv_at hl 2 rfl) ?_
  refine wc_v (wr := [(h0, .inr (5, [.ref q38, .ref q39, .int (-1), .ref ke, .ref pi, .ref q40, .ref q43, .null, .null])), (q38, .inl (cI, 9, .inl (fun _ => 0))), (q39, .inl (cI, 8, .inl (fun _ => 0)))]) hC hP hD hS [4, 3] [0, 1, 2] rfl rfl (by decide) (by decide) (va_runI (As := [.ref to]) (rest := [.ref q46, .ref h0]) ⟨hx, hb, hml, hown, htw⟩ (c_Sha_init l D cI cL B _ q46 to ke) (cwI 1 htw (tw_good (fun _ h => h) k461) rfl rfl rfl (htw _ k83) (htw _ k459) (htw _ k460) rfl (by decide +kernel) ⟨Nat.le_of_ble_eq_true rfl, Nat.le_of_ble_eq_true rfl⟩) (wC_pre hC hP hD hS [4, 3] (by decide) rfl) rfl rfl hl.1 rfl (lv_room (Nat.le_of_ble_eq_true rfl)) d_Drw_init_70 ⟨Nat.le_of_ble_eq_true rfl, Nat.le_of_ble_eq_true rfl⟩) (fun u47 H locs hw48 hP hD hS => ?_)
  have hP : va_P D classes [(h0, .inr (5, [.ref q38, .ref q39, .int (-1), .ref ke, .ref pi, .ref q40, .ref q43, .null, .null])), (q38, .inl (cI, 9, .inl (fun _ => 0))), (q39, .inl (cI, 8, .inl (fun _ => 0))), (to, .inr (1, [.ref ke]))] H := hP
  have hD : va_D A [(h0, .inr (5, [.ref q38, .ref q39, .int (-1), .ref ke, .ref pi, .ref q40, .ref q43, .null, .null])), (q38, .inl (cI, 9, .inl (fun _ => 0))), (q39, .inl (cI, 8, .inl (fun _ => 0))), (to, .inr (1, [.ref ke]))] := hD
  refine W.widen (k := 39) (n := 902) (by omega) (by omega) ?_
  refine va_putF (D := D) (ci := 5) (v := .ref q46) (ty := .object "DrawingMachine$Shape") (C := R_Drw) (T := F_Drw) (N := 9) hx hb htw i_Drw t_Drw t_Drw_ok n_Drw hown hC.1 hP hD hS 0 rfl rfl 7 (by decide) (htw _ k462) (fun _ h9 => h9) rfl hin rfl (by decide +kernel) rfl rfl (Nat.le_of_ble_eq_true rfl) d_Drw_init_73 (fun H locs hP hD hS => ?_)
  have hP : va_P D classes [(h0, .inr (5, [.ref q38, .ref q39, .int (-1), .ref ke, .ref pi, .ref q40, .ref q43, .ref q46, .null])), (q38, .inl (cI, 9, .inl (fun _ => 0))), (q39, .inl (cI, 8, .inl (fun _ => 0))), (to, .inr (1, [.ref ke]))] H := hP
  have hD : va_D A [(h0, .inr (5, [.ref q38, .ref q39, .int (-1), .ref ke, .ref pi, .ref q40, .ref q43, .ref q46, .null])), (q38, .inl (cI, 9, .inl (fun _ => 0))), (q39, .inl (cI, 8, .inl (fun _ => 0))), (to, .inr (1, [.ref ke]))] := hD
  refine lv_aload_n hx hb d_Drw_init_76 rfl (lv_at hl 0 rfl) ?_
  refine va_new (ci := 10) (fs := [.int 0, .int 0, .int 0, .int 0, .int 0, .null, .null, .null, .null, .null, .null, .null, .null, .long 0, .long 0]) (C := R_Cov) (T := F_Cov) (N := 15) hx hb htw i_Cov t_Cov t_Cov_ok hown (htw _ k463) (htw _ k94) (htw _ k93) hC.1 hP hD hS hC.2.2.2.1 rfl (fun j hj => by rcases (show j = 0 ∨ j = 1 ∨ j = 2 ∨ j = 3 ∨ j = 4 ∨ j = 5 ∨ j = 6 ∨ j = 7 ∨ j = 8 ∨ j = 9 ∨ j = 10 ∨ j = 11 ∨ j = 12 ∨ j = 13 ∨ j = 14 by omega) with rfl | rfl | rfl | rfl | rfl | rfl | rfl | rfl | rfl | rfl | rfl | rfl | rfl | rfl | rfl <;> rfl) (Nat.le_of_ble_eq_true rfl) (Nat.le_of_ble_eq_true rfl) d_Drw_init_77 (fun q49 H hP hD hS => ?_)
  have hP : va_P D classes [(h0, .inr (5, [.ref q38, .ref q39, .int (-1), .ref ke, .ref pi, .ref q40, .ref q43, .ref q46, .null])), (q38, .inl (cI, 9, .inl (fun _ => 0))), (q39, .inl (cI, 8, .inl (fun _ => 0))), (to, .inr (1, [.ref ke])), (q49, .inr (10, [.int 0, .int 0, .int 0, .int 0, .int 0, .null, .null, .null, .null, .null, .null, .null, .null, .long 0, .long 0]))] H := hP
  have hD : va_D A [(h0, .inr (5, [.ref q38, .ref q39, .int (-1), .ref ke, .ref pi, .ref q40, .ref q43, .ref q46, .null])), (q38, .inl (cI, 9, .inl (fun _ => 0))), (q39, .inl (cI, 8, .inl (fun _ => 0))), (to, .inr (1, [.ref ke])), (q49, .inr (10, [.int 0, .int 0, .int 0, .int 0, .int 0, .null, .null, .null, .null, .null, .null, .null, .null, .long 0, .long 0]))] := hD
  refine W.widen (k := 40) (n := 917) (by omega) (by omega) ?_
  refine lv_dup hx hb d_Drw_init_80 rfl ?_
  refine lv_aload_n hx hb d_Drw_init_81 rfl (lv_at hl 0 rfl) ?_
  refine va_get (D := D) (ci := 5) (v := .ref q46) (C := R_Drw) (T := F_Drw) (N := 9) hx hb htw i_Drw hown hC.1 hP 0 rfl rfl 7 (by decide) (htw _ k462) (fun _ h9 => h9) rfl d_Drw_init_82 ?_
  refine wc_v (wr := [(h0, .inr (5, [.ref q38, .ref q39, .int (-1), .ref ke, .ref pi, .ref q40, .ref q43, .ref q46, .null])), (q38, .inl (cI, 9, .inl (fun _ => 0))), (q39, .inl (cI, 8, .inl (fun _ => 0))), (to, .inr (1, [.ref ke]))]) hC hP hD hS [4] [0, 1, 2, 3] rfl rfl (by decide) (by decide) (va_runI (As := [.ref q46]) (rest := [.ref q49, .ref h0]) ⟨hx, hb, hml, hown, htw⟩ (c_Cov_init l D cI cL B _ q49 q46) (cwI 1 htw (tw_good (fun _ h => h) k466) rfl rfl rfl (htw _ k93) (htw _ k464) (htw _ k465) rfl (by decide +kernel) ⟨Nat.le_of_ble_eq_true rfl, Nat.le_of_ble_eq_true rfl⟩) (wC_pre hC hP hD hS [4] (by decide) rfl) rfl rfl hl.1 rfl (lv_room (Nat.le_of_ble_eq_true rfl)) d_Drw_init_85 ⟨Nat.le_of_ble_eq_true rfl, Nat.le_of_ble_eq_true rfl⟩) (fun u50 H locs hw51 hP hD hS => ?_)
  have hP : va_P D classes [(h0, .inr (5, [.ref q38, .ref q39, .int (-1), .ref ke, .ref pi, .ref q40, .ref q43, .ref q46, .null])), (q38, .inl (cI, 9, .inl (fun _ => 0))), (q39, .inl (cI, 8, .inl (fun _ => 0))), (to, .inr (1, [.ref ke]))] H := hP
  have hD : va_D A [(h0, .inr (5, [.ref q38, .ref q39, .int (-1), .ref ke, .ref pi, .ref q40, .ref q43, .ref q46, .null])), (q38, .inl (cI, 9, .inl (fun _ => 0))), (q39, .inl (cI, 8, .inl (fun _ => 0))), (to, .inr (1, [.ref ke]))] := hD
  refine W.widen (k := 47) (n := 938) (by omega) (by omega) ?_
  refine va_putF (D := D) (ci := 5) (v := .ref q49) (ty := .object "DrawingMachine$Covering") (C := R_Drw) (T := F_Drw) (N := 9) hx hb htw i_Drw t_Drw t_Drw_ok n_Drw hown hC.1 hP hD hS 0 rfl rfl 8 (by decide) (htw _ k467) (fun _ h9 => h9) rfl hin rfl (by decide +kernel) rfl rfl (Nat.le_of_ble_eq_true rfl) d_Drw_init_88 (fun H locs hP hD hS => ?_)
  have hP : va_P D classes [(h0, .inr (5, [.ref q38, .ref q39, .int (-1), .ref ke, .ref pi, .ref q40, .ref q43, .ref q46, .ref q49])), (q38, .inl (cI, 9, .inl (fun _ => 0))), (q39, .inl (cI, 8, .inl (fun _ => 0))), (to, .inr (1, [.ref ke]))] H := hP
  have hD : va_D A [(h0, .inr (5, [.ref q38, .ref q39, .int (-1), .ref ke, .ref pi, .ref q40, .ref q43, .ref q46, .ref q49])), (q38, .inl (cI, 9, .inl (fun _ => 0))), (q39, .inl (cI, 8, .inl (fun _ => 0))), (to, .inr (1, [.ref ke]))] := hD
  refine W.widen (k := 47) (n := 938) (Nat.le_of_ble_eq_true rfl) (Nat.le_of_ble_eq_true rfl) ?_
  have hP9 := hP.sub (ws' := [(h0, .inr (5, [.ref q38, .ref q39, .int (-1), .ref ke, .ref pi, .ref q40, .ref q43, .ref q46, .ref q49])), (to, .inr (1, [.ref ke])), (q38, .inl (cI, 9, .inl (fun _ => 0))), (q39, .inl (cI, 8, .inl (fun _ => 0)))]) [0, 3, 1, 2] rfl
  have hD9 := hD.sub (ws' := [(h0, .inr (5, [.ref q38, .ref q39, .int (-1), .ref ke, .ref pi, .ref q40, .ref q43, .ref q46, .ref q49])), (to, .inr (1, [.ref ke])), (q38, .inl (cI, 9, .inl (fun _ => 0))), (q39, .inl (cI, 8, .inl (fun _ => 0)))]) [0, 3, 1, 2] (by decide) rfl
  exact W.vret hx hb hr (fun t ht hW => ⟨⟨(q38, q39, q40, q43, q46, q49), rfl, trivial, by rw [ht]; exact hP9, va_K.moved hW.alike hC.1, hD9⟩, hS.F ht⟩) hS.2.2 d_Drw_init_91
