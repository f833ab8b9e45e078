theorem d_Cou_source_0 : decode prog_3_method_6_code 0 = .ok (.aload_n 0, 1) := by decide +kernel
theorem d_Cou_source_1 : decode prog_3_method_6_code 1 = .ok (.getfield 49, 3) := by decide +kernel
theorem d_Cou_source_4 : decode prog_3_method_6_code 4 = .ok (.ifCond .ne 10, 3) := by decide +kernel
theorem d_Cou_source_7 : decode prog_3_method_6_code 7 = .ok (.aload_n 0, 1) := by decide +kernel
theorem d_Cou_source_8 : decode prog_3_method_6_code 8 = .ok (.getfield 25, 3) := by decide +kernel
theorem d_Cou_source_11 : decode prog_3_method_6_code 11 = .ok (.goto 7, 3) := by decide +kernel
theorem d_Cou_source_18 : decode prog_3_method_6_code 18 = .ok (.areturn, 1) := by decide +kernel
set_option maxHeartbeats 4000000 in
set_option maxRecDepth 100000 in
theorem c_Cou_source (l : Launch) (D : va_G) (cI cL : ClassId) (B sz : Nat) (q83 : Nat) (q95 : Nat) (z98 : Nat) (z99 : Nat) (z100 : Nat) : Met l y_Cou_source ((Cond.code y_Cou_source prog_3_method_6_code 1 (some (.array .int))) :: tw) ({ frames := 20, cells := 0, slots := 0, locals := 2000 }) (va_Pc [.ref q95] (wP D cI cL B sz [(q95, .inr (3, [.ref z98, .int 0, .int 0, .int 0, .int 0, .int 0, .int 0, .int 0, .int 0, .long 0, .ref q83, .ref z99, .ref z100, .int 0, .int 0]))])) (va_Qr (S := Unit) (fun _ => True) (fun u q t => q = (fun _ : Unit => z100) u ∧ wB D cI cL (va_A [(q95, .inr (3, [.ref z98, .int 0, .int 0, .int 0, .int 0, .int 0, .int 0, .int 0, .int 0, .long 0, .ref q83, .ref z99, .ref z100, .int 0, .int 0]))] sz) ((fun _ : Unit => [(q95, .inr (3, [.ref z98, .int 0, .int 0, .int 0, .int 0, .int 0, .int 0, .int 0, .int 0, .long 0, .ref q83, .ref z99, .ref z100, .int 0, .int 0]))]) u) t) (va_A [(q95, .inr (3, [.ref z98, .int 0, .int 0, .int 0, .int 0, .int 0, .int 0, .int 0, .int 0, .long 0, .ref q83, .ref z99, .ref z100, .int 0, .int 0]))] sz)) 0 0 (va_A [(q95, .inr (3, [.ref z98, .int 0, .int 0, .int 0, .int 0, .int 0, .int 0, .int 0, .int 0, .long 0, .ref q83, .ref z99, .ref z100, .int 0, .int 0]))] sz) := by
  refine Met.ofW (cc := prog_3_method_6_code) (maxL := 1) (ret := (some (.array .int))) (by decide) rfl ?_
  intro p e s m args below meth c s₁ B0 hml hv
  obtain ⟨rfl, hv⟩ := hv
  have hx := B0.exec
  have hb := B0.bytes
  have hr := B0.returns
  have hts := atoms_spec (ws := (Cond.code y_Cou_source prog_3_method_6_code 1 (some (.array .int))) :: tw) B0.pre
  have htw : ∀ w ∈ tw, w.before _ s = true := fun w hw => hts w (List.mem_cons_of_mem _ hw)
  have hown : s.vm.findClass "DrawingMachine$Course" = some m.cls := findClass_of_methodNamed B0.named
  have hlocks := B0.notSynchronized
  obtain ⟨hC, hP, hD, hsz⟩ := wC_init hv
  subst hsz
  generalize hAe : va_A [(q95, .inr (3, [.ref z98, .int 0, .int 0, .int 0, .int 0, .int 0, .int 0, .int 0, .int 0, .long 0, .ref q83, .ref z99, .ref z100, .int 0, .int 0]))] s.heap.size = A at hC hD ⊢
  have hS : va_S A s.heap s.heap [] := va_S.rf
  have hl := lv_entry ([.ref q95]) (n := 1) (Nat.le_of_ble_eq_true rfl)
  rw [lg_entry_eq]
  generalize (lg_sl ([.ref q95]) ++ List.replicate (1 - (lg_sl ([.ref q95])).length) Slot.unset).toArray = ls at hl ⊢
  have hl : lv_has ls 1 [(0, .ref q95)] := hl
  refine lv_aload_n hx hb d_Cou_source_0 rfl (lv_at hl 0 rfl) ?_
  refine va_get (D := D) (ci := 3) (v := .int 0) (C := R_Cou) (T := F_Cou) (N := 15) hx hb htw i_Cou hown hC.1 hP 0 rfl rfl 3 (by decide) (htw _ k419) (fun _ h9 => h9) rfl d_Cou_source_1 ?_
  refine lv_if_ne (tgt := 14) hx hb d_Cou_source_4 (by decide) (fun c_261 => absurd c_261 (by decide)) (fun c_261 => ?_)
  refine lv_aload_n hx hb d_Cou_source_7 rfl (lv_at hl 0 rfl) ?_
  refine va_get (D := D) (ci := 3) (v := .ref z100) (C := R_Cou) (T := F_Cou) (N := 15) hx hb htw i_Cou hown hC.1 hP 0 rfl rfl 12 (by decide) (htw _ k413) (fun _ h9 => h9) rfl d_Cou_source_8 ?_
  refine lv_goto (tgt := 18) hx hb d_Cou_source_11 (by decide) ?_
  refine W.widen (k := 0) (n := 0) (Nat.le_of_ble_eq_true rfl) (Nat.le_of_ble_eq_true rfl) ?_
  have hP9 := hP.sub (ws' := [(q95, .inr (3, [.ref z98, .int 0, .int 0, .int 0, .int 0, .int 0, .int 0, .int 0, .int 0, .long 0, .ref q83, .ref z99, .ref z100, .int 0, .int 0]))]) [0] rfl
  have hD9 := hD.sub (ws' := [(q95, .inr (3, [.ref z98, .int 0, .int 0, .int 0, .int 0, .int 0, .int 0, .int 0, .int 0, .long 0, .ref q83, .ref z99, .ref z100, .int 0, .int 0]))]) [0] (by decide) rfl
  exact W.aret (v := .ref z100) hx hb hr (Or.inr ⟨_, rfl⟩) (Or.inr ⟨_, rfl⟩) (fun t ht hW => ⟨⟨(), z100, rfl, trivial, rfl, by rw [ht]; exact hP9, va_K.moved hW.alike hC.1, hD9⟩, hS.F ht⟩) hS.2.2 d_Cou_source_18

theorem d_Cou_limit_0 : decode prog_3_method_7_code 0 = .ok (.aload_n 0, 1) := by decide +kernel
theorem d_Cou_limit_1 : decode prog_3_method_7_code 1 = .ok (.getfield 49, 3) := by decide +kernel
theorem d_Cou_limit_4 : decode prog_3_method_7_code 4 = .ok (.ifCond .ne 10, 3) := by decide +kernel
theorem d_Cou_limit_7 : decode prog_3_method_7_code 7 = .ok (.aload_n 0, 1) := by decide +kernel
theorem d_Cou_limit_8 : decode prog_3_method_7_code 8 = .ok (.getfield 31, 3) := by decide +kernel
theorem d_Cou_limit_11 : decode prog_3_method_7_code 11 = .ok (.goto 6, 3) := by decide +kernel
theorem d_Cou_limit_17 : decode prog_3_method_7_code 17 = .ok (.ireturn, 1) := by decide +kernel
set_option maxHeartbeats 4000000 in
set_option maxRecDepth 100000 in
theorem c_Cou_limit (l : Launch) (D : va_G) (cI cL : ClassId) (B sz : Nat) (q83 : Nat) (q95 : Nat) (z98 : Nat) (z99 : Nat) (z100 : Nat) : Met l y_Cou_limit ((Cond.code y_Cou_limit prog_3_method_7_code 1 (some .int)) :: tw) ({ frames := 20, cells := 0, slots := 0, locals := 2000 }) (va_Pc [.ref q95] (wP D cI cL B sz [(q95, .inr (3, [.ref z98, .int 0, .int 0, .int 0, .int 0, .int 0, .int 0, .int 0, .int 0, .long 0, .ref q83, .ref z99, .ref z100, .int 0, .int 0]))])) (va_Qi (S := Unit) (fun r u => r = 0) (fun u => wB D cI cL (va_A [(q95, .inr (3, [.ref z98, .int 0, .int 0, .int 0, .int 0, .int 0, .int 0, .int 0, .int 0, .long 0, .ref q83, .ref z99, .ref z100, .int 0, .int 0]))] sz) ((fun _ : Unit => [(q95, .inr (3, [.ref z98, .int 0, .int 0, .int 0, .int 0, .int 0, .int 0, .int 0, .int 0, .long 0, .ref q83, .ref z99, .ref z100, .int 0, .int 0]))]) u)) (va_A [(q95, .inr (3, [.ref z98, .int 0, .int 0, .int 0, .int 0, .int 0, .int 0, .int 0, .int 0, .long 0, .ref q83, .ref z99, .ref z100, .int 0, .int 0]))] sz)) 0 0 (va_A [(q95, .inr (3, [.ref z98, .int 0, .int 0, .int 0, .int 0, .int 0, .int 0, .int 0, .int 0, .long 0, .ref q83, .ref z99, .ref z100, .int 0, .int 0]))] sz) := by
  refine Met.ofW (cc := prog_3_method_7_code) (maxL := 1) (ret := (some .int)) (by decide) rfl ?_
  intro p e s m args below meth c s₁ B0 hml hv
  obtain ⟨rfl, hv⟩ := hv
  have hx := B0.exec
  have hb := B0.bytes
  have hr := B0.returns
  have hts := atoms_spec (ws := (Cond.code y_Cou_limit prog_3_method_7_code 1 (some .int)) :: tw) B0.pre
  have htw : ∀ w ∈ tw, w.before _ s = true := fun w hw => hts w (List.mem_cons_of_mem _ hw)
  have hown : s.vm.findClass "DrawingMachine$Course" = some m.cls := findClass_of_methodNamed B0.named
  have hlocks := B0.notSynchronized
  obtain ⟨hC, hP, hD, hsz⟩ := wC_init hv
  subst hsz
  generalize hAe : va_A [(q95, .inr (3, [.ref z98, .int 0, .int 0, .int 0, .int 0, .int 0, .int 0, .int 0, .int 0, .long 0, .ref q83, .ref z99, .ref z100, .int 0, .int 0]))] s.heap.size = A at hC hD ⊢
  have hS : va_S A s.heap s.heap [] := va_S.rf
  have hl := lv_entry ([.ref q95]) (n := 1) (Nat.le_of_ble_eq_true rfl)
  rw [lg_entry_eq]
  generalize (lg_sl ([.ref q95]) ++ List.replicate (1 - (lg_sl ([.ref q95])).length) Slot.unset).toArray = ls at hl ⊢
  have hl : lv_has ls 1 [(0, .ref q95)] := hl
  refine lv_aload_n hx hb d_Cou_limit_0 rfl (lv_at hl 0 rfl) ?_
  refine va_get (D := D) (ci := 3) (v := .int 0) (C := R_Cou) (T := F_Cou) (N := 15) hx hb htw i_Cou hown hC.1 hP 0 rfl rfl 3 (by decide) (htw _ k419) (fun _ h9 => h9) rfl d_Cou_limit_1 ?_
  refine lv_if_ne (tgt := 14) hx hb d_Cou_limit_4 (by decide) (fun c_262 => absurd c_262 (by decide)) (fun c_262 => ?_)
  refine lv_aload_n hx hb d_Cou_limit_7 rfl (lv_at hl 0 rfl) ?_
  refine va_get (D := D) (ci := 3) (v := .int 0) (C := R_Cou) (T := F_Cou) (N := 15) hx hb htw i_Cou hown hC.1 hP 0 rfl rfl 1 (by decide) (htw _ k415) (fun _ h9 => h9) rfl d_Cou_limit_8 ?_
  refine lv_goto (tgt := 17) hx hb d_Cou_limit_11 (by decide) ?_
  refine W.widen (k := 0) (n := 0) (Nat.le_of_ble_eq_true rfl) (Nat.le_of_ble_eq_true rfl) ?_
  have hP9 := hP.sub (ws' := [(q95, .inr (3, [.ref z98, .int 0, .int 0, .int 0, .int 0, .int 0, .int 0, .int 0, .int 0, .long 0, .ref q83, .ref z99, .ref z100, .int 0, .int 0]))]) [0] rfl
  have hD9 := hD.sub (ws' := [(q95, .inr (3, [.ref z98, .int 0, .int 0, .int 0, .int 0, .int 0, .int 0, .int 0, .int 0, .long 0, .ref q83, .ref z99, .ref z100, .int 0, .int 0]))]) [0] (by decide) rfl
  exact W.iret (v := 0) hx hb hr (fun t ht hW => ⟨⟨0, (), rfl, rfl, by rw [ht]; exact hP9, va_K.moved hW.alike hC.1, hD9⟩, hS.F ht⟩) hS.2.2 d_Cou_limit_17

theorem d_Cou_fetch_0 : decode prog_3_method_5_code 0 = .ok (.aload_n 0, 1) := by decide +kernel
theorem d_Cou_fetch_1 : decode prog_3_method_5_code 1 = .ok (.aload_n 0, 1) := by decide +kernel
theorem d_Cou_fetch_2 : decode prog_3_method_5_code 2 = .ok (.getfield 46, 3) := by decide +kernel
theorem d_Cou_fetch_5 : decode prog_3_method_5_code 5 = .ok (.putfield 15, 3) := by decide +kernel
theorem d_Cou_fetch_8 : decode prog_3_method_5_code 8 = .ok (.aload_n 0, 1) := by decide +kernel
theorem d_Cou_fetch_9 : decode prog_3_method_5_code 9 = .ok (.aload_n 0, 1) := by decide +kernel
theorem d_Cou_fetch_10 : decode prog_3_method_5_code 10 = .ok (.getfield 49, 3) := by decide +kernel
theorem d_Cou_fetch_13 : decode prog_3_method_5_code 13 = .ok (.putfield 19, 3) := by decide +kernel
theorem d_Cou_fetch_16 : decode prog_3_method_5_code 16 = .ok (.aload_n 0, 1) := by decide +kernel
theorem d_Cou_fetch_17 : decode prog_3_method_5_code 17 = .ok (.getfield 52, 3) := by decide +kernel
theorem d_Cou_fetch_20 : decode prog_3_method_5_code 20 = .ok (.sipush 2000, 3) := by decide +kernel
theorem d_Cou_fetch_23 : decode prog_3_method_5_code 23 = .ok (.if_icmp .lt 6, 3) := by decide +kernel
theorem d_Cou_fetch_29 : decode prog_3_method_5_code 29 = .ok (.aload_n 0, 1) := by decide +kernel
theorem d_Cou_fetch_30 : decode prog_3_method_5_code 30 = .ok (.invokevirtual 66, 3) := by decide +kernel
theorem d_Cou_fetch_33 : decode prog_3_method_5_code 33 = .ok (.astore_n 1, 1) := by decide +kernel
theorem d_Cou_fetch_34 : decode prog_3_method_5_code 34 = .ok (.aload_n 0, 1) := by decide +kernel
theorem d_Cou_fetch_35 : decode prog_3_method_5_code 35 = .ok (.invokevirtual 70, 3) := by decide +kernel
theorem d_Cou_fetch_38 : decode prog_3_method_5_code 38 = .ok (.istore_n 2, 1) := by decide +kernel
theorem d_Cou_fetch_39 : decode prog_3_method_5_code 39 = .ok (.aload_n 0, 1) := by decide +kernel
theorem d_Cou_fetch_40 : decode prog_3_method_5_code 40 = .ok (.getfield 46, 3) := by decide +kernel
theorem d_Cou_fetch_43 : decode prog_3_method_5_code 43 = .ok (.iload_n 2, 1) := by decide +kernel
theorem d_Cou_fetch_44 : decode prog_3_method_5_code 44 = .ok (.if_icmp .lt 26, 3) := by decide +kernel
theorem d_Cou_fetch_47 : decode prog_3_method_5_code 47 = .ok (.aload_n 0, 1) := by decide +kernel
theorem d_Cou_fetch_48 : decode prog_3_method_5_code 48 = .ok (.iconst 0, 1) := by decide +kernel
theorem d_Cou_fetch_49 : decode prog_3_method_5_code 49 = .ok (.putfield 74, 3) := by decide +kernel
theorem d_Cou_fetch_52 : decode prog_3_method_5_code 52 = .ok (.aload_n 0, 1) := by decide +kernel
theorem d_Cou_fetch_53 : decode prog_3_method_5_code 53 = .ok (.iconst 0, 1) := by decide +kernel
theorem d_Cou_fetch_54 : decode prog_3_method_5_code 54 = .ok (.putfield 77, 3) := by decide +kernel
theorem d_Cou_fetch_57 : decode prog_3_method_5_code 57 = .ok (.aload_n 0, 1) := by decide +kernel
theorem d_Cou_fetch_58 : decode prog_3_method_5_code 58 = .ok (.getfield 49, 3) := by decide +kernel
theorem d_Cou_fetch_61 : decode prog_3_method_5_code 61 = .ok (.ifCond .le 7, 3) := by decide +kernel
theorem d_Cou_fetch_68 : decode prog_3_method_5_code 68 = .ok (.iconst 0, 1) := by decide +kernel
theorem d_Cou_fetch_69 : decode prog_3_method_5_code 69 = .ok (.ireturn, 1) := by decide +kernel
theorem gV_Cou_66 : GoodIn tw (wsV "DrawingMachine$Course" 66 "DrawingMachine$Course" y_Cou_source ((Cond.code y_Cou_source prog_3_method_6_code 1 (some (.array .int))) :: tw)) := tw_pre (fun _ h => h) (tw_good (fun _ h => h) k426) (List.forall_mem_cons.mpr ⟨k424, List.forall_mem_cons.mpr ⟨k425, List.forall_mem_cons.mpr ⟨k1006, List.forall_mem_cons.mpr ⟨k23, fun _ h => absurd h List.not_mem_nil⟩⟩⟩⟩)
theorem gV_Cou_70 : GoodIn tw (wsV "DrawingMachine$Course" 70 "DrawingMachine$Course" y_Cou_limit ((Cond.code y_Cou_limit prog_3_method_7_code 1 (some .int)) :: tw)) := tw_pre (fun _ h => h) (tw_good (fun _ h => h) k429) (List.forall_mem_cons.mpr ⟨k427, List.forall_mem_cons.mpr ⟨k428, List.forall_mem_cons.mpr ⟨k1007, List.forall_mem_cons.mpr ⟨k23, fun _ h => absurd h List.not_mem_nil⟩⟩⟩⟩)
set_option maxHeartbeats 4000000 in
set_option maxRecDepth 100000 in
theorem c_Cou_fetch (l : Launch) (D : va_G) (cI cL : ClassId) (B sz : Nat) (q83 : Nat) (q95 : Nat) (z98 : Nat) (z99 : Nat) (z100 : Nat) : Met l y_Cou_fetch ((Cond.code y_Cou_fetch prog_3_method_5_code 3 (some .int)) :: tw) ({ frames := 30, cells := 0, slots := 0, locals := 3000 }) (va_Pc [.ref q95] (wP D cI cL B sz [(q95, .inr (3, [.ref z98, .int 0, .int 0, .int 0, .int 0, .int 0, .int (-1), .int (-1), .int 0, .long 0, .ref q83, .ref z99, .ref z100, .int 0, .int 0]))])) (va_Qi (S := Unit) (fun r u => r = 0) (fun u => wB D cI cL (va_A [(q95, .inr (3, [.ref z98, .int 0, .int 0, .int 0, .int 0, .int 0, .int (-1), .int (-1), .int 0, .long 0, .ref q83, .ref z99, .ref z100, .int 0, .int 0]))] sz) ((fun _ : Unit => [(q95, .inr (3, [.ref z98, .int 0, .int 0, .int 0, .int 0, .int 0, .int 0, .int 0, .int 0, .long 0, .ref q83, .ref z99, .ref z100, .int 0, .int 0]))]) u)) (va_A [(q95, .inr (3, [.ref z98, .int 0, .int 0, .int 0, .int 0, .int 0, .int (-1), .int (-1), .int 0, .long 0, .ref q83, .ref z99, .ref z100, .int 0, .int 0]))] sz)) 0 0 (va_A [(q95, .inr (3, [.ref z98, .int 0, .int 0, .int 0, .int 0, .int 0, .int (-1), .int (-1), .int 0, .long 0, .ref q83, .ref z99, .ref z100, .int 0, .int 0]))] sz) := by
  refine Met.ofW (cc := prog_3_method_5_code) (maxL := 3) (ret := (some .int)) (by decide) rfl ?_
  intro p e s m args below meth c s₁ B0 hml hv
  obtain ⟨rfl, hv⟩ := hv
  have hx := B0.exec
  have hb := B0.bytes
  have hr := B0.returns
  have hts := atoms_spec (ws := (Cond.code y_Cou_fetch prog_3_method_5_code 3 (some .int)) :: tw) B0.pre
  have htw : ∀ w ∈ tw, w.before _ s = true := fun w hw => hts w (List.mem_cons_of_mem _ hw)
  have hown : s.vm.findClass "DrawingMachine$Course" = some m.cls := findClass_of_methodNamed B0.named
  have hlocks := B0.notSynchronized
  obtain ⟨hC, hP, hD, hsz⟩ := wC_init hv
  subst hsz
  generalize hAe : va_A [(q95, .inr (3, [.ref z98, .int 0, .int 0, .int 0, .int 0, .int 0, .int (-1), .int (-1), .int 0, .long 0, .ref q83, .ref z99, .ref z100, .int 0, .int 0]))] s.heap.size = A at hC hD ⊢
  have hS : va_S A s.heap s.heap [] := va_S.rf
  have hl := lv_entry ([.ref q95]) (n := 3) (Nat.le_of_ble_eq_true rfl)
  rw [lg_entry_eq]
  generalize (lg_sl ([.ref q95]) ++ List.replicate (3 - (lg_sl ([.ref q95])).length) Slot.unset).toArray = ls at hl ⊢
  have hl : lv_has ls 3 [(0, .ref q95)] := hl
  refine lv_aload_n hx hb d_Cou_fetch_0 rfl (lv_at hl 0 rfl) ?_
  refine lv_aload_n hx hb d_Cou_fetch_1 rfl (lv_at hl 0 rfl) ?_
  refine va_get (D := D) (ci := 3) (v := .int 0) (C := R_Cou) (T := F_Cou) (N := 15) hx hb htw i_Cou hown hC.1 hP 0 rfl rfl 13 (by decide) (htw _ k418) (fun _ h9 => h9) rfl d_Cou_fetch_2 ?_
  refine va_put (D := D) (ci := 3) (v := .int 0) (ty := .int) (C := R_Cou) (T := F_Cou) (N := 15) hx hb htw i_Cou t_Cou t_Cou_ok n_Cou hown hC.1 hP hD hS 0 rfl rfl 6 (by decide) (htw _ k410) (fun _ h9 => h9) rfl (by decide +kernel) rfl rfl (Nat.le_of_ble_eq_true rfl) d_Cou_fetch_5 (fun H locs hP hD hS => ?_)
  have hP : va_P D classes [(q95, .inr (3, [.ref z98, .int 0, .int 0, .int 0, .int 0, .int 0, .int 0, .int (-1), .int 0, .long 0, .ref q83, .ref z99, .ref z100, .int 0, .int 0]))] H := hP
  have hD : va_D A [(q95, .inr (3, [.ref z98, .int 0, .int 0, .int 0, .int 0, .int 0, .int 0, .int (-1), .int 0, .long 0, .ref q83, .ref z99, .ref z100, .int 0, .int 0]))] := hD
  refine lv_aload_n hx hb d_Cou_fetch_8 rfl (lv_at hl 0 rfl) ?_
  refine lv_aload_n hx hb d_Cou_fetch_9 rfl (lv_at hl 0 rfl) ?_
  refine va_get (D := D) (ci := 3) (v := .int 0) (C := R_Cou) (T := F_Cou) (N := 15) hx hb htw i_Cou hown hC.1 hP 0 rfl rfl 3 (by decide) (htw _ k419) (fun _ h9 => h9) rfl d_Cou_fetch_10 ?_
  refine va_put (D := D) (ci := 3) (v := .int 0) (ty := .int) (C := R_Cou) (T := F_Cou) (N := 15) hx hb htw i_Cou t_Cou t_Cou_ok n_Cou hown hC.1 hP hD hS 0 rfl rfl 7 (by decide) (htw _ k411) (fun _ h9 => h9) rfl (by decide +kernel) rfl rfl (Nat.le_of_ble_eq_true rfl) d_Cou_fetch_13 (fun H locs hP hD hS => ?_)
  have hP : va_P D classes [(q95, .inr (3, [.ref z98, .int 0, .int 0, .int 0, .int 0, .int 0, .int 0, .int 0, .int 0, .long 0, .ref q83, .ref z99, .ref z100, .int 0, .int 0]))] H := hP
  have hD : va_D A [(q95, .inr (3, [.ref z98, .int 0, .int 0, .int 0, .int 0, .int 0, .int 0, .int 0, .int 0, .long 0, .ref q83, .ref z99, .ref z100, .int 0, .int 0]))] := hD
  refine lv_aload_n hx hb d_Cou_fetch_16 rfl (lv_at hl 0 rfl) ?_
  refine va_get (D := D) (ci := 3) (v := .int 0) (C := R_Cou) (T := F_Cou) (N := 15) hx hb htw i_Cou hown hC.1 hP 0 rfl rfl 4 (by decide) (htw _ k420) (fun _ h9 => h9) rfl d_Cou_fetch_17 ?_
  refine lv_sipush (v := 2000) hx hb d_Cou_fetch_20 (by decide) ?_
  refine lv_icmp_lt (tgt := 29) hx hb d_Cou_fetch_23 (by decide) (fun c_263 => ?_) (fun c_263 => absurd c_263 (by decide))
  refine lv_aload_n hx hb d_Cou_fetch_29 rfl (lv_at hl 0 rfl) ?_
  refine wc_r (wr := []) hC hP hD hS [0] [] rfl rfl (by decide) (by decide) (va_runV (As := []) (rest := []) ⟨hx, hb, hml, hown, htw⟩ (c_Cou_source l D cI cL B _ q83 q95 z98 z99 z100) (cwV 0 htw gV_Cou_66 rfl rfl rfl (by decide +kernel) ⟨Nat.le_of_ble_eq_true rfl, Nat.le_of_ble_eq_true rfl⟩) (wC_preV (As := []) hC hP hD hS [0] (by decide) rfl (q0 := 0) rfl rfl) rfl rfl hl.1 rfl (lv_room (Nat.le_of_ble_eq_true rfl)) d_Cou_fetch_30 ⟨Nat.le_of_ble_eq_true rfl, Nat.le_of_ble_eq_true rfl⟩) (fun u264 H locs hw265 hP hD hS => ?_)
  have hP : va_P D classes [(q95, .inr (3, [.ref z98, .int 0, .int 0, .int 0, .int 0, .int 0, .int 0, .int 0, .int 0, .long 0, .ref q83, .ref z99, .ref z100, .int 0, .int 0]))] H := hP
  have hD : va_D A [(q95, .inr (3, [.ref z98, .int 0, .int 0, .int 0, .int 0, .int 0, .int 0, .int 0, .int 0, .long 0, .ref q83, .ref z99, .ref z100, .int 0, .int 0]))] := hD
  refine W.widen (k := 0) (n := 0) (by omega) (by omega) ?_
  refine lv_astore_n (lv' := [(1, .ref z100), (0, .ref q95)]) hx hb d_Cou_fetch_33 rfl hl (by decide) rfl (fun ls hl => ?_)
  refine lv_aload_n hx hb d_Cou_fetch_34 rfl (lv_at hl 1 rfl) ?_
  refine wc_i (wr := []) hC hP hD hS [0] [] rfl rfl (by decide) (by decide) (va_runV (As := []) (rest := []) ⟨hx, hb, hml, hown, htw⟩ (c_Cou_limit l D cI cL B _ q83 q95 z98 z99 z100) (cwV 0 htw gV_Cou_70 rfl rfl rfl (by decide +kernel) ⟨Nat.le_of_ble_eq_true rfl, Nat.le_of_ble_eq_true rfl⟩) (wC_preV (As := []) hC hP hD hS [0] (by decide) rfl (q0 := 0) rfl rfl) rfl rfl hl.1 rfl (lv_room (Nat.le_of_ble_eq_true rfl)) d_Cou_fetch_35 ⟨Nat.le_of_ble_eq_true rfl, Nat.le_of_ble_eq_true rfl⟩) (fun r268 u266 H locs hw267 hP hD hS => ?_)
  obtain rfl : r268 = 0 := hw267
  have hP : va_P D classes [(q95, .inr (3, [.ref z98, .int 0, .int 0, .int 0, .int 0, .int 0, .int 0, .int 0, .int 0, .long 0, .ref q83, .ref z99, .ref z100, .int 0, .int 0]))] H := hP
  have hD : va_D A [(q95, .inr (3, [.ref z98, .int 0, .int 0, .int 0, .int 0, .int 0, .int 0, .int 0, .int 0, .long 0, .ref q83, .ref z99, .ref z100, .int 0, .int 0]))] := hD
  refine W.widen (k := 0) (n := 0) (by omega) (by omega) ?_
  refine lv_istore_n (lv' := [(2, .int 0), (1, .ref z100), (0, .ref q95)]) hx hb d_Cou_fetch_38 rfl hl (by decide) rfl (fun ls hl => ?_)
  refine lv_aload_n hx hb d_Cou_fetch_39 rfl (lv_at hl 2 rfl) ?_
  refine va_get (D := D) (ci := 3) (v := .int 0) (C := R_Cou) (T := F_Cou) (N := 15) hx hb htw i_Cou hown hC.1 hP 0 rfl rfl 13 (by decide) (htw _ k418) (fun _ h9 => h9) rfl d_Cou_fetch_40 ?_
  refine lv_iload_n hx hb d_Cou_fetch_43 rfl (lv_at hl 0 rfl) ?_
  refine lv_icmp_lt (tgt := 70) hx hb d_Cou_fetch_44 (by decide) (fun c_269 => absurd c_269 (by decide)) (fun c_269 => ?_)
  refine lv_aload_n hx hb d_Cou_fetch_47 rfl (lv_at hl 2 rfl) ?_
  refine lv_iconst (v := 0) hx hb d_Cou_fetch_48 (by decide) ?_
  refine va_put (D := D) (ci := 3) (v := .int 0) (ty := .int) (C := R_Cou) (T := F_Cou) (N := 15) hx hb htw i_Cou t_Cou t_Cou_ok n_Cou hown hC.1 hP hD hS 0 rfl rfl 2 (by decide) (htw _ k430) (fun _ h9 => h9) rfl (by decide +kernel) rfl rfl (Nat.le_of_ble_eq_true rfl) d_Cou_fetch_49 (fun H locs hP hD hS => ?_)
  have hP : va_P D classes [(q95, .inr (3, [.ref z98, .int 0, .int 0, .int 0, .int 0, .int 0, .int 0, .int 0, .int 0, .long 0, .ref q83, .ref z99, .ref z100, .int 0, .int 0]))] H := hP
  have hD : va_D A [(q95, .inr (3, [.ref z98, .int 0, .int 0, .int 0, .int 0, .int 0, .int 0, .int 0, .int 0, .long 0, .ref q83, .ref z99, .ref z100, .int 0, .int 0]))] := hD
  refine lv_aload_n hx hb d_Cou_fetch_52 rfl (lv_at hl 2 rfl) ?_
  refine lv_iconst (v := 0) hx hb d_Cou_fetch_53 (by decide) ?_
  refine va_put (D := D) (ci := 3) (v := .int 0) (ty := .int) (C := R_Cou) (T := F_Cou) (N := 15) hx hb htw i_Cou t_Cou t_Cou_ok n_Cou hown hC.1 hP hD hS 0 rfl rfl 14 (by decide) (htw _ k431) (fun _ h9 => h9) rfl (by decide +kernel) rfl rfl (Nat.le_of_ble_eq_true rfl) d_Cou_fetch_54 (fun H locs hP hD hS => ?_)
  have hP : va_P D classes [(q95, .inr (3, [.ref z98, .int 0, .int 0, .int 0, .int 0, .int 0, .int 0, .int 0, .int 0, .long 0, .ref q83, .ref z99, .ref z100, .int 0, .int 0]))] H := hP
  have hD : va_D A [(q95, .inr (3, [.ref z98, .int 0, .int 0, .int 0, .int 0, .int 0, .int 0, .int 0, .int 0, .long 0, .ref q83, .ref z99, .ref z100, .int 0, .int 0]))] := hD
  refine lv_aload_n hx hb d_Cou_fetch_57 rfl (lv_at hl 2 rfl) ?_
  refine va_get (D := D) (ci := 3) (v := .int 0) (C := R_Cou) (T := F_Cou) (N := 15) hx hb htw i_Cou hown hC.1 hP 0 rfl rfl 3 (by decide) (htw _ k419) (fun _ h9 => h9) rfl d_Cou_fetch_58 ?_
  refine lv_if_le (tgt := 68) hx hb d_Cou_fetch_61 (by decide) (fun c_270 => ?_) (fun c_270 => absurd c_270 (by decide))
  refine lv_iconst (v := 0) hx hb d_Cou_fetch_68 (by decide) ?_
  refine W.widen (k := 0) (n := 0) (Nat.le_of_ble_eq_true rfl) (Nat.le_of_ble_eq_true rfl) ?_
  have hP9 := hP.sub (ws' := [(q95, .inr (3, [.ref z98, .int 0, .int 0, .int 0, .int 0, .int 0, .int 0, .int 0, .int 0, .long 0, .ref q83, .ref z99, .ref z100, .int 0, .int 0]))]) [0] rfl
  have hD9 := hD.sub (ws' := [(q95, .inr (3, [.ref z98, .int 0, .int 0, .int 0, .int 0, .int 0, .int 0, .int 0, .int 0, .long 0, .ref q83, .ref z99, .ref z100, .int 0, .int 0]))]) [0] (by decide) rfl
  exact W.iret (v := 0) hx hb hr (fun t ht hW => ⟨⟨0, (), rfl, rfl, by rw [ht]; exact hP9, va_K.moved hW.alike hC.1, hD9⟩, hS.F ht⟩) hS.2.2 d_Cou_fetch_69

theorem d_DM_placesAreThere_0 : decode prog_1_method_17_code 0 = .ok (.aload_n 0, 1) := by decide +kernel
theorem d_DM_placesAreThere_1 : decode prog_1_method_17_code 1 = .ok (.getfield 34, 3) := by decide +kernel
theorem d_DM_placesAreThere_4 : decode prog_1_method_17_code 4 = .ok (.getfield 208, 3) := by decide +kernel
theorem d_DM_placesAreThere_7 : decode prog_1_method_17_code 7 = .ok (.astore_n 1, 1) := by decide +kernel
theorem d_DM_placesAreThere_8 : decode prog_1_method_17_code 8 = .ok (.aload_n 0, 1) := by decide +kernel
theorem d_DM_placesAreThere_9 : decode prog_1_method_17_code 9 = .ok (.getfield 34, 3) := by decide +kernel
theorem d_DM_placesAreThere_12 : decode prog_1_method_17_code 12 = .ok (.getfield 196, 3) := by decide +kernel
theorem d_DM_placesAreThere_15 : decode prog_1_method_17_code 15 = .ok (.tableswitch 203 6 23 #[85, 117, 117, 203, 203, 203, 203, 203, 203, 203, 203, 203, 203, 203, 129, 185, 203, 195], 85) := by decide +kernel
theorem d_DM_placesAreThere_218 : decode prog_1_method_17_code 218 = .ok (.iconst 1, 1) := by decide +kernel
theorem d_DM_placesAreThere_219 : decode prog_1_method_17_code 219 = .ok (.ireturn, 1) := by decide +kernel
set_option maxHeartbeats 4000000 in
set_option maxRecDepth 100000 in
theorem c_places_0 (l : Launch) (D : va_G) (cI cL : ClassId) (B sz : Nat) (h0 : Nat) (q83 : Nat) (q84 : Nat) (q89 : Nat) (q95 : Nat) (z98 : Nat) (z99 : Nat) (z100 : Nat) (q101 : Nat) (q107 : Nat) (q116 : Nat) (q120 : Nat) (q124 : Nat) : Met l y_DM_placesAreThere ((Cond.code y_DM_placesAreThere prog_1_method_17_code 2 (some .boolean)) :: tw) ({ frames := 30, cells := 0, slots := 0, locals := 3000 }) (va_Pc [.ref h0] (wP D cI cL B sz [(h0, .inr (0, [.ref q83, .ref q84, .ref q89, .ref q95, .ref q101, .ref q107, .ref q116, .ref q120, .ref q124])), (q95, .inr (3, [.ref z98, .int 0, .int 0, .int 0, .int 0, .int 0, .int 0, .int 0, .int 0, .long 0, .ref q83, .ref z99, .ref z100, .int 0, .int 0]))])) (va_Qi (S := Unit) (fun r u => r = 1) (fun u => wB D cI cL (va_A [(h0, .inr (0, [.ref q83, .ref q84, .ref q89, .ref q95, .ref q101, .ref q107, .ref q116, .ref q120, .ref q124])), (q95, .inr (3, [.ref z98, .int 0, .int 0, .int 0, .int 0, .int 0, .int 0, .int 0, .int 0, .long 0, .ref q83, .ref z99, .ref z100, .int 0, .int 0]))] sz) ((fun _ : Unit => [(h0, .inr (0, [.ref q83, .ref q84, .ref q89, .ref q95, .ref q101, .ref q107, .ref q116, .ref q120, .ref q124])), (q95, .inr (3, [.ref z98, .int 0, .int 0, .int 0, .int 0, .int 0, .int 0, .int 0, .int 0, .long 0, .ref q83, .ref z99, .ref z100, .int 0, .int 0]))]) u)) (va_A [(h0, .inr (0, [.ref q83, .ref q84, .ref q89, .ref q95, .ref q101, .ref q107, .ref q116, .ref q120, .ref q124])), (q95, .inr (3, [.ref z98, .int 0, .int 0, .int 0, .int 0, .int 0, .int 0, .int 0, .int 0, .long 0, .ref q83, .ref z99, .ref z100, .int 0, .int 0]))] sz)) 0 0 (va_A [(h0, .inr (0, [.ref q83, .ref q84, .ref q89, .ref q95, .ref q101, .ref q107, .ref q116, .ref q120, .ref q124])), (q95, .inr (3, [.ref z98, .int 0, .int 0, .int 0, .int 0, .int 0, .int 0, .int 0, .int 0, .long 0, .ref q83, .ref z99, .ref z100, .int 0, .int 0]))] sz) := by
  refine Met.ofW (cc := prog_1_method_17_code) (maxL := 2) (ret := (some .boolean)) (by decide) rfl ?_
  intro p e s m args below meth c s₁ B0 hml hv
  obtain ⟨rfl, hv⟩ := hv
  have hx := B0.exec
  have hb := B0.bytes
  have hr := B0.returns
  have hts := atoms_spec (ws := (Cond.code y_DM_placesAreThere prog_1_method_17_code 2 (some .boolean)) :: tw) B0.pre
  have htw : ∀ w ∈ tw, w.before _ s = true := fun w hw => hts w (List.mem_cons_of_mem _ hw)
  have hown : s.vm.findClass "DrawingMachine" = some m.cls := findClass_of_methodNamed B0.named
  have hlocks := B0.notSynchronized
  obtain ⟨hC, hP, hD, hsz⟩ := wC_init hv
  subst hsz
  generalize hAe : va_A [(h0, .inr (0, [.ref q83, .ref q84, .ref q89, .ref q95, .ref q101, .ref q107, .ref q116, .ref q120, .ref q124])), (q95, .inr (3, [.ref z98, .int 0, .int 0, .int 0, .int 0, .int 0, .int 0, .int 0, .int 0, .long 0, .ref q83, .ref z99, .ref z100, .int 0, .int 0]))] s.heap.size = A at hC hD ⊢
  have hS : va_S A s.heap s.heap [] := va_S.rf
  have hl := lv_entry ([.ref h0]) (n := 2) (Nat.le_of_ble_eq_true rfl)
  rw [lg_entry_eq]
  generalize (lg_sl ([.ref h0]) ++ List.replicate (2 - (lg_sl ([.ref h0])).length) Slot.unset).toArray = ls at hl ⊢
  have hl : lv_has ls 2 [(0, .ref h0)] := hl
  refine lv_aload_n hx hb d_DM_placesAreThere_0 rfl (lv_at hl 0 rfl) ?_
  refine va_get (D := D) (ci := 0) (v := .ref q95) (C := R_DM) (T := F_DM) (N := 9) hx hb htw i_DM hown hC.1 hP 0 rfl rfl 3 (by decide) (htw _ k259) (fun _ h9 => h9) rfl d_DM_placesAreThere_1 ?_
  refine va_get (D := D) (ci := 3) (v := .ref z98) (C := R_Cou) (T := F_Cou) (N := 15) hx hb htw i_Cou hown hC.1 hP 1 rfl rfl 0 (by decide) (htw _ k367) (fun _ h9 => h9) rfl d_DM_placesAreThere_4 ?_
  refine lv_astore_n (lv' := [(1, .ref z98), (0, .ref h0)]) hx hb d_DM_placesAreThere_7 rfl hl (by decide) rfl (fun ls hl => ?_)
  refine lv_aload_n hx hb d_DM_placesAreThere_8 rfl (lv_at hl 1 rfl) ?_
  refine va_get (D := D) (ci := 0) (v := .ref q95) (C := R_DM) (T := F_DM) (N := 9) hx hb htw i_DM hown hC.1 hP 0 rfl rfl 3 (by decide) (htw _ k259) (fun _ h9 => h9) rfl d_DM_placesAreThere_9 ?_
  refine va_get (D := D) (ci := 3) (v := .int 0) (C := R_Cou) (T := F_Cou) (N := 15) hx hb htw i_Cou hown hC.1 hP 1 rfl rfl 2 (by decide) (htw _ k356) (fun _ h9 => h9) rfl d_DM_placesAreThere_12 ?_
  refine lv_tableOut (tgt := 218) hx hb d_DM_placesAreThere_15 (by decide) (by decide) ?_
  refine lv_iconst (v := 1) hx hb d_DM_placesAreThere_218 (by decide) ?_
  refine W.widen (k := 0) (n := 0) (Nat.le_of_ble_eq_true rfl) (Nat.le_of_ble_eq_true rfl) ?_
  have hP9 := hP.sub (ws' := [(h0, .inr (0, [.ref q83, .ref q84, .ref q89, .ref q95, .ref q101, .ref q107, .ref q116, .ref q120, .ref q124])), (q95, .inr (3, [.ref z98, .int 0, .int 0, .int 0, .int 0, .int 0, .int 0, .int 0, .int 0, .long 0, .ref q83, .ref z99, .ref z100, .int 0, .int 0]))]) [0, 1] rfl
  have hD9 := hD.sub (ws' := [(h0, .inr (0, [.ref q83, .ref q84, .ref q89, .ref q95, .ref q101, .ref q107, .ref q116, .ref q120, .ref q124])), (q95, .inr (3, [.ref z98, .int 0, .int 0, .int 0, .int 0, .int 0, .int 0, .int 0, .int 0, .long 0, .ref q83, .ref z99, .ref z100, .int 0, .int 0]))]) [0, 1] (by decide) rfl
  exact W.zret (v := 1) hx hb hr (by decide) (fun t ht hW => ⟨⟨1, (), rfl, rfl, by rw [ht]; exact hP9, va_K.moved hW.alike hC.1, hD9⟩, hS.F ht⟩) hS.2.2 d_DM_placesAreThere_219

theorem d_DM_stateAllows_0 : decode prog_1_method_18_code 0 = .ok (.aload_n 0, 1) := by decide +kernel
theorem d_DM_stateAllows_1 : decode prog_1_method_18_code 1 = .ok (.getfield 34, 3) := by decide +kernel
theorem d_DM_stateAllows_4 : decode prog_1_method_18_code 4 = .ok (.getfield 208, 3) := by decide +kernel
theorem d_DM_stateAllows_7 : decode prog_1_method_18_code 7 = .ok (.astore_n 1, 1) := by decide +kernel
theorem d_DM_stateAllows_8 : decode prog_1_method_18_code 8 = .ok (.aload_n 0, 1) := by decide +kernel
theorem d_DM_stateAllows_9 : decode prog_1_method_18_code 9 = .ok (.getfield 34, 3) := by decide +kernel
theorem d_DM_stateAllows_12 : decode prog_1_method_18_code 12 = .ok (.getfield 196, 3) := by decide +kernel
theorem d_DM_stateAllows_15 : decode prog_1_method_18_code 15 = .ok (.tableswitch 114 17 23 #[41, 41, 67, 114, 114, 114, 97], 41) := by decide +kernel
theorem d_DM_stateAllows_129 : decode prog_1_method_18_code 129 = .ok (.iconst 1, 1) := by decide +kernel
theorem d_DM_stateAllows_130 : decode prog_1_method_18_code 130 = .ok (.ireturn, 1) := by decide +kernel
set_option maxHeartbeats 4000000 in
set_option maxRecDepth 100000 in
theorem c_state_0 (l : Launch) (D : va_G) (cI cL : ClassId) (B sz : Nat) (h0 : Nat) (q83 : Nat) (q84 : Nat) (q89 : Nat) (q95 : Nat) (z98 : Nat) (z99 : Nat) (z100 : Nat) (q101 : Nat) (q107 : Nat) (q116 : Nat) (q120 : Nat) (q124 : Nat) : Met l y_DM_stateAllows ((Cond.code y_DM_stateAllows prog_1_method_18_code 2 (some .boolean)) :: tw) ({ frames := 30, cells := 0, slots := 0, locals := 3000 }) (va_Pc [.ref h0] (wP D cI cL B sz [(h0, .inr (0, [.ref q83, .ref q84, .ref q89, .ref q95, .ref q101, .ref q107, .ref q116, .ref q120, .ref q124])), (q95, .inr (3, [.ref z98, .int 0, .int 0, .int 0, .int 0, .int 0, .int 0, .int 0, .int 0, .long 0, .ref q83, .ref z99, .ref z100, .int 0, .int 0]))])) (va_Qi (S := Unit) (fun r u => r = 1) (fun u => wB D cI cL (va_A [(h0, .inr (0, [.ref q83, .ref q84, .ref q89, .ref q95, .ref q101, .ref q107, .ref q116, .ref q120, .ref q124])), (q95, .inr (3, [.ref z98, .int 0, .int 0, .int 0, .int 0, .int 0, .int 0, .int 0, .int 0, .long 0, .ref q83, .ref z99, .ref z100, .int 0, .int 0]))] sz) ((fun _ : Unit => [(h0, .inr (0, [.ref q83, .ref q84, .ref q89, .ref q95, .ref q101, .ref q107, .ref q116, .ref q120, .ref q124])), (q95, .inr (3, [.ref z98, .int 0, .int 0, .int 0, .int 0, .int 0, .int 0, .int 0, .int 0, .long 0, .ref q83, .ref z99, .ref z100, .int 0, .int 0]))]) u)) (va_A [(h0, .inr (0, [.ref q83, .ref q84, .ref q89, .ref q95, .ref q101, .ref q107, .ref q116, .ref q120, .ref q124])), (q95, .inr (3, [.ref z98, .int 0, .int 0, .int 0, .int 0, .int 0, .int 0, .int 0, .int 0, .long 0, .ref q83, .ref z99, .ref z100, .int 0, .int 0]))] sz)) 0 0 (va_A [(h0, .inr (0, [.ref q83, .ref q84, .ref q89, .ref q95, .ref q101, .ref q107, .ref q116, .ref q120, .ref q124])), (q95, .inr (3, [.ref z98, .int 0, .int 0, .int 0, .int 0, .int 0, .int 0, .int 0, .int 0, .long 0, .ref q83, .ref z99, .ref z100, .int 0, .int 0]))] sz) := by
  refine Met.ofW (cc := prog_1_method_18_code) (maxL := 2) (ret := (some .boolean)) (by decide) rfl ?_
  intro p e s m args below meth c s₁ B0 hml hv
  obtain ⟨rfl, hv⟩ := hv
  have hx := B0.exec
  have hb := B0.bytes
  have hr := B0.returns
  have hts := atoms_spec (ws := (Cond.code y_DM_stateAllows prog_1_method_18_code 2 (some .boolean)) :: tw) B0.pre
  have htw : ∀ w ∈ tw, w.before _ s = true := fun w hw => hts w (List.mem_cons_of_mem _ hw)
  have hown : s.vm.findClass "DrawingMachine" = some m.cls := findClass_of_methodNamed B0.named
  have hlocks := B0.notSynchronized
  obtain ⟨hC, hP, hD, hsz⟩ := wC_init hv
  subst hsz
  generalize hAe : va_A [(h0, .inr (0, [.ref q83, .ref q84, .ref q89, .ref q95, .ref q101, .ref q107, .ref q116, .ref q120, .ref q124])), (q95, .inr (3, [.ref z98, .int 0, .int 0, .int 0, .int 0, .int 0, .int 0, .int 0, .int 0, .long 0, .ref q83, .ref z99, .ref z100, .int 0, .int 0]))] s.heap.size = A at hC hD ⊢
  have hS : va_S A s.heap s.heap [] := va_S.rf
  have hl := lv_entry ([.ref h0]) (n := 2) (Nat.le_of_ble_eq_true rfl)
  rw [lg_entry_eq]
  generalize (lg_sl ([.ref h0]) ++ List.replicate (2 - (lg_sl ([.ref h0])).length) Slot.unset).toArray = ls at hl ⊢
  have hl : lv_has ls 2 [(0, .ref h0)] := hl
  refine lv_aload_n hx hb d_DM_stateAllows_0 rfl (lv_at hl 0 rfl) ?_
  refine va_get (D := D) (ci := 0) (v := .ref q95) (C := R_DM) (T := F_DM) (N := 9) hx hb htw i_DM hown hC.1 hP 0 rfl rfl 3 (by decide) (htw _ k259) (fun _ h9 => h9) rfl d_DM_stateAllows_1 ?_
  refine va_get (D := D) (ci := 3) (v := .ref z98) (C := R_Cou) (T := F_Cou) (N := 15) hx hb htw i_Cou hown hC.1 hP 1 rfl rfl 0 (by decide) (htw _ k367) (fun _ h9 => h9) rfl d_DM_stateAllows_4 ?_
  refine lv_astore_n (lv' := [(1, .ref z98), (0, .ref h0)]) hx hb d_DM_stateAllows_7 rfl hl (by decide) rfl (fun ls hl => ?_)
  refine lv_aload_n hx hb d_DM_stateAllows_8 rfl (lv_at hl 1 rfl) ?_
  refine va_get (D := D) (ci := 0) (v := .ref q95) (C := R_DM) (T := F_DM) (N := 9) hx hb htw i_DM hown hC.1 hP 0 rfl rfl 3 (by decide) (htw _ k259) (fun _ h9 => h9) rfl d_DM_stateAllows_9 ?_
  refine va_get (D := D) (ci := 3) (v := .int 0) (C := R_Cou) (T := F_Cou) (N := 15) hx hb htw i_Cou hown hC.1 hP 1 rfl rfl 2 (by decide) (htw _ k356) (fun _ h9 => h9) rfl d_DM_stateAllows_12 ?_
  refine lv_tableOut (tgt := 129) hx hb d_DM_stateAllows_15 (by decide) (by decide) ?_
  refine lv_iconst (v := 1) hx hb d_DM_stateAllows_129 (by decide) ?_
  refine W.widen (k := 0) (n := 0) (Nat.le_of_ble_eq_true rfl) (Nat.le_of_ble_eq_true rfl) ?_
  have hP9 := hP.sub (ws' := [(h0, .inr (0, [.ref q83, .ref q84, .ref q89, .ref q95, .ref q101, .ref q107, .ref q116, .ref q120, .ref q124])), (q95, .inr (3, [.ref z98, .int 0, .int 0, .int 0, .int 0, .int 0, .int 0, .int 0, .int 0, .long 0, .ref q83, .ref z99, .ref z100, .int 0, .int 0]))]) [0, 1] rfl
  have hD9 := hD.sub (ws' := [(h0, .inr (0, [.ref q83, .ref q84, .ref q89, .ref q95, .ref q101, .ref q107, .ref q116, .ref q120, .ref q124])), (q95, .inr (3, [.ref z98, .int 0, .int 0, .int 0, .int 0, .int 0, .int 0, .int 0, .int 0, .long 0, .ref q83, .ref z99, .ref z100, .int 0, .int 0]))]) [0, 1] (by decide) rfl
  exact W.zret (v := 1) hx hb hr (by decide) (fun t ht hW => ⟨⟨1, (), rfl, rfl, by rw [ht]; exact hP9, va_K.moved hW.alike hC.1, hD9⟩, hS.F ht⟩) hS.2.2 d_DM_stateAllows_130

theorem d_DM_refusal_0 : decode prog_1_method_16_code 0 = .ok (.aload_n 0, 1) := by decide +kernel
theorem d_DM_refusal_1 : decode prog_1_method_16_code 1 = .ok (.getfield 34, 3) := by decide +kernel
theorem d_DM_refusal_4 : decode prog_1_method_16_code 4 = .ok (.invokevirtual 199, 3) := by decide +kernel
theorem d_DM_refusal_7 : decode prog_1_method_16_code 7 = .ok (.istore_n 1, 1) := by decide +kernel
theorem d_DM_refusal_8 : decode prog_1_method_16_code 8 = .ok (.iload_n 1, 1) := by decide +kernel
theorem d_DM_refusal_9 : decode prog_1_method_16_code 9 = .ok (.ifCond .ne 12, 3) := by decide +kernel
theorem d_DM_refusal_12 : decode prog_1_method_16_code 12 = .ok (.aload_n 0, 1) := by decide +kernel
theorem d_DM_refusal_13 : decode prog_1_method_16_code 13 = .ok (.invokevirtual 202, 3) := by decide +kernel
theorem d_DM_refusal_16 : decode prog_1_method_16_code 16 = .ok (.ifCond .ne 5, 3) := by decide +kernel
theorem d_DM_refusal_21 : decode prog_1_method_16_code 21 = .ok (.iload_n 1, 1) := by decide +kernel
theorem d_DM_refusal_22 : decode prog_1_method_16_code 22 = .ok (.ifCond .ne 13, 3) := by decide +kernel
theorem d_DM_refusal_25 : decode prog_1_method_16_code 25 = .ok (.aload_n 0, 1) := by decide +kernel
theorem d_DM_refusal_26 : decode prog_1_method_16_code 26 = .ok (.invokevirtual 205, 3) := by decide +kernel
theorem d_DM_refusal_29 : decode prog_1_method_16_code 29 = .ok (.ifCond .ne 6, 3) := by decide +kernel
theorem d_DM_refusal_35 : decode prog_1_method_16_code 35 = .ok (.iload_n 1, 1) := by decide +kernel
theorem d_DM_refusal_36 : decode prog_1_method_16_code 36 = .ok (.ireturn, 1) := by decide +kernel
theorem gV_DM_199 : GoodIn tw (wsV "DrawingMachine" 199 "DrawingMachine$Course" y_Cou_fetch ((Cond.code y_Cou_fetch prog_3_method_5_code 3 (some .int)) :: tw)) := tw_pre (fun _ h => h) (tw_good (fun _ h => h) k360) (List.forall_mem_cons.mpr ⟨k357, List.forall_mem_cons.mpr ⟨k358, List.forall_mem_cons.mpr ⟨k359, List.forall_mem_cons.mpr ⟨k23, fun _ h => absurd h List.not_mem_nil⟩⟩⟩⟩)
theorem gV_DM_202 : GoodIn tw (wsV "DrawingMachine" 202 "DrawingMachine" y_DM_placesAreThere ((Cond.code y_DM_placesAreThere prog_1_method_17_code 2 (some .boolean)) :: tw)) := tw_pre (fun _ h => h) (tw_good (fun _ h => h) k363) (List.forall_mem_cons.mpr ⟨k361, List.forall_mem_cons.mpr ⟨k362, List.forall_mem_cons.mpr ⟨k1004, List.forall_mem_cons.mpr ⟨k0, fun _ h => absurd h List.not_mem_nil⟩⟩⟩⟩)
theorem gV_DM_205 : GoodIn tw (wsV "DrawingMachine" 205 "DrawingMachine" y_DM_stateAllows ((Cond.code y_DM_stateAllows prog_1_method_18_code 2 (some .boolean)) :: tw)) := tw_pre (fun _ h => h) (tw_good (fun _ h => h) k366) (List.forall_mem_cons.mpr ⟨k364, List.forall_mem_cons.mpr ⟨k365, List.forall_mem_cons.mpr ⟨k1005, List.forall_mem_cons.mpr ⟨k0, fun _ h => absurd h List.not_mem_nil⟩⟩⟩⟩)
set_option maxHeartbeats 4000000 in
set_option maxRecDepth 100000 in
theorem c_refusal_0 (l : Launch) (D : va_G) (cI cL : ClassId) (B sz : Nat) (h0 : Nat) (q83 : Nat) (q84 : Nat) (q89 : Nat) (q95 : Nat) (z98 : Nat) (z99 : Nat) (z100 : Nat) (q101 : Nat) (q107 : Nat) (q116 : Nat) (q120 : Nat) (q124 : Nat) : Met l y_DM_refusal ((Cond.code y_DM_refusal prog_1_method_16_code 2 (some .int)) :: tw) ({ frames := 40, cells := 0, slots := 0, locals := 4000 }) (va_Pc [.ref h0] (wP D cI cL B sz [(h0, .inr (0, [.ref q83, .ref q84, .ref q89, .ref q95, .ref q101, .ref q107, .ref q116, .ref q120, .ref q124])), (q95, .inr (3, [.ref z98, .int 0, .int 0, .int 0, .int 0, .int 0, .int (-1), .int (-1), .int 0, .long 0, .ref q83, .ref z99, .ref z100, .int 0, .int 0]))])) (va_Qi (S := Unit) (fun r u => r = 0) (fun u => wB D cI cL (va_A [(h0, .inr (0, [.ref q83, .ref q84, .ref q89, .ref q95, .ref q101, .ref q107, .ref q116, .ref q120, .ref q124])), (q95, .inr (3, [.ref z98, .int 0, .int 0, .int 0, .int 0, .int 0, .int (-1), .int (-1), .int 0, .long 0, .ref q83, .ref z99, .ref z100, .int 0, .int 0]))] sz) ((fun _ : Unit => [(h0, .inr (0, [.ref q83, .ref q84, .ref q89, .ref q95, .ref q101, .ref q107, .ref q116, .ref q120, .ref q124])), (q95, .inr (3, [.ref z98, .int 0, .int 0, .int 0, .int 0, .int 0, .int 0, .int 0, .int 0, .long 0, .ref q83, .ref z99, .ref z100, .int 0, .int 0]))]) u)) (va_A [(h0, .inr (0, [.ref q83, .ref q84, .ref q89, .ref q95, .ref q101, .ref q107, .ref q116, .ref q120, .ref q124])), (q95, .inr (3, [.ref z98, .int 0, .int 0, .int 0, .int 0, .int 0, .int (-1), .int (-1), .int 0, .long 0, .ref q83, .ref z99, .ref z100, .int 0, .int 0]))] sz)) 0 0 (va_A [(h0, .inr (0, [.ref q83, .ref q84, .ref q89, .ref q95, .ref q101, .ref q107, .ref q116, .ref q120, .ref q124])), (q95, .inr (3, [.ref z98, .int 0, .int 0, .int 0, .int 0, .int 0, .int (-1), .int (-1), .int 0, .long 0, .ref q83, .ref z99, .ref z100, .int 0, .int 0]))] sz) := by
  refine Met.ofW (cc := prog_1_method_16_code) (maxL := 2) (ret := (some .int)) (by decide) rfl ?_
  intro p e s m args below meth c s₁ B0 hml hv
  obtain ⟨rfl, hv⟩ := hv
  have hx := B0.exec
  have hb := B0.bytes
  have hr := B0.returns
  have hts := atoms_spec (ws := (Cond.code y_DM_refusal prog_1_method_16_code 2 (some .int)) :: tw) B0.pre
  have htw : ∀ w ∈ tw, w.before _ s = true := fun w hw => hts w (List.mem_cons_of_mem _ hw)
  have hown : s.vm.findClass "DrawingMachine" = some m.cls := findClass_of_methodNamed B0.named
  have hlocks := B0.notSynchronized
  obtain ⟨hC, hP, hD, hsz⟩ := wC_init hv
  subst hsz
  generalize hAe : va_A [(h0, .inr (0, [.ref q83, .ref q84, .ref q89, .ref q95, .ref q101, .ref q107, .ref q116, .ref q120, .ref q124])), (q95, .inr (3, [.ref z98, .int 0, .int 0, .int 0, .int 0, .int 0, .int (-1), .int (-1), .int 0, .long 0, .ref q83, .ref z99, .ref z100, .int 0, .int 0]))] s.heap.size = A at hC hD ⊢
  have hS : va_S A s.heap s.heap [] := va_S.rf
  have hl := lv_entry ([.ref h0]) (n := 2) (Nat.le_of_ble_eq_true rfl)
  rw [lg_entry_eq]
  generalize (lg_sl ([.ref h0]) ++ List.replicate (2 - (lg_sl ([.ref h0])).length) Slot.unset).toArray = ls at hl ⊢
  have hl : lv_has ls 2 [(0, .ref h0)] := hl
  refine lv_aload_n hx hb d_DM_refusal_0 rfl (lv_at hl 0 rfl) ?_
  refine va_get (D := D) (ci := 0) (v := .ref q95) (C := R_DM) (T := F_DM) (N := 9) hx hb htw i_DM hown hC.1 hP 0 rfl rfl 3 (by decide) (htw _ k259) (fun _ h9 => h9) rfl d_DM_refusal_1 ?_
  refine wc_i (wr := [(h0, .inr (0, [.ref q83, .ref q84, .ref q89, .ref q95, .ref q101, .ref q107, .ref q116, .ref q120, .ref q124]))]) hC hP hD hS [1] [0] rfl rfl (by decide) (by decide) (va_runV (As := []) (rest := []) ⟨hx, hb, hml, hown, htw⟩ (c_Cou_fetch l D cI cL B _ q83 q95 z98 z99 z100) (cwV 0 htw gV_DM_199 rfl rfl rfl (by decide +kernel) ⟨Nat.le_of_ble_eq_true rfl, Nat.le_of_ble_eq_true rfl⟩) (wC_preV (As := []) hC hP hD hS [1] (by decide) rfl (q0 := 1) rfl rfl) rfl rfl hl.1 rfl (lv_room (Nat.le_of_ble_eq_true rfl)) d_DM_refusal_4 ⟨Nat.le_of_ble_eq_true rfl, Nat.le_of_ble_eq_true rfl⟩) (fun r273 u271 H locs hw272 hP hD hS => ?_)
  obtain rfl : r273 = 0 := hw272
  have hP : va_P D classes [(h0, .inr (0, [.ref q83, .ref q84, .ref q89, .ref q95, .ref q101, .ref q107, .ref q116, .ref q120, .ref q124])), (q95, .inr (3, [.ref z98, .int 0, .int 0, .int 0, .int 0, .int 0, .int 0, .int 0, .int 0, .long 0, .ref q83, .ref z99, .ref z100, .int 0, .int 0]))] H := hP
  have hD : va_D A [(h0, .inr (0, [.ref q83, .ref q84, .ref q89, .ref q95, .ref q101, .ref q107, .ref q116, .ref q120, .ref q124])), (q95, .inr (3, [.ref z98, .int 0, .int 0, .int 0, .int 0, .int 0, .int 0, .int 0, .int 0, .long 0, .ref q83, .ref z99, .ref z100, .int 0, .int 0]))] := hD
  refine W.widen (k := 0) (n := 0) (by omega) (by omega) ?_
  refine lv_istore_n (lv' := [(1, .int 0), (0, .ref h0)]) hx hb d_DM_refusal_7 rfl hl (by decide) rfl (fun ls hl => ?_)
  refine lv_iload_n hx hb d_DM_refusal_8 rfl (lv_at hl 0 rfl) ?_
  refine lv_if_ne (tgt := 21) hx hb d_DM_refusal_9 (by decide) (fun c_274 => absurd c_274 (by decide)) (fun c_274 => ?_)
  refine lv_aload_n hx hb d_DM_refusal_12 rfl (lv_at hl 1 rfl) ?_
  refine wc_i (wr := []) hC hP hD hS [0, 1] [] rfl rfl (by decide) (by decide) (va_runV (As := []) (rest := []) ⟨hx, hb, hml, hown, htw⟩ (c_places_0 l D cI cL B _ h0 q83 q84 q89 q95 z98 z99 z100 q101 q107 q116 q120 q124) (cwV 0 htw gV_DM_202 rfl rfl rfl (by decide +kernel) ⟨Nat.le_of_ble_eq_true rfl, Nat.le_of_ble_eq_true rfl⟩) (wC_preV (As := []) hC hP hD hS [0, 1] (by decide) rfl (q0 := 0) rfl rfl) rfl rfl hl.1 rfl (lv_room (Nat.le_of_ble_eq_true rfl)) d_DM_refusal_13 ⟨Nat.le_of_ble_eq_true rfl, Nat.le_of_ble_eq_true rfl⟩) (fun r277 u275 H locs hw276 hP hD hS => ?_)
  obtain rfl : r277 = 1 := hw276
  have hP : va_P D classes [(h0, .inr (0, [.ref q83, .ref q84, .ref q89, .ref q95, .ref q101, .ref q107, .ref q116, .ref q120, .ref q124])), (q95, .inr (3, [.ref z98, .int 0, .int 0, .int 0, .int 0, .int 0, .int 0, .int 0, .int 0, .long 0, .ref q83, .ref z99, .ref z100, .int 0, .int 0]))] H := hP
  have hD : va_D A [(h0, .inr (0, [.ref q83, .ref q84, .ref q89, .ref q95, .ref q101, .ref q107, .ref q116, .ref q120, .ref q124])), (q95, .inr (3, [.ref z98, .int 0, .int 0, .int 0, .int 0, .int 0, .int 0, .int 0, .int 0, .long 0, .ref q83, .ref z99, .ref z100, .int 0, .int 0]))] := hD
  refine W.widen (k := 0) (n := 0) (by omega) (by omega) ?_
  refine lv_if_ne (tgt := 21) hx hb d_DM_refusal_16 (by decide) (fun c_278 => ?_) (fun c_278 => absurd c_278 (by decide))
  refine lv_iload_n hx hb d_DM_refusal_21 rfl (lv_at hl 0 rfl) ?_
  refine lv_if_ne (tgt := 35) hx hb d_DM_refusal_22 (by decide) (fun c_279 => absurd c_279 (by decide)) (fun c_279 => ?_)
  refine lv_aload_n hx hb d_DM_refusal_25 rfl (lv_at hl 1 rfl) ?_
  refine wc_i (wr := []) hC hP hD hS [0, 1] [] rfl rfl (by decide) (by decide) (va_runV (As := []) (rest := []) ⟨hx, hb, hml, hown, htw⟩ (c_state_0 l D cI cL B _ h0 q83 q84 q89 q95 z98 z99 z100 q101 q107 q116 q120 q124) (cwV 0 htw gV_DM_205 rfl rfl rfl (by decide +kernel) ⟨Nat.le_of_ble_eq_true rfl, Nat.le_of_ble_eq_true rfl⟩) (wC_preV (As := []) hC hP hD hS [0, 1] (by decide) rfl (q0 := 0) rfl rfl) rfl rfl hl.1 rfl (lv_room (Nat.le_of_ble_eq_true rfl)) d_DM_refusal_26 ⟨Nat.le_of_ble_eq_true rfl, Nat.le_of_ble_eq_true rfl⟩) (fun r282 u280 H locs hw281 hP hD hS => ?_)
  obtain rfl : r282 = 1 := hw281
  have hP : va_P D classes [(h0, .inr (0, [.ref q83, .ref q84, .ref q89, .ref q95, .ref q101, .ref q107, .ref q116, .ref q120, .ref q124])), (q95, .inr (3, [.ref z98, .int 0, .int 0, .int 0, .int 0, .int 0, .int 0, .int 0, .int 0, .long 0, .ref q83, .ref z99, .ref z100, .int 0, .int 0]))] H := hP
  have hD : va_D A [(h0, .inr (0, [.ref q83, .ref q84, .ref q89, .ref q95, .ref q101, .ref q107, .ref q116, .ref q120, .ref q124])), (q95, .inr (3, [.ref z98, .int 0, .int 0, .int 0, .int 0, .int 0, .int 0, .int 0, .int 0, .long 0, .ref q83, .ref z99, .ref z100, .int 0, .int 0]))] := hD
  refine W.widen (k := 0) (n := 0) (by omega) (by omega) ?_
  refine lv_if_ne (tgt := 35) hx hb d_DM_refusal_29 (by decide) (fun c_283 => ?_) (fun c_283 => absurd c_283 (by decide))
  refine lv_iload_n hx hb d_DM_refusal_35 rfl (lv_at hl 0 rfl) ?_
  refine W.widen (k := 0) (n := 0) (Nat.le_of_ble_eq_true rfl) (Nat.le_of_ble_eq_true rfl) ?_
  have hP9 := hP.sub (ws' := [(h0, .inr (0, [.ref q83, .ref q84, .ref q89, .ref q95, .ref q101, .ref q107, .ref q116, .ref q120, .ref q124])), (q95, .inr (3, [.ref z98, .int 0, .int 0, .int 0, .int 0, .int 0, .int 0, .int 0, .int 0, .long 0, .ref q83, .ref z99, .ref z100, .int 0, .int 0]))]) [0, 1] rfl
  have hD9 := hD.sub (ws' := [(h0, .inr (0, [.ref q83, .ref q84, .ref q89, .ref q95, .ref q101, .ref q107, .ref q116, .ref q120, .ref q124])), (q95, .inr (3, [.ref z98, .int 0, .int 0, .int 0, .int 0, .int 0, .int 0, .int 0, .int 0, .long 0, .ref q83, .ref z99, .ref z100, .int 0, .int 0]))]) [0, 1] (by decide) rfl
  exact W.iret (v := 0) hx hb hr (fun t ht hW => ⟨⟨0, (), rfl, rfl, by rw [ht]; exact hP9, va_K.moved hW.alike hC.1, hD9⟩, hS.F ht⟩) hS.2.2 d_DM_refusal_36

theorem d_DM_isDraw_0 : decode prog_1_method_15_code 0 = .ok (.aload_n 0, 1) := by decide +kernel
theorem d_DM_isDraw_1 : decode prog_1_method_15_code 1 = .ok (.getfield 34, 3) := by decide +kernel
theorem d_DM_isDraw_4 : decode prog_1_method_15_code 4 = .ok (.getfield 196, 3) := by decide +kernel
theorem d_DM_isDraw_7 : decode prog_1_method_15_code 7 = .ok (.bipush 17, 2) := by decide +kernel
theorem d_DM_isDraw_9 : decode prog_1_method_15_code 9 = .ok (.if_icmp .eq 15, 3) := by decide +kernel
theorem d_DM_isDraw_12 : decode prog_1_method_15_code 12 = .ok (.aload_n 0, 1) := by decide +kernel
theorem d_DM_isDraw_13 : decode prog_1_method_15_code 13 = .ok (.getfield 34, 3) := by decide +kernel
theorem d_DM_isDraw_16 : decode prog_1_method_15_code 16 = .ok (.getfield 196, 3) := by decide +kernel
theorem d_DM_isDraw_19 : decode prog_1_method_15_code 19 = .ok (.bipush 18, 2) := by decide +kernel
theorem d_DM_isDraw_21 : decode prog_1_method_15_code 21 = .ok (.if_icmp .ne 7, 3) := by decide +kernel
theorem d_DM_isDraw_28 : decode prog_1_method_15_code 28 = .ok (.iconst 0, 1) := by decide +kernel
theorem d_DM_isDraw_29 : decode prog_1_method_15_code 29 = .ok (.ireturn, 1) := by decide +kernel
set_option maxHeartbeats 4000000 in
set_option maxRecDepth 100000 in
theorem c_isDraw_0 (l : Launch) (D : va_G) (cI cL : ClassId) (B sz : Nat) (h0 : Nat) (q83 : Nat) (q84 : Nat) (q89 : Nat) (q95 : Nat) (z98 : Nat) (z99 : Nat) (z100 : Nat) (q101 : Nat) (q107 : Nat) (q116 : Nat) (q120 : Nat) (q124 : Nat) : Met l y_DM_isDraw ((Cond.code y_DM_isDraw prog_1_method_15_code 1 (some .boolean)) :: tw) ({ frames := 30, cells := 0, slots := 0, locals := 3000 }) (va_Pc [.ref h0] (wP D cI cL B sz [(h0, .inr (0, [.ref q83, .ref q84, .ref q89, .ref q95, .ref q101, .ref q107, .ref q116, .ref q120, .ref q124])), (q95, .inr (3, [.ref z98, .int 0, .int 0, .int 0, .int 0, .int 0, .int 0, .int 0, .int 0, .long 0, .ref q83, .ref z99, .ref z100, .int 0, .int 0]))])) (va_Qi (S := Unit) (fun r u => r = 0) (fun u => wB D cI cL (va_A [(h0, .inr (0, [.ref q83, .ref q84, .ref q89, .ref q95, .ref q101, .ref q107, .ref q116, .ref q120, .ref q124])), (q95, .inr (3, [.ref z98, .int 0, .int 0, .int 0, .int 0, .int 0, .int 0, .int 0, .int 0, .long 0, .ref q83, .ref z99, .ref z100, .int 0, .int 0]))] sz) ((fun _ : Unit => [(h0, .inr (0, [.ref q83, .ref q84, .ref q89, .ref q95, .ref q101, .ref q107, .ref q116, .ref q120, .ref q124])), (q95, .inr (3, [.ref z98, .int 0, .int 0, .int 0, .int 0, .int 0, .int 0, .int 0, .int 0, .long 0, .ref q83, .ref z99, .ref z100, .int 0, .int 0]))]) u)) (va_A [(h0, .inr (0, [.ref q83, .ref q84, .ref q89, .ref q95, .ref q101, .ref q107, .ref q116, .ref q120, .ref q124])), (q95, .inr (3, [.ref z98, .int 0, .int 0, .int 0, .int 0, .int 0, .int 0, .int 0, .int 0, .long 0, .ref q83, .ref z99, .ref z100, .int 0, .int 0]))] sz)) 0 0 (va_A [(h0, .inr (0, [.ref q83, .ref q84, .ref q89, .ref q95, .ref q101, .ref q107, .ref q116, .ref q120, .ref q124])), (q95, .inr (3, [.ref z98, .int 0, .int 0, .int 0, .int 0, .int 0, .int 0, .int 0, .int 0, .long 0, .ref q83, .ref z99, .ref z100, .int 0, .int 0]))] sz) := by
  refine Met.ofW (cc := prog_1_method_15_code) (maxL := 1) (ret := (some .boolean)) (by decide) rfl ?_
  intro p e s m args below meth c s₁ B0 hml hv
  obtain ⟨rfl, hv⟩ := hv
  have hx := B0.exec
  have hb := B0.bytes
  have hr := B0.returns
  have hts := atoms_spec (ws := (Cond.code y_DM_isDraw prog_1_method_15_code 1 (some .boolean)) :: tw) B0.pre
  have htw : ∀ w ∈ tw, w.before _ s = true := fun w hw => hts w (List.mem_cons_of_mem _ hw)
  have hown : s.vm.findClass "DrawingMachine" = some m.cls := findClass_of_methodNamed B0.named
  have hlocks := B0.notSynchronized
  obtain ⟨hC, hP, hD, hsz⟩ := wC_init hv
  subst hsz
  generalize hAe : va_A [(h0, .inr (0, [.ref q83, .ref q84, .ref q89, .ref q95, .ref q101, .ref q107, .ref q116, .ref q120, .ref q124])), (q95, .inr (3, [.ref z98, .int 0, .int 0, .int 0, .int 0, .int 0, .int 0, .int 0, .int 0, .long 0, .ref q83, .ref z99, .ref z100, .int 0, .int 0]))] s.heap.size = A at hC hD ⊢
  have hS : va_S A s.heap s.heap [] := va_S.rf
  have hl := lv_entry ([.ref h0]) (n := 1) (Nat.le_of_ble_eq_true rfl)
  rw [lg_entry_eq]
  generalize (lg_sl ([.ref h0]) ++ List.replicate (1 - (lg_sl ([.ref h0])).length) Slot.unset).toArray = ls at hl ⊢
  have hl : lv_has ls 1 [(0, .ref h0)] := hl
  refine lv_aload_n hx hb d_DM_isDraw_0 rfl (lv_at hl 0 rfl) ?_
  refine va_get (D := D) (ci := 0) (v := .ref q95) (C := R_DM) (T := F_DM) (N := 9) hx hb htw i_DM hown hC.1 hP 0 rfl rfl 3 (by decide) (htw _ k259) (fun _ h9 => h9) rfl d_DM_isDraw_1 ?_
  refine va_get (D := D) (ci := 3) (v := .int 0) (C := R_Cou) (T := F_Cou) (N := 15) hx hb htw i_Cou hown hC.1 hP 1 rfl rfl 2 (by decide) (htw _ k356) (fun _ h9 => h9) rfl d_DM_isDraw_4 ?_
  refine lv_bipush (v := 17) hx hb d_DM_isDraw_7 (by decide) ?_
  refine lv_icmp_eq (tgt := 24) hx hb d_DM_isDraw_9 (by decide) (fun c_284 => absurd c_284 (by decide)) (fun c_284 => ?_)
  refine lv_aload_n hx hb d_DM_isDraw_12 rfl (lv_at hl 0 rfl) ?_
  refine va_get (D := D) (ci := 0) (v := .ref q95) (C := R_DM) (T := F_DM) (N := 9) hx hb htw i_DM hown hC.1 hP 0 rfl rfl 3 (by decide) (htw _ k259) (fun _ h9 => h9) rfl d_DM_isDraw_13 ?_
  refine va_get (D := D) (ci := 3) (v := .int 0) (C := R_Cou) (T := F_Cou) (N := 15) hx hb htw i_Cou hown hC.1 hP 1 rfl rfl 2 (by decide) (htw _ k356) (fun _ h9 => h9) rfl d_DM_isDraw_16 ?_
  refine lv_bipush (v := 18) hx hb d_DM_isDraw_19 (by decide) ?_
  refine lv_icmp_ne (tgt := 28) hx hb d_DM_isDraw_21 (by decide) (fun c_285 => ?_) (fun c_285 => absurd c_285 (by decide))
  refine lv_iconst (v := 0) hx hb d_DM_isDraw_28 (by decide) ?_
  refine W.widen (k := 0) (n := 0) (Nat.le_of_ble_eq_true rfl) (Nat.le_of_ble_eq_true rfl) ?_
  have hP9 := hP.sub (ws' := [(h0, .inr (0, [.ref q83, .ref q84, .ref q89, .ref q95, .ref q101, .ref q107, .ref q116, .ref q120, .ref q124])), (q95, .inr (3, [.ref z98, .int 0, .int 0, .int 0, .int 0, .int 0, .int 0, .int 0, .int 0, .long 0, .ref q83, .ref z99, .ref z100, .int 0, .int 0]))]) [0, 1] rfl
  have hD9 := hD.sub (ws' := [(h0, .inr (0, [.ref q83, .ref q84, .ref q89, .ref q95, .ref q101, .ref q107, .ref q116, .ref q120, .ref q124])), (q95, .inr (3, [.ref z98, .int 0, .int 0, .int 0, .int 0, .int 0, .int 0, .int 0, .int 0, .long 0, .ref q83, .ref z99, .ref z100, .int 0, .int 0]))]) [0, 1] (by decide) rfl
  exact W.zret (v := 0) hx hb hr (by decide) (fun t ht hW => ⟨⟨0, (), rfl, rfl, by rw [ht]; exact hP9, va_K.moved hW.alike hC.1, hD9⟩, hS.F ht⟩) hS.2.2 d_DM_isDraw_29

theorem d_Told_keep_0 : decode prog_11_method_3_code 0 = .ok (.getstatic 25, 3) := by decide +kernel
theorem d_Told_keep_3 : decode prog_11_method_3_code 3 = .ok (.iload_n 1, 1) := by decide +kernel
theorem d_Told_keep_4 : decode prog_11_method_3_code 4 = .ok (.iaload, 1) := by decide +kernel
theorem d_Told_keep_5 : decode prog_11_method_3_code 5 = .ok (.istore_n 3, 1) := by decide +kernel
theorem d_Told_keep_6 : decode prog_11_method_3_code 6 = .ok (.iload_n 3, 1) := by decide +kernel
theorem d_Told_keep_7 : decode prog_11_method_3_code 7 = .ok (.iconst (-1), 1) := by decide +kernel
theorem d_Told_keep_8 : decode prog_11_method_3_code 8 = .ok (.if_icmp .ne 4, 3) := by decide +kernel
theorem d_Told_keep_11 : decode prog_11_method_3_code 11 = .ok (.return_, 1) := by decide +kernel
set_option maxHeartbeats 4000000 in
set_option maxRecDepth 100000 in
theorem c_keep_0 (l : Launch) (D : va_G) (cI cL : ClassId) (B sz : Nat) (q84 : Nat) (z98 : Nat) : Met l y_Told_keep ((Cond.code y_Told_keep prog_11_method_3_code 6 none) :: tw) ({ frames := 20, cells := 0, slots := 0, locals := 2000 }) (va_Pc [.ref q84, .int 0, .ref z98] (wP D cI cL B sz [])) (va_Qv (S := Unit) (fun _ => True) (fun u => wB D cI cL (va_A [] sz) ((fun _ : Unit => []) u)) (va_A [] sz)) 0 0 (va_A [] sz) := by
  refine Met.ofW (cc := prog_11_method_3_code) (maxL := 6) (ret := none) (by decide) rfl ?_
  intro p e s m args below meth c s₁ B0 hml hv
  obtain ⟨rfl, hv⟩ := hv
  have hx := B0.exec
  have hb := B0.bytes
  have hr := B0.returns
  have hts := atoms_spec (ws := (Cond.code y_Told_keep prog_11_method_3_code 6 none) :: tw) B0.pre
  have htw : ∀ w ∈ tw, w.before _ s = true := fun w hw => hts w (List.mem_cons_of_mem _ hw)
  have hown : s.vm.findClass "DrawingMachine$Told" = some m.cls := findClass_of_methodNamed B0.named
  have hlocks := B0.notSynchronized
  obtain ⟨hC, hP, hD, hsz⟩ := wC_init hv
  subst hsz
  generalize hAe : va_A [] s.heap.size = A at hC hD ⊢
  have hS : va_S A s.heap s.heap [] := va_S.rf
  have hl := lv_entry ([.ref q84, .int 0, .ref z98]) (n := 6) (Nat.le_of_ble_eq_true rfl)
  rw [lg_entry_eq]
  generalize (lg_sl ([.ref q84, .int 0, .ref z98]) ++ List.replicate (6 - (lg_sl ([.ref q84, .int 0, .ref z98])).length) Slot.unset).toArray = ls at hl ⊢
  have hl : lv_has ls 6 [(0, .ref q84), (1, .int 0), (2, .ref z98)] := hl
  obtain ⟨kt, kf, hkZ, hkT, hk0⟩ := hC.2.2.1.2.2.1
  refine va_getsN (C := "DrawingMachine") (n := "KEPT_AT") (d := "[I") (v := .ref kt) hx hb (hkZ.narrow hC.2.2.2.2.1) hS hown (va_Nw.use rfl (hC.2.1.1 _ kn2)) (fun _ h9 => h9) d_Told_keep_0 ?_
  refine lv_iload_n hx hb d_Told_keep_3 rfl (lv_at hl 1 rfl) ?_
  refine wkept0 hx hb hkT hk0 hC hS d_Told_keep_4 ?_
  refine lv_istore_n (lv' := [(3, .int (-1)), (0, .ref q84), (1, .int 0), (2, .ref z98)]) hx hb d_Told_keep_5 rfl hl (by decide) rfl (fun ls hl => ?_)
  refine lv_iload_n hx hb d_Told_keep_6 rfl (lv_at hl 0 rfl) ?_
  refine lv_iconst (v := (-1)) hx hb d_Told_keep_7 (by decide) ?_
  refine lv_icmp_ne (tgt := 12) hx hb d_Told_keep_8 (by decide) (fun c_286 => absurd c_286 (by decide)) (fun c_286 => ?_)
  refine W.widen (k := 0) (n := 0) (Nat.le_of_ble_eq_true rfl) (Nat.le_of_ble_eq_true rfl) ?_
  have hP9 := hP.sub (ws' := []) [] rfl
  have hD9 := hD.sub (ws' := []) [] (by decide) rfl
  exact W.vret hx hb hr (fun t ht hW => ⟨⟨(), rfl, trivial, by rw [ht]; exact hP9, va_K.moved hW.alike hC.1, hD9⟩, hS.F ht⟩) hS.2.2 d_Told_keep_11

theorem d_DM_carryOut_0 : decode prog_1_method_19_code 0 = .ok (.aload_n 0, 1) := by decide +kernel
theorem d_DM_carryOut_1 : decode prog_1_method_19_code 1 = .ok (.getfield 34, 3) := by decide +kernel
theorem d_DM_carryOut_4 : decode prog_1_method_19_code 4 = .ok (.getfield 208, 3) := by decide +kernel
theorem d_DM_carryOut_7 : decode prog_1_method_19_code 7 = .ok (.astore_n 1, 1) := by decide +kernel
theorem d_DM_carryOut_8 : decode prog_1_method_19_code 8 = .ok (.aload_n 0, 1) := by decide +kernel
theorem d_DM_carryOut_9 : decode prog_1_method_19_code 9 = .ok (.getfield 34, 3) := by decide +kernel
theorem d_DM_carryOut_12 : decode prog_1_method_19_code 12 = .ok (.getfield 196, 3) := by decide +kernel
theorem d_DM_carryOut_15 : decode prog_1_method_19_code 15 = .ok (.tableswitch 196 1 21 #[97, 196, 196, 196, 196, 118, 140, 140, 196, 196, 196, 196, 196, 196, 196, 196, 196, 196, 151, 175, 181], 97) := by decide +kernel
theorem d_DM_carryOut_211 : decode prog_1_method_19_code 211 = .ok (.aload_n 0, 1) := by decide +kernel
theorem d_DM_carryOut_212 : decode prog_1_method_19_code 212 = .ok (.getfield 16, 3) := by decide +kernel
theorem d_DM_carryOut_215 : decode prog_1_method_19_code 215 = .ok (.aload_n 0, 1) := by decide +kernel
theorem d_DM_carryOut_216 : decode prog_1_method_19_code 216 = .ok (.getfield 34, 3) := by decide +kernel
theorem d_DM_carryOut_219 : decode prog_1_method_19_code 219 = .ok (.getfield 196, 3) := by decide +kernel
theorem d_DM_carryOut_222 : decode prog_1_method_19_code 222 = .ok (.aload_n 1, 1) := by decide +kernel
theorem d_DM_carryOut_223 : decode prog_1_method_19_code 223 = .ok (.invokevirtual 240, 3) := by decide +kernel
theorem d_DM_carryOut_226 : decode prog_1_method_19_code 226 = .ok (.iconst 0, 1) := by decide +kernel
theorem d_DM_carryOut_227 : decode prog_1_method_19_code 227 = .ok (.ireturn, 1) := by decide +kernel
theorem gV_DM_240 : GoodIn tw (wsV "DrawingMachine" 240 "DrawingMachine$Told" y_Told_keep ((Cond.code y_Told_keep prog_11_method_3_code 6 none) :: tw)) := tw_pre (fun _ h => h) (tw_good (fun _ h => h) k379) (List.forall_mem_cons.mpr ⟨k376, List.forall_mem_cons.mpr ⟨k377, List.forall_mem_cons.mpr ⟨k378, List.forall_mem_cons.mpr ⟨k11, fun _ h => absurd h List.not_mem_nil⟩⟩⟩⟩)
set_option maxHeartbeats 4000000 in
set_option maxRecDepth 100000 in
theorem c_carry_0 (l : Launch) (D : va_G) (cI cL : ClassId) (B sz : Nat) (h0 : Nat) (q83 : Nat) (q84 : Nat) (z87 : Nat) (q89 : Nat) (q95 : Nat) (z98 : Nat) (z99 : Nat) (z100 : Nat) (q101 : Nat) (q107 : Nat) (q116 : Nat) (q120 : Nat) (q124 : Nat) : Met l y_DM_carryOut ((Cond.code y_DM_carryOut prog_1_method_19_code 2 (some .int)) :: tw) ({ frames := 30, cells := 0, slots := 0, locals := 3000 }) (va_Pc [.ref h0] (wP D cI cL B sz [(h0, .inr (0, [.ref q83, .ref q84, .ref q89, .ref q95, .ref q101, .ref q107, .ref q116, .ref q120, .ref q124])), (q95, .inr (3, [.ref z98, .int 0, .int 0, .int 0, .int 0, .int 0, .int 0, .int 0, .int 0, .long 0, .ref q83, .ref z99, .ref z100, .int 0, .int 0])), (q84, .inr (1, [.ref z87]))])) (va_Qi (S := Unit) (fun r u => r = 0) (fun u => wB D cI cL (va_A [(h0, .inr (0, [.ref q83, .ref q84, .ref q89, .ref q95, .ref q101, .ref q107, .ref q116, .ref q120, .ref q124])), (q95, .inr (3, [.ref z98, .int 0, .int 0, .int 0, .int 0, .int 0, .int 0, .int 0, .int 0, .long 0, .ref q83, .ref z99, .ref z100, .int 0, .int 0])), (q84, .inr (1, [.ref z87]))] sz) ((fun _ : Unit => [(h0, .inr (0, [.ref q83, .ref q84, .ref q89, .ref q95, .ref q101, .ref q107, .ref q116, .ref q120, .ref q124])), (q95, .inr (3, [.ref z98, .int 0, .int 0, .int 0, .int 0, .int 0, .int 0, .int 0, .int 0, .long 0, .ref q83, .ref z99, .ref z100, .int 0, .int 0])), (q84, .inr (1, [.ref z87]))]) u)) (va_A [(h0, .inr (0, [.ref q83, .ref q84, .ref q89, .ref q95, .ref q101, .ref q107, .ref q116, .ref q120, .ref q124])), (q95, .inr (3, [.ref z98, .int 0, .int 0, .int 0, .int 0, .int 0, .int 0, .int 0, .int 0, .long 0, .ref q83, .ref z99, .ref z100, .int 0, .int 0])), (q84, .inr (1, [.ref z87]))] sz)) 0 0 (va_A [(h0, .inr (0, [.ref q83, .ref q84, .ref q89, .ref q95, .ref q101, .ref q107, .ref q116, .ref q120, .ref q124])), (q95, .inr (3, [.ref z98, .int 0, .int 0, .int 0, .int 0, .int 0, .int 0, .int 0, .int 0, .long 0, .ref q83, .ref z99, .ref z100, .int 0, .int 0])), (q84, .inr (1, [.ref z87]))] sz) := by
  refine Met.ofW (cc := prog_1_method_19_code) (maxL := 2) (ret := (some .int)) (by decide) rfl ?_
  intro p e s m args below meth c s₁ B0 hml hv
  obtain ⟨rfl, hv⟩ := hv
  have hx := B0.exec
  have hb := B0.bytes
  have hr := B0.returns
  have hts := atoms_spec (ws := (Cond.code y_DM_carryOut prog_1_method_19_code 2 (some .int)) :: tw) B0.pre
  have htw : ∀ w ∈ tw, w.before _ s = true := fun w hw => hts w (List.mem_cons_of_mem _ hw)
  have hown : s.vm.findClass "DrawingMachine" = some m.cls := findClass_of_methodNamed B0.named
  have hlocks := B0.notSynchronized
  obtain ⟨hC, hP, hD, hsz⟩ := wC_init hv
  subst hsz
  generalize hAe : va_A [(h0, .inr (0, [.ref q83, .ref q84, .ref q89, .ref q95, .ref q101, .ref q107, .ref q116, .ref q120, .ref q124])), (q95, .inr (3, [.ref z98, .int 0, .int 0, .int 0, .int 0, .int 0, .int 0, .int 0, .int 0, .long 0, .ref q83, .ref z99, .ref z100, .int 0, .int 0])), (q84, .inr (1, [.ref z87]))] s.heap.size = A at hC hD ⊢
  have hS : va_S A s.heap s.heap [] := va_S.rf
  have hl := lv_entry ([.ref h0]) (n := 2) (Nat.le_of_ble_eq_true rfl)
  rw [lg_entry_eq]
  generalize (lg_sl ([.ref h0]) ++ List.replicate (2 - (lg_sl ([.ref h0])).length) Slot.unset).toArray = ls at hl ⊢
  have hl : lv_has ls 2 [(0, .ref h0)] := hl
  refine lv_aload_n hx hb d_DM_carryOut_0 rfl (lv_at hl 0 rfl) ?_
  refine va_get (D := D) (ci := 0) (v := .ref q95) (C := R_DM) (T := F_DM) (N := 9) hx hb htw i_DM hown hC.1 hP 0 rfl rfl 3 (by decide) (htw _ k259) (fun _ h9 => h9) rfl d_DM_carryOut_1 ?_
  refine va_get (D := D) (ci := 3) (v := .ref z98) (C := R_Cou) (T := F_Cou) (N := 15) hx hb htw i_Cou hown hC.1 hP 1 rfl rfl 0 (by decide) (htw _ k367) (fun _ h9 => h9) rfl d_DM_carryOut_4 ?_
  refine lv_astore_n (lv' := [(1, .ref z98), (0, .ref h0)]) hx hb d_DM_carryOut_7 rfl hl (by decide) rfl (fun ls hl => ?_)
  refine lv_aload_n hx hb d_DM_carryOut_8 rfl (lv_at hl 1 rfl) ?_
  refine va_get (D := D) (ci := 0) (v := .ref q95) (C := R_DM) (T := F_DM) (N := 9) hx hb htw i_DM hown hC.1 hP 0 rfl rfl 3 (by decide) (htw _ k259) (fun _ h9 => h9) rfl d_DM_carryOut_9 ?_
  refine va_get (D := D) (ci := 3) (v := .int 0) (C := R_Cou) (T := F_Cou) (N := 15) hx hb htw i_Cou hown hC.1 hP 1 rfl rfl 2 (by decide) (htw _ k356) (fun _ h9 => h9) rfl d_DM_carryOut_12 ?_
  refine lv_tableOut (tgt := 211) hx hb d_DM_carryOut_15 (by decide) (by decide) ?_
  refine lv_aload_n hx hb d_DM_carryOut_211 rfl (lv_at hl 1 rfl) ?_
  refine va_get (D := D) (ci := 0) (v := .ref q84) (C := R_DM) (T := F_DM) (N := 9) hx hb htw i_DM hown hC.1 hP 0 rfl rfl 1 (by decide) (htw _ k249) (fun _ h9 => h9) rfl d_DM_carryOut_212 ?_
  refine lv_aload_n hx hb d_DM_carryOut_215 rfl (lv_at hl 1 rfl) ?_
  refine va_get (D := D) (ci := 0) (v := .ref q95) (C := R_DM) (T := F_DM) (N := 9) hx hb htw i_DM hown hC.1 hP 0 rfl rfl 3 (by decide) (htw _ k259) (fun _ h9 => h9) rfl d_DM_carryOut_216 ?_
  refine va_get (D := D) (ci := 3) (v := .int 0) (C := R_Cou) (T := F_Cou) (N := 15) hx hb htw i_Cou hown hC.1 hP 1 rfl rfl 2 (by decide) (htw _ k356) (fun _ h9 => h9) rfl d_DM_carryOut_219 ?_
  refine lv_aload_n hx hb d_DM_carryOut_222 rfl (lv_at hl 0 rfl) ?_
  refine wc_v (wr := [(h0, .inr (0, [.ref q83, .ref q84, .ref q89, .ref q95, .ref q101, .ref q107, .ref q116, .ref q120, .ref q124])), (q95, .inr (3, [.ref z98, .int 0, .int 0, .int 0, .int 0, .int 0, .int 0, .int 0, .int 0, .long 0, .ref q83, .ref z99, .ref z100, .int 0, .int 0])), (q84, .inr (1, [.ref z87]))]) hC hP hD hS [] [0, 1, 2] rfl rfl (by decide) (by decide) (va_runV (As := [.int 0, .ref z98]) (rest := []) ⟨hx, hb, hml, hown, htw⟩ (c_keep_0 l D cI cL B _ q84 z98) (cwV 2 htw gV_DM_240 rfl rfl rfl (by decide +kernel) ⟨Nat.le_of_ble_eq_true rfl, Nat.le_of_ble_eq_true rfl⟩) (wC_preV (As := [.int 0, .ref z98]) hC hP hD hS [] (by decide) rfl (q0 := 2) rfl rfl) rfl rfl hl.1 rfl (lv_room (Nat.le_of_ble_eq_true rfl)) d_DM_carryOut_223 ⟨Nat.le_of_ble_eq_true rfl, Nat.le_of_ble_eq_true rfl⟩) (fun u287 H locs hw288 hP hD hS => ?_)
  have hP : va_P D classes [(h0, .inr (0, [.ref q83, .ref q84, .ref q89, .ref q95, .ref q101, .ref q107, .ref q116, .ref q120, .ref q124])), (q95, .inr (3, [.ref z98, .int 0, .int 0, .int 0, .int 0, .int 0, .int 0, .int 0, .int 0, .long 0, .ref q83, .ref z99, .ref z100, .int 0, .int 0])), (q84, .inr (1, [.ref z87]))] H := hP
  have hD : va_D A [(h0, .inr (0, [.ref q83, .ref q84, .ref q89, .ref q95, .ref q101, .ref q107, .ref q116, .ref q120, .ref q124])), (q95, .inr (3, [.ref z98, .int 0, .int 0, .int 0, .int 0, .int 0, .int 0, .int 0, .int 0, .long 0, .ref q83, .ref z99, .ref z100, .int 0, .int 0])), (q84, .inr (1, [.ref z87]))] := hD
  refine W.widen (k := 0) (n := 0) (by omega) (by omega) ?_
  refine lv_iconst (v := 0) hx hb d_DM_carryOut_226 (by decide) ?_
  refine W.widen (k := 0) (n := 0) (Nat.le_of_ble_eq_true rfl) (Nat.le_of_ble_eq_true rfl) ?_
  have hP9 := hP.sub (ws' := [(h0, .inr (0, [.ref q83, .ref q84, .ref q89, .ref q95, .ref q101, .ref q107, .ref q116, .ref q120, .ref q124])), (q95, .inr (3, [.ref z98, .int 0, .int 0, .int 0, .int 0, .int 0, .int 0, .int 0, .int 0, .long 0, .ref q83, .ref z99, .ref z100, .int 0, .int 0])), (q84, .inr (1, [.ref z87]))]) [0, 1, 2] rfl
  have hD9 := hD.sub (ws' := [(h0, .inr (0, [.ref q83, .ref q84, .ref q89, .ref q95, .ref q101, .ref q107, .ref q116, .ref q120, .ref q124])), (q95, .inr (3, [.ref z98, .int 0, .int 0, .int 0, .int 0, .int 0, .int 0, .int 0, .int 0, .long 0, .ref q83, .ref z99, .ref z100, .int 0, .int 0])), (q84, .inr (1, [.ref z87]))]) [0, 1, 2] (by decide) rfl
  exact W.iret (v := 0) hx hb hr (fun t ht hW => ⟨⟨0, (), rfl, rfl, by rw [ht]; exact hP9, va_K.moved hW.alike hC.1, hD9⟩, hS.F ht⟩) hS.2.2 d_DM_carryOut_227

theorem d_Cou_goOn_0 : decode prog_3_method_10_code 0 = .ok (.iload_n 1, 1) := by decide +kernel
theorem d_Cou_goOn_1 : decode prog_3_method_10_code 1 = .ok (.ifCond .eq 14, 3) := by decide +kernel
theorem d_Cou_goOn_15 : decode prog_3_method_10_code 15 = .ok (.aload_n 0, 1) := by decide +kernel
theorem d_Cou_goOn_16 : decode prog_3_method_10_code 16 = .ok (.dup, 1) := by decide +kernel
theorem d_Cou_goOn_17 : decode prog_3_method_10_code 17 = .ok (.getfield 52, 3) := by decide +kernel
theorem d_Cou_goOn_20 : decode prog_3_method_10_code 20 = .ok (.iconst 1, 1) := by decide +kernel
theorem d_Cou_goOn_21 : decode prog_3_method_10_code 21 = .ok (.iadd, 1) := by decide +kernel
theorem d_Cou_goOn_22 : decode prog_3_method_10_code 22 = .ok (.putfield 52, 3) := by decide +kernel
theorem d_Cou_goOn_25 : decode prog_3_method_10_code 25 = .ok (.aload_n 0, 1) := by decide +kernel
theorem d_Cou_goOn_26 : decode prog_3_method_10_code 26 = .ok (.dup, 1) := by decide +kernel
theorem d_Cou_goOn_27 : decode prog_3_method_10_code 27 = .ok (.getfield 46, 3) := by decide +kernel
theorem d_Cou_goOn_30 : decode prog_3_method_10_code 30 = .ok (.aload_n 0, 1) := by decide +kernel
theorem d_Cou_goOn_31 : decode prog_3_method_10_code 31 = .ok (.getfield 77, 3) := by decide +kernel
theorem d_Cou_goOn_34 : decode prog_3_method_10_code 34 = .ok (.iadd, 1) := by decide +kernel
theorem d_Cou_goOn_35 : decode prog_3_method_10_code 35 = .ok (.putfield 46, 3) := by decide +kernel
theorem d_Cou_goOn_38 : decode prog_3_method_10_code 38 = .ok (.aload_n 0, 1) := by decide +kernel
theorem d_Cou_goOn_39 : decode prog_3_method_10_code 39 = .ok (.getfield 74, 3) := by decide +kernel
theorem d_Cou_goOn_42 : decode prog_3_method_10_code 42 = .ok (.bipush 23, 2) := by decide +kernel
theorem d_Cou_goOn_44 : decode prog_3_method_10_code 44 = .ok (.if_icmp .ne 47, 3) := by decide +kernel
theorem d_Cou_goOn_91 : decode prog_3_method_10_code 91 = .ok (.aload_n 0, 1) := by decide +kernel
theorem d_Cou_goOn_92 : decode prog_3_method_10_code 92 = .ok (.getfield 74, 3) := by decide +kernel
theorem d_Cou_goOn_95 : decode prog_3_method_10_code 95 = .ok (.ifCond .ne 36, 3) := by decide +kernel
theorem d_Cou_goOn_98 : decode prog_3_method_10_code 98 = .ok (.aload_n 0, 1) := by decide +kernel
theorem d_Cou_goOn_99 : decode prog_3_method_10_code 99 = .ok (.getfield 49, 3) := by decide +kernel
theorem d_Cou_goOn_102 : decode prog_3_method_10_code 102 = .ok (.ifCond .le 29, 3) := by decide +kernel
theorem d_Cou_goOn_131 : decode prog_3_method_10_code 131 = .ok (.aload_n 0, 1) := by decide +kernel
theorem d_Cou_goOn_132 : decode prog_3_method_10_code 132 = .ok (.getfield 74, 3) := by decide +kernel
theorem d_Cou_goOn_135 : decode prog_3_method_10_code 135 = .ok (.ifCond .ne 8, 3) := by decide +kernel
theorem d_Cou_goOn_138 : decode prog_3_method_10_code 138 = .ok (.aload_n 0, 1) := by decide +kernel
theorem d_Cou_goOn_139 : decode prog_3_method_10_code 139 = .ok (.iconst 1, 1) := by decide +kernel
theorem d_Cou_goOn_140 : decode prog_3_method_10_code 140 = .ok (.putfield 58, 3) := by decide +kernel
theorem d_Cou_goOn_143 : decode prog_3_method_10_code 143 = .ok (.return_, 1) := by decide +kernel
set_option maxHeartbeats 4000000 in
set_option maxRecDepth 100000 in
theorem c_goOn_0 (l : Launch) (D : va_G) (cI cL : ClassId) (B sz : Nat) (q83 : Nat) (q95 : Nat) (z98 : Nat) (z99 : Nat) (z100 : Nat) : Met l y_Cou_goOn ((Cond.code y_Cou_goOn prog_3_method_10_code 2 none) :: tw) ({ frames := 20, cells := 0, slots := 0, locals := 2000 }) (va_Pc [.ref q95, .int 0] (wP D cI cL B sz [(q95, .inr (3, [.ref z98, .int 0, .int 0, .int 0, .int 0, .int 0, .int 0, .int 0, .int 0, .long 0, .ref q83, .ref z99, .ref z100, .int 0, .int 0]))])) (va_Qv (S := Unit) (fun _ => True) (fun u => wB D cI cL (va_A [(q95, .inr (3, [.ref z98, .int 0, .int 0, .int 0, .int 0, .int 0, .int 0, .int 0, .int 0, .long 0, .ref q83, .ref z99, .ref z100, .int 0, .int 0]))] sz) ((fun _ : Unit => [(q95, .inr (3, [.ref z98, .int 0, .int 0, .int 0, .int 1, .int 0, .int 0, .int 0, .int 1, .long 0, .ref q83, .ref z99, .ref z100, .int 0, .int 0]))]) u)) (va_A [(q95, .inr (3, [.ref z98, .int 0, .int 0, .int 0, .int 0, .int 0, .int 0, .int 0, .int 0, .long 0, .ref q83, .ref z99, .ref z100, .int 0, .int 0]))] sz)) 0 0 (va_A [(q95, .inr (3, [.ref z98, .int 0, .int 0, .int 0, .int 0, .int 0, .int 0, .int 0, .int 0, .long 0, .ref q83, .ref z99, .ref z100, .int 0, .int 0]))] sz) := by
  refine Met.ofW (cc := prog_3_method_10_code) (maxL := 2) (ret := none) (by decide) rfl ?_
  intro p e s m args below meth c s₁ B0 hml hv
  obtain ⟨rfl, hv⟩ := hv
  have hx := B0.exec
  have hb := B0.bytes
  have hr := B0.returns
  have hts := atoms_spec (ws := (Cond.code y_Cou_goOn prog_3_method_10_code 2 none) :: tw) B0.pre
  have htw : ∀ w ∈ tw, w.before _ s = true := fun w hw => hts w (List.mem_cons_of_mem _ hw)
  have hown : s.vm.findClass "DrawingMachine$Course" = some m.cls := findClass_of_methodNamed B0.named
  have hlocks := B0.notSynchronized
  obtain ⟨hC, hP, hD, hsz⟩ := wC_init hv
  subst hsz
  generalize hAe : va_A [(q95, .inr (3, [.ref z98, .int 0, .int 0, .int 0, .int 0, .int 0, .int 0, .int 0, .int 0, .long 0, .ref q83, .ref z99, .ref z100, .int 0, .int 0]))] s.heap.size = A at hC hD ⊢
  have hS : va_S A s.heap s.heap [] := va_S.rf
  have hl := lv_entry ([.ref q95, .int 0]) (n := 2) (Nat.le_of_ble_eq_true rfl)
  rw [lg_entry_eq]
  generalize (lg_sl ([.ref q95, .int 0]) ++ List.replicate (2 - (lg_sl ([.ref q95, .int 0])).length) Slot.unset).toArray = ls at hl ⊢
  have hl : lv_has ls 2 [(0, .ref q95), (1, .int 0)] := hl
  refine lv_iload_n hx hb d_Cou_goOn_0 rfl (lv_at hl 1 rfl) ?_
  refine lv_if_eq (tgt := 15) hx hb d_Cou_goOn_1 (by decide) (fun c_289 => ?_) (fun c_289 => absurd c_289 (by decide))
  refine lv_aload_n hx hb d_Cou_goOn_15 rfl (lv_at hl 0 rfl) ?_
  refine lv_dup hx hb d_Cou_goOn_16 rfl ?_
  refine va_get (D := D) (ci := 3) (v := .int 0) (C := R_Cou) (T := F_Cou) (N := 15) hx hb htw i_Cou hown hC.1 hP 0 rfl rfl 4 (by decide) (htw _ k420) (fun _ h9 => h9) rfl d_Cou_goOn_17 ?_
  refine lv_iconst (v := 1) hx hb d_Cou_goOn_20 (by decide) ?_
  refine lv_iadd hx hb d_Cou_goOn_21 ?_
  refine wi_c (v := 1) (by decide) ?_
  refine va_put (D := D) (ci := 3) (v := .int 1) (ty := .int) (C := R_Cou) (T := F_Cou) (N := 15) hx hb htw i_Cou t_Cou t_Cou_ok n_Cou hown hC.1 hP hD hS 0 rfl rfl 4 (by decide) (htw _ k420) (fun _ h9 => h9) rfl (by decide +kernel) rfl rfl (Nat.le_of_ble_eq_true rfl) d_Cou_goOn_22 (fun H locs hP hD hS => ?_)
  have hP : va_P D classes [(q95, .inr (3, [.ref z98, .int 0, .int 0, .int 0, .int 1, .int 0, .int 0, .int 0, .int 0, .long 0, .ref q83, .ref z99, .ref z100, .int 0, .int 0]))] H := hP
  have hD : va_D A [(q95, .inr (3, [.ref z98, .int 0, .int 0, .int 0, .int 1, .int 0, .int 0, .int 0, .int 0, .long 0, .ref q83, .ref z99, .ref z100, .int 0, .int 0]))] := hD
  refine lv_aload_n hx hb d_Cou_goOn_25 rfl (lv_at hl 0 rfl) ?_
  refine lv_dup hx hb d_Cou_goOn_26 rfl ?_
  refine va_get (D := D) (ci := 3) (v := .int 0) (C := R_Cou) (T := F_Cou) (N := 15) hx hb htw i_Cou hown hC.1 hP 0 rfl rfl 13 (by decide) (htw _ k418) (fun _ h9 => h9) rfl d_Cou_goOn_27 ?_
  refine lv_aload_n hx hb d_Cou_goOn_30 rfl (lv_at hl 0 rfl) ?_
  refine va_get (D := D) (ci := 3) (v := .int 0) (C := R_Cou) (T := F_Cou) (N := 15) hx hb htw i_Cou hown hC.1 hP 0 rfl rfl 14 (by decide) (htw _ k431) (fun _ h9 => h9) rfl d_Cou_goOn_31 ?_
  refine lv_iadd hx hb d_Cou_goOn_34 ?_
  refine wi_c (v := 0) (by decide) ?_
  refine va_put (D := D) (ci := 3) (v := .int 0) (ty := .int) (C := R_Cou) (T := F_Cou) (N := 15) hx hb htw i_Cou t_Cou t_Cou_ok n_Cou hown hC.1 hP hD hS 0 rfl rfl 13 (by decide) (htw _ k418) (fun _ h9 => h9) rfl (by decide +kernel) rfl rfl (Nat.le_of_ble_eq_true rfl) d_Cou_goOn_35 (fun H locs hP hD hS => ?_)
  have hP : va_P D classes [(q95, .inr (3, [.ref z98, .int 0, .int 0, .int 0, .int 1, .int 0, .int 0, .int 0, .int 0, .long 0, .ref q83, .ref z99, .ref z100, .int 0, .int 0]))] H := hP
  have hD : va_D A [(q95, .inr (3, [.ref z98, .int 0, .int 0, .int 0, .int 1, .int 0, .int 0, .int 0, .int 0, .long 0, .ref q83, .ref z99, .ref z100, .int 0, .int 0]))] := hD
  refine lv_aload_n hx hb d_Cou_goOn_38 rfl (lv_at hl 0 rfl) ?_
  refine va_get (D := D) (ci := 3) (v := .int 0) (C := R_Cou) (T := F_Cou) (N := 15) hx hb htw i_Cou hown hC.1 hP 0 rfl rfl 2 (by decide) (htw _ k430) (fun _ h9 => h9) rfl d_Cou_goOn_39 ?_
  refine lv_bipush (v := 23) hx hb d_Cou_goOn_42 (by decide) ?_
  refine lv_icmp_ne (tgt := 91) hx hb d_Cou_goOn_44 (by decide) (fun c_290 => ?_) (fun c_290 => absurd c_290 (by decide))
  refine lv_aload_n hx hb d_Cou_goOn_91 rfl (lv_at hl 0 rfl) ?_
  refine va_get (D := D) (ci := 3) (v := .int 0) (C := R_Cou) (T := F_Cou) (N := 15) hx hb htw i_Cou hown hC.1 hP 0 rfl rfl 2 (by decide) (htw _ k430) (fun _ h9 => h9) rfl d_Cou_goOn_92 ?_
  refine lv_if_ne (tgt := 131) hx hb d_Cou_goOn_95 (by decide) (fun c_291 => absurd c_291 (by decide)) (fun c_291 => ?_)
  refine lv_aload_n hx hb d_Cou_goOn_98 rfl (lv_at hl 0 rfl) ?_
  refine va_get (D := D) (ci := 3) (v := .int 0) (C := R_Cou) (T := F_Cou) (N := 15) hx hb htw i_Cou hown hC.1 hP 0 rfl rfl 3 (by decide) (htw _ k419) (fun _ h9 => h9) rfl d_Cou_goOn_99 ?_
  refine lv_if_le (tgt := 131) hx hb d_Cou_goOn_102 (by decide) (fun c_292 => ?_) (fun c_292 => absurd c_292 (by decide))
  refine lv_aload_n hx hb d_Cou_goOn_131 rfl (lv_at hl 0 rfl) ?_
  refine va_get (D := D) (ci := 3) (v := .int 0) (C := R_Cou) (T := F_Cou) (N := 15) hx hb htw i_Cou hown hC.1 hP 0 rfl rfl 2 (by decide) (htw _ k430) (fun _ h9 => h9) rfl d_Cou_goOn_132 ?_
  refine lv_if_ne (tgt := 143) hx hb d_Cou_goOn_135 (by decide) (fun c_293 => absurd c_293 (by decide)) (fun c_293 => ?_)
  refine lv_aload_n hx hb d_Cou_goOn_138 rfl (lv_at hl 0 rfl) ?_
  refine lv_iconst (v := 1) hx hb d_Cou_goOn_139 (by decide) ?_
  refine va_put (D := D) (ci := 3) (v := .int 1) (ty := .boolean) (C := R_Cou) (T := F_Cou) (N := 15) hx hb htw i_Cou t_Cou t_Cou_ok n_Cou hown hC.1 hP hD hS 0 rfl rfl 8 (by decide) (htw _ k422) (fun _ h9 => h9) rfl (by decide +kernel) (by decide) rfl (Nat.le_of_ble_eq_true rfl) d_Cou_goOn_140 (fun H locs hP hD hS => ?_)
  have hP : va_P D classes [(q95, .inr (3, [.ref z98, .int 0, .int 0, .int 0, .int 1, .int 0, .int 0, .int 0, .int 1, .long 0, .ref q83, .ref z99, .ref z100, .int 0, .int 0]))] H := hP
  have hD : va_D A [(q95, .inr (3, [.ref z98, .int 0, .int 0, .int 0, .int 1, .int 0, .int 0, .int 0, .int 1, .long 0, .ref q83, .ref z99, .ref z100, .int 0, .int 0]))] := hD
  refine W.widen (k := 0) (n := 0) (Nat.le_of_ble_eq_true rfl) (Nat.le_of_ble_eq_true rfl) ?_
  have hP9 := hP.sub (ws' := [(q95, .inr (3, [.ref z98, .int 0, .int 0, .int 0, .int 1, .int 0, .int 0, .int 0, .int 1, .long 0, .ref q83, .ref z99, .ref z100, .int 0, .int 0]))]) [0] rfl
  have hD9 := hD.sub (ws' := [(q95, .inr (3, [.ref z98, .int 0, .int 0, .int 0, .int 1, .int 0, .int 0, .int 0, .int 1, .long 0, .ref q83, .ref z99, .ref z100, .int 0, .int 0]))]) [0] (by decide) rfl
  exact W.vret hx hb hr (fun t ht hW => ⟨⟨(), rfl, trivial, by rw [ht]; exact hP9, va_K.moved hW.alike hC.1, hD9⟩, hS.F ht⟩) hS.2.2 d_Cou_goOn_143

theorem d_DM_run_0 : decode prog_1_method_8_code 0 = .ok (.iload_n 1, 1) := by decide +kernel
theorem d_DM_run_1 : decode prog_1_method_8_code 1 = .ok (.ifCond .ge 13, 3) := by decide +kernel
theorem d_DM_run_14 : decode prog_1_method_8_code 14 = .ok (.aload_n 0, 1) := by decide +kernel
theorem d_DM_run_15 : decode prog_1_method_8_code 15 = .ok (.getfield 34, 3) := by decide +kernel
theorem d_DM_run_18 : decode prog_1_method_8_code 18 = .ok (.getfield 119, 3) := by decide +kernel
theorem d_DM_run_21 : decode prog_1_method_8_code 21 = .ok (.ifCond .eq 13, 3) := by decide +kernel
theorem d_DM_run_34 : decode prog_1_method_8_code 34 = .ok (.aload_n 0, 1) := by decide +kernel
theorem d_DM_run_35 : decode prog_1_method_8_code 35 = .ok (.getfield 34, 3) := by decide +kernel
theorem d_DM_run_38 : decode prog_1_method_8_code 38 = .ok (.getfield 128, 3) := by decide +kernel
theorem d_DM_run_41 : decode prog_1_method_8_code 41 = .ok (.istore_n 2, 1) := by decide +kernel
theorem d_DM_run_42 : decode prog_1_method_8_code 42 = .ok (.iconst 0, 1) := by decide +kernel
theorem d_DM_run_43 : decode prog_1_method_8_code 43 = .ok (.istore_n 3, 1) := by decide +kernel
theorem d_DM_run_44 : decode prog_1_method_8_code 44 = .ok (.iload_n 3, 1) := by decide +kernel
theorem d_DM_run_45 : decode prog_1_method_8_code 45 = .ok (.iload_n 1, 1) := by decide +kernel
theorem d_DM_run_46 : decode prog_1_method_8_code 46 = .ok (.if_icmp .ge 74, 3) := by decide +kernel
theorem d_DM_run_120 : decode prog_1_method_8_code 120 = .ok (.aload_n 0, 1) := by decide +kernel
theorem d_DM_run_121 : decode prog_1_method_8_code 121 = .ok (.getfield 34, 3) := by decide +kernel
theorem d_DM_run_124 : decode prog_1_method_8_code 124 = .ok (.getfield 128, 3) := by decide +kernel
theorem d_DM_run_127 : decode prog_1_method_8_code 127 = .ok (.iload_n 2, 1) := by decide +kernel
theorem d_DM_run_128 : decode prog_1_method_8_code 128 = .ok (.isub, 1) := by decide +kernel
theorem d_DM_run_129 : decode prog_1_method_8_code 129 = .ok (.ireturn, 1) := by decide +kernel
set_option maxHeartbeats 4000000 in
set_option maxRecDepth 100000 in
theorem c_run_0 (l : Launch) (D : va_G) (cI cL : ClassId) (B sz : Nat) (h0 : Nat) (q83 : Nat) (q84 : Nat) (q89 : Nat) (q95 : Nat) (z98 : Nat) (z99 : Nat) (z100 : Nat) (q101 : Nat) (q107 : Nat) (q116 : Nat) (q120 : Nat) (q124 : Nat) : Met l y_DM_run ((Cond.code y_DM_run prog_1_method_8_code 5 (some .int)) :: tw) ({ frames := 60, cells := 0, slots := 0, locals := 6000 }) (va_Pc [.ref h0, .int 0] (wP D cI cL B sz [(h0, .inr (0, [.ref q83, .ref q84, .ref q89, .ref q95, .ref q101, .ref q107, .ref q116, .ref q120, .ref q124])), (q95, .inr (3, [.ref z98, .int 0, .int 0, .int 0, .int 0, .int 0, .int (-1), .int (-1), .int 0, .long 0, .ref q83, .ref z99, .ref z100, .int 0, .int 0]))])) (va_Qi (S := Unit) (fun r u => r = 0) (fun u => wB D cI cL (va_A [(h0, .inr (0, [.ref q83, .ref q84, .ref q89, .ref q95, .ref q101, .ref q107, .ref q116, .ref q120, .ref q124])), (q95, .inr (3, [.ref z98, .int 0, .int 0, .int 0, .int 0, .int 0, .int (-1), .int (-1), .int 0, .long 0, .ref q83, .ref z99, .ref z100, .int 0, .int 0]))] sz) ((fun _ : Unit => []) u)) (va_A [(h0, .inr (0, [.ref q83, .ref q84, .ref q89, .ref q95, .ref q101, .ref q107, .ref q116, .ref q120, .ref q124])), (q95, .inr (3, [.ref z98, .int 0, .int 0, .int 0, .int 0, .int 0, .int (-1), .int (-1), .int 0, .long 0, .ref q83, .ref z99, .ref z100, .int 0, .int 0]))] sz)) 0 0 (va_A [(h0, .inr (0, [.ref q83, .ref q84, .ref q89, .ref q95, .ref q101, .ref q107, .ref q116, .ref q120, .ref q124])), (q95, .inr (3, [.ref z98, .int 0, .int 0, .int 0, .int 0, .int 0, .int (-1), .int (-1), .int 0, .long 0, .ref q83, .ref z99, .ref z100, .int 0, .int 0]))] sz) := by
  refine Met.ofW (cc := prog_1_method_8_code) (maxL := 5) (ret := (some .int)) (by decide) rfl ?_
  intro p e s m args below meth c s₁ B0 hml hv
  obtain ⟨rfl, hv⟩ := hv
  have hx := B0.exec
  have hb := B0.bytes
  have hr := B0.returns
  have hts := atoms_spec (ws := (Cond.code y_DM_run prog_1_method_8_code 5 (some .int)) :: tw) B0.pre
  have htw : ∀ w ∈ tw, w.before _ s = true := fun w hw => hts w (List.mem_cons_of_mem _ hw)
  have hown : s.vm.findClass "DrawingMachine" = some m.cls := findClass_of_methodNamed B0.named
  have hlocks := B0.notSynchronized
  obtain ⟨hC, hP, hD, hsz⟩ := wC_init hv
  subst hsz
  generalize hAe : va_A [(h0, .inr (0, [.ref q83, .ref q84, .ref q89, .ref q95, .ref q101, .ref q107, .ref q116, .ref q120, .ref q124])), (q95, .inr (3, [.ref z98, .int 0, .int 0, .int 0, .int 0, .int 0, .int (-1), .int (-1), .int 0, .long 0, .ref q83, .ref z99, .ref z100, .int 0, .int 0]))] s.heap.size = A at hC hD ⊢
  have hS : va_S A s.heap s.heap [] := va_S.rf
  have hl := lv_entry ([.ref h0, .int 0]) (n := 5) (Nat.le_of_ble_eq_true rfl)
  rw [lg_entry_eq]
  generalize (lg_sl ([.ref h0, .int 0]) ++ List.replicate (5 - (lg_sl ([.ref h0, .int 0])).length) Slot.unset).toArray = ls at hl ⊢
  have hl : lv_has ls 5 [(0, .ref h0), (1, .int 0)] := hl
  refine lv_iload_n hx hb d_DM_run_0 rfl (lv_at hl 1 rfl) ?_
  refine lv_if_ge (tgt := 14) hx hb d_DM_run_1 (by decide) (fun c_294 => ?_) (fun c_294 => absurd c_294 (by decide))
  refine lv_aload_n hx hb d_DM_run_14 rfl (lv_at hl 0 rfl) ?_
  refine va_get (D := D) (ci := 0) (v := .ref q95) (C := R_DM) (T := F_DM) (N := 9) hx hb htw i_DM hown hC.1 hP 0 rfl rfl 3 (by decide) (htw _ k259) (fun _ h9 => h9) rfl d_DM_run_15 ?_
  refine va_get (D := D) (ci := 3) (v := .int 0) (C := R_Cou) (T := F_Cou) (N := 15) hx hb htw i_Cou hown hC.1 hP 1 rfl rfl 8 (by decide) (htw _ k315) (fun _ h9 => h9) rfl d_DM_run_18 ?_
  refine lv_if_eq (tgt := 34) hx hb d_DM_run_21 (by decide) (fun c_295 => ?_) (fun c_295 => absurd c_295 (by decide))
  refine lv_aload_n hx hb d_DM_run_34 rfl (lv_at hl 0 rfl) ?_
  refine va_get (D := D) (ci := 0) (v := .ref q95) (C := R_DM) (T := F_DM) (N := 9) hx hb htw i_DM hown hC.1 hP 0 rfl rfl 3 (by decide) (htw _ k259) (fun _ h9 => h9) rfl d_DM_run_35 ?_
  refine va_get (D := D) (ci := 3) (v := .int 0) (C := R_Cou) (T := F_Cou) (N := 15) hx hb htw i_Cou hown hC.1 hP 1 rfl rfl 4 (by decide) (htw _ k318) (fun _ h9 => h9) rfl d_DM_run_38 ?_
  refine lv_istore_n (lv' := [(2, .int 0), (0, .ref h0), (1, .int 0)]) hx hb d_DM_run_41 rfl hl (by decide) rfl (fun ls hl => ?_)
  refine lv_iconst (v := 0) hx hb d_DM_run_42 (by decide) ?_
  refine lv_istore_n (lv' := [(3, .int 0), (2, .int 0), (0, .ref h0), (1, .int 0)]) hx hb d_DM_run_43 rfl hl (by decide) rfl (fun ls hl => ?_)
  refine lv_iload_n hx hb d_DM_run_44 rfl (lv_at hl 0 rfl) ?_
  refine lv_iload_n hx hb d_DM_run_45 rfl (lv_at hl 3 rfl) ?_
  refine lv_icmp_ge (tgt := 120) hx hb d_DM_run_46 (by decide) (fun c_296 => ?_) (fun c_296 => absurd c_296 (by decide))
  refine lv_aload_n hx hb d_DM_run_120 rfl (lv_at hl 2 rfl) ?_
  refine va_get (D := D) (ci := 0) (v := .ref q95) (C := R_DM) (T := F_DM) (N := 9) hx hb htw i_DM hown hC.1 hP 0 rfl rfl 3 (by decide) (htw _ k259) (fun _ h9 => h9) rfl d_DM_run_121 ?_
  refine va_get (D := D) (ci := 3) (v := .int 0) (C := R_Cou) (T := F_Cou) (N := 15) hx hb htw i_Cou hown hC.1 hP 1 rfl rfl 4 (by decide) (htw _ k318) (fun _ h9 => h9) rfl d_DM_run_124 ?_
  refine lv_iload_n hx hb d_DM_run_127 rfl (lv_at hl 1 rfl) ?_
  refine lv_isub hx hb d_DM_run_128 ?_
  refine wi_c (v := 0) (by decide) ?_
  refine W.widen (k := 0) (n := 0) (Nat.le_of_ble_eq_true rfl) (Nat.le_of_ble_eq_true rfl) ?_
  have hP9 := hP.sub (ws' := []) [] rfl
  have hD9 := hD.sub (ws' := []) [] (by decide) rfl
  exact W.iret (v := 0) hx hb hr (fun t ht hW => ⟨⟨0, (), rfl, rfl, by rw [ht]; exact hP9, va_K.moved hW.alike hC.1, hD9⟩, hS.F ht⟩) hS.2.2 d_DM_run_129

theorem d_DM_run_49 : decode prog_1_method_8_code 49 = .ok (.aload_n 0, 1) := by decide +kernel
theorem d_DM_run_50 : decode prog_1_method_8_code 50 = .ok (.getfield 34, 3) := by decide +kernel
theorem d_DM_run_53 : decode prog_1_method_8_code 53 = .ok (.getfield 119, 3) := by decide +kernel
theorem d_DM_run_56 : decode prog_1_method_8_code 56 = .ok (.ifCond .ne 64, 3) := by decide +kernel
theorem d_DM_run_59 : decode prog_1_method_8_code 59 = .ok (.aload_n 0, 1) := by decide +kernel
theorem d_DM_run_60 : decode prog_1_method_8_code 60 = .ok (.invokevirtual 131, 3) := by decide +kernel
theorem d_DM_run_63 : decode prog_1_method_8_code 63 = .ok (.istore 4, 2) := by decide +kernel
theorem d_DM_run_65 : decode prog_1_method_8_code 65 = .ok (.iload 4, 2) := by decide +kernel
theorem d_DM_run_67 : decode prog_1_method_8_code 67 = .ok (.ifCond .ne 38, 3) := by decide +kernel
theorem d_DM_run_70 : decode prog_1_method_8_code 70 = .ok (.aload_n 0, 1) := by decide +kernel
theorem d_DM_run_71 : decode prog_1_method_8_code 71 = .ok (.invokevirtual 135, 3) := by decide +kernel
theorem d_DM_run_74 : decode prog_1_method_8_code 74 = .ok (.ifCond .eq 25, 3) := by decide +kernel
theorem d_DM_run_99 : decode prog_1_method_8_code 99 = .ok (.aload_n 0, 1) := by decide +kernel
theorem d_DM_run_100 : decode prog_1_method_8_code 100 = .ok (.invokevirtual 143, 3) := by decide +kernel
theorem d_DM_run_103 : decode prog_1_method_8_code 103 = .ok (.istore 4, 2) := by decide +kernel
theorem d_DM_run_105 : decode prog_1_method_8_code 105 = .ok (.aload_n 0, 1) := by decide +kernel
theorem d_DM_run_106 : decode prog_1_method_8_code 106 = .ok (.getfield 34, 3) := by decide +kernel
theorem d_DM_run_109 : decode prog_1_method_8_code 109 = .ok (.iload 4, 2) := by decide +kernel
theorem d_DM_run_111 : decode prog_1_method_8_code 111 = .ok (.invokevirtual 146, 3) := by decide +kernel
theorem d_DM_run_114 : decode prog_1_method_8_code 114 = .ok (.iinc 3 1, 3) := by decide +kernel
theorem d_DM_run_117 : decode prog_1_method_8_code 117 = .ok (.goto (-73), 3) := by decide +kernel
theorem gV_DM_131 : GoodIn tw (wsV "DrawingMachine" 131 "DrawingMachine" y_DM_refusal ((Cond.code y_DM_refusal prog_1_method_16_code 2 (some .int)) :: tw)) := tw_pre (fun _ h => h) (tw_good (fun _ h => h) k321) (List.forall_mem_cons.mpr ⟨k319, List.forall_mem_cons.mpr ⟨k320, List.forall_mem_cons.mpr ⟨k1001, List.forall_mem_cons.mpr ⟨k0, fun _ h => absurd h List.not_mem_nil⟩⟩⟩⟩)
theorem gV_DM_135 : GoodIn tw (wsV "DrawingMachine" 135 "DrawingMachine" y_DM_isDraw ((Cond.code y_DM_isDraw prog_1_method_15_code 1 (some .boolean)) :: tw)) := tw_pre (fun _ h => h) (tw_good (fun _ h => h) k324) (List.forall_mem_cons.mpr ⟨k322, List.forall_mem_cons.mpr ⟨k323, List.forall_mem_cons.mpr ⟨k1002, List.forall_mem_cons.mpr ⟨k0, fun _ h => absurd h List.not_mem_nil⟩⟩⟩⟩)
theorem gV_DM_143 : GoodIn tw (wsV "DrawingMachine" 143 "DrawingMachine" y_DM_carryOut ((Cond.code y_DM_carryOut prog_1_method_19_code 2 (some .int)) :: tw)) := tw_pre (fun _ h => h) (tw_good (fun _ h => h) k328) (List.forall_mem_cons.mpr ⟨k326, List.forall_mem_cons.mpr ⟨k327, List.forall_mem_cons.mpr ⟨k1003, List.forall_mem_cons.mpr ⟨k0, fun _ h => absurd h List.not_mem_nil⟩⟩⟩⟩)
theorem gV_DM_146 : GoodIn tw (wsV "DrawingMachine" 146 "DrawingMachine$Course" y_Cou_goOn ((Cond.code y_Cou_goOn prog_3_method_10_code 2 none) :: tw)) := tw_pre (fun _ h => h) (tw_good (fun _ h => h) k332) (List.forall_mem_cons.mpr ⟨k329, List.forall_mem_cons.mpr ⟨k330, List.forall_mem_cons.mpr ⟨k331, List.forall_mem_cons.mpr ⟨k23, fun _ h => absurd h List.not_mem_nil⟩⟩⟩⟩)
set_option maxHeartbeats 4000000 in
set_option maxRecDepth 100000 in
theorem c_run_p (l : Launch) (D : va_G) (cI cL : ClassId) (B sz : Nat) (h0 : Nat) (q83 : Nat) (q84 : Nat) (z87 : Nat) (q89 : Nat) (q95 : Nat) (z98 : Nat) (z99 : Nat) (z100 : Nat) (q101 : Nat) (q107 : Nat) (q116 : Nat) (q120 : Nat) (q124 : Nat) (x : Int32) (hn : 0 < x) : Met l y_DM_run ((Cond.code y_DM_run prog_1_method_8_code 5 (some .int)) :: tw) ({ frames := 60, cells := 0, slots := 0, locals := 6000 }) (va_Pc [.ref h0, .int x] (wP D cI cL B sz [(h0, .inr (0, [.ref q83, .ref q84, .ref q89, .ref q95, .ref q101, .ref q107, .ref q116, .ref q120, .ref q124])), (q95, .inr (3, [.ref z98, .int 0, .int 0, .int 0, .int 0, .int 0, .int (-1), .int (-1), .int 0, .long 0, .ref q83, .ref z99, .ref z100, .int 0, .int 0])), (q84, .inr (1, [.ref z87]))])) (va_Qi (S := Unit) (fun r u => r = 1) (fun u => wB D cI cL (va_A [(h0, .inr (0, [.ref q83, .ref q84, .ref q89, .ref q95, .ref q101, .ref q107, .ref q116, .ref q120, .ref q124])), (q95, .inr (3, [.ref z98, .int 0, .int 0, .int 0, .int 0, .int 0, .int (-1), .int (-1), .int 0, .long 0, .ref q83, .ref z99, .ref z100, .int 0, .int 0])), (q84, .inr (1, [.ref z87]))] sz) ((fun _ : Unit => []) u)) (va_A [(h0, .inr (0, [.ref q83, .ref q84, .ref q89, .ref q95, .ref q101, .ref q107, .ref q116, .ref q120, .ref q124])), (q95, .inr (3, [.ref z98, .int 0, .int 0, .int 0, .int 0, .int 0, .int (-1), .int (-1), .int 0, .long 0, .ref q83, .ref z99, .ref z100, .int 0, .int 0])), (q84, .inr (1, [.ref z87]))] sz)) 0 0 (va_A [(h0, .inr (0, [.ref q83, .ref q84, .ref q89, .ref q95, .ref q101, .ref q107, .ref q116, .ref q120, .ref q124])), (q95, .inr (3, [.ref z98, .int 0, .int 0, .int 0, .int 0, .int 0, .int (-1), .int (-1), .int 0, .long 0, .ref q83, .ref z99, .ref z100, .int 0, .int 0])), (q84, .inr (1, [.ref z87]))] sz) := by
  refine Met.ofW (cc := prog_1_method_8_code) (maxL := 5) (ret := (some .int)) (by decide) rfl ?_
  intro p e s m args below meth c s₁ B0 hml hv
  obtain ⟨rfl, hv⟩ := hv
  have hx := B0.exec
  have hb := B0.bytes
  have hr := B0.returns
  have hts := atoms_spec (ws := (Cond.code y_DM_run prog_1_method_8_code 5 (some .int)) :: tw) B0.pre
  have htw : ∀ w ∈ tw, w.before _ s = true := fun w hw => hts w (List.mem_cons_of_mem _ hw)
  have hown : s.vm.findClass "DrawingMachine" = some m.cls := findClass_of_methodNamed B0.named
  have hlocks := B0.notSynchronized
  obtain ⟨hC, hP, hD, hsz⟩ := wC_init hv
  subst hsz
  generalize hAe : va_A [(h0, .inr (0, [.ref q83, .ref q84, .ref q89, .ref q95, .ref q101, .ref q107, .ref q116, .ref q120, .ref q124])), (q95, .inr (3, [.ref z98, .int 0, .int 0, .int 0, .int 0, .int 0, .int (-1), .int (-1), .int 0, .long 0, .ref q83, .ref z99, .ref z100, .int 0, .int 0])), (q84, .inr (1, [.ref z87]))] s.heap.size = A at hC hD ⊢
  have hS : va_S A s.heap s.heap [] := va_S.rf
  have hl := lv_entry ([.ref h0, .int x]) (n := 5) (Nat.le_of_ble_eq_true rfl)
  rw [lg_entry_eq]
  generalize (lg_sl ([.ref h0, .int x]) ++ List.replicate (5 - (lg_sl ([.ref h0, .int x])).length) Slot.unset).toArray = ls at hl ⊢
  have hl : lv_has ls 5 [(0, .ref h0), (1, .int x)] := hl
  refine lv_iload_n hx hb d_DM_run_0 rfl (lv_at hl 1 rfl) ?_
  refine lv_if_ge (tgt := 14) hx hb d_DM_run_1 (by decide) (fun c_297 => ?_) (fun c_297 => absurd (Int32.le_of_lt hn) c_297)
  refine lv_aload_n hx hb d_DM_run_14 rfl (lv_at hl 0 rfl) ?_
  refine va_get (D := D) (ci := 0) (v := .ref q95) (C := R_DM) (T := F_DM) (N := 9) hx hb htw i_DM hown hC.1 hP 0 rfl rfl 3 (by decide) (htw _ k259) (fun _ h9 => h9) rfl d_DM_run_15 ?_
  refine va_get (D := D) (ci := 3) (v := .int 0) (C := R_Cou) (T := F_Cou) (N := 15) hx hb htw i_Cou hown hC.1 hP 1 rfl rfl 8 (by decide) (htw _ k315) (fun _ h9 => h9) rfl d_DM_run_18 ?_
  refine lv_if_eq (tgt := 34) hx hb d_DM_run_21 (by decide) (fun c_298 => ?_) (fun c_298 => absurd c_298 (by decide))
  refine lv_aload_n hx hb d_DM_run_34 rfl (lv_at hl 0 rfl) ?_
  refine va_get (D := D) (ci := 0) (v := .ref q95) (C := R_DM) (T := F_DM) (N := 9) hx hb htw i_DM hown hC.1 hP 0 rfl rfl 3 (by decide) (htw _ k259) (fun _ h9 => h9) rfl d_DM_run_35 ?_
  refine va_get (D := D) (ci := 3) (v := .int 0) (C := R_Cou) (T := F_Cou) (N := 15) hx hb htw i_Cou hown hC.1 hP 1 rfl rfl 4 (by decide) (htw _ k318) (fun _ h9 => h9) rfl d_DM_run_38 ?_
  refine lv_istore_n (lv' := [(2, .int 0), (0, .ref h0), (1, .int x)]) hx hb d_DM_run_41 rfl hl (by decide) rfl (fun ls hl => ?_)
  refine lv_iconst (v := 0) hx hb d_DM_run_42 (by decide) ?_
  refine lv_istore_n (lv' := [(3, .int 0), (2, .int 0), (0, .ref h0), (1, .int x)]) hx hb d_DM_run_43 rfl hl (by decide) rfl (fun ls hl => ?_)
  refine lv_iload_n hx hb d_DM_run_44 rfl (lv_at hl 0 rfl) ?_
  refine lv_iload_n hx hb d_DM_run_45 rfl (lv_at hl 3 rfl) ?_
  refine lv_icmp_ge (tgt := 120) hx hb d_DM_run_46 (by decide) (fun c_299 => absurd c_299 (Int32.not_le.mpr hn)) (fun c_299 => ?_)
  refine lv_aload_n hx hb d_DM_run_49 rfl (lv_at hl 2 rfl) ?_
  refine va_get (D := D) (ci := 0) (v := .ref q95) (C := R_DM) (T := F_DM) (N := 9) hx hb htw i_DM hown hC.1 hP 0 rfl rfl 3 (by decide) (htw _ k259) (fun _ h9 => h9) rfl d_DM_run_50 ?_
  refine va_get (D := D) (ci := 3) (v := .int 0) (C := R_Cou) (T := F_Cou) (N := 15) hx hb htw i_Cou hown hC.1 hP 1 rfl rfl 8 (by decide) (htw _ k315) (fun _ h9 => h9) rfl d_DM_run_53 ?_
  refine lv_if_ne (tgt := 120) hx hb d_DM_run_56 (by decide) (fun c_300 => absurd c_300 (by decide)) (fun c_300 => ?_)
  refine lv_aload_n hx hb d_DM_run_59 rfl (lv_at hl 2 rfl) ?_
  refine wc_i (wr := [(q84, .inr (1, [.ref z87]))]) hC hP hD hS [0, 1] [2] rfl rfl (by decide) (by decide) (va_runV (As := []) (rest := []) ⟨hx, hb, hml, hown, htw⟩ (c_refusal_0 l D cI cL B _ h0 q83 q84 q89 q95 z98 z99 z100 q101 q107 q116 q120 q124) (cwV 0 htw gV_DM_131 rfl rfl rfl (by decide +kernel) ⟨Nat.le_of_ble_eq_true rfl, Nat.le_of_ble_eq_true rfl⟩) (wC_preV (As := []) hC hP hD hS [0, 1] (by decide) rfl (q0 := 0) rfl rfl) rfl rfl hl.1 rfl (lv_room (Nat.le_of_ble_eq_true rfl)) d_DM_run_60 ⟨Nat.le_of_ble_eq_true rfl, Nat.le_of_ble_eq_true rfl⟩) (fun r303 u301 H locs hw302 hP hD hS => ?_)
  obtain rfl : r303 = 0 := hw302
  have hP : va_P D classes [(q84, .inr (1, [.ref z87])), (h0, .inr (0, [.ref q83, .ref q84, .ref q89, .ref q95, .ref q101, .ref q107, .ref q116, .ref q120, .ref q124])), (q95, .inr (3, [.ref z98, .int 0, .int 0, .int 0, .int 0, .int 0, .int 0, .int 0, .int 0, .long 0, .ref q83, .ref z99, .ref z100, .int 0, .int 0]))] H := hP
  have hD : va_D A [(q84, .inr (1, [.ref z87])), (h0, .inr (0, [.ref q83, .ref q84, .ref q89, .ref q95, .ref q101, .ref q107, .ref q116, .ref q120, .ref q124])), (q95, .inr (3, [.ref z98, .int 0, .int 0, .int 0, .int 0, .int 0, .int 0, .int 0, .int 0, .long 0, .ref q83, .ref z99, .ref z100, .int 0, .int 0]))] := hD
  refine W.widen (k := 0) (n := 0) (by omega) (by omega) ?_
  refine lv_istore (lv' := [(4, .int 0), (3, .int 0), (2, .int 0), (0, .ref h0), (1, .int x)]) hx hb d_DM_run_63 hl (by decide) rfl (fun ls hl => ?_)
  refine lv_iload hx hb d_DM_run_65 (lv_at hl 0 rfl) ?_
  refine lv_if_ne (tgt := 105) hx hb d_DM_run_67 (by decide) (fun c_304 => absurd c_304 (by decide)) (fun c_304 => ?_)
  refine lv_aload_n hx hb d_DM_run_70 rfl (lv_at hl 3 rfl) ?_
  refine wc_i (wr := [(q84, .inr (1, [.ref z87]))]) hC hP hD hS [1, 2] [0] rfl rfl (by decide) (by decide) (va_runV (As := []) (rest := []) ⟨hx, hb, hml, hown, htw⟩ (c_isDraw_0 l D cI cL B _ h0 q83 q84 q89 q95 z98 z99 z100 q101 q107 q116 q120 q124) (cwV 0 htw gV_DM_135 rfl rfl rfl (by decide +kernel) ⟨Nat.le_of_ble_eq_true rfl, Nat.le_of_ble_eq_true rfl⟩) (wC_preV (As := []) hC hP hD hS [1, 2] (by decide) rfl (q0 := 1) rfl rfl) rfl rfl hl.1 rfl (lv_room (Nat.le_of_ble_eq_true rfl)) d_DM_run_71 ⟨Nat.le_of_ble_eq_true rfl, Nat.le_of_ble_eq_true rfl⟩) (fun r307 u305 H locs hw306 hP hD hS => ?_)
  obtain rfl : r307 = 0 := hw306
  have hP : va_P D classes [(q84, .inr (1, [.ref z87])), (h0, .inr (0, [.ref q83, .ref q84, .ref q89, .ref q95, .ref q101, .ref q107, .ref q116, .ref q120, .ref q124])), (q95, .inr (3, [.ref z98, .int 0, .int 0, .int 0, .int 0, .int 0, .int 0, .int 0, .int 0, .long 0, .ref q83, .ref z99, .ref z100, .int 0, .int 0]))] H := hP
  have hD : va_D A [(q84, .inr (1, [.ref z87])), (h0, .inr (0, [.ref q83, .ref q84, .ref q89, .ref q95, .ref q101, .ref q107, .ref q116, .ref q120, .ref q124])), (q95, .inr (3, [.ref z98, .int 0, .int 0, .int 0, .int 0, .int 0, .int 0, .int 0, .int 0, .long 0, .ref q83, .ref z99, .ref z100, .int 0, .int 0]))] := hD
  refine W.widen (k := 0) (n := 0) (by omega) (by omega) ?_
  refine lv_if_eq (tgt := 99) hx hb d_DM_run_74 (by decide) (fun c_308 => ?_) (fun c_308 => absurd c_308 (by decide))
  refine lv_aload_n hx hb d_DM_run_99 rfl (lv_at hl 3 rfl) ?_
  refine wc_i (wr := []) hC hP hD hS [1, 2, 0] [] rfl rfl (by decide) (by decide) (va_runV (As := []) (rest := []) ⟨hx, hb, hml, hown, htw⟩ (c_carry_0 l D cI cL B _ h0 q83 q84 z87 q89 q95 z98 z99 z100 q101 q107 q116 q120 q124) (cwV 0 htw gV_DM_143 rfl rfl rfl (by decide +kernel) ⟨Nat.le_of_ble_eq_true rfl, Nat.le_of_ble_eq_true rfl⟩) (wC_preV (As := []) hC hP hD hS [1, 2, 0] (by decide) rfl (q0 := 1) rfl rfl) rfl rfl hl.1 rfl (lv_room (Nat.le_of_ble_eq_true rfl)) d_DM_run_100 ⟨Nat.le_of_ble_eq_true rfl, Nat.le_of_ble_eq_true rfl⟩) (fun r311 u309 H locs hw310 hP hD hS => ?_)
  obtain rfl : r311 = 0 := hw310
  have hP : va_P D classes [(h0, .inr (0, [.ref q83, .ref q84, .ref q89, .ref q95, .ref q101, .ref q107, .ref q116, .ref q120, .ref q124])), (q95, .inr (3, [.ref z98, .int 0, .int 0, .int 0, .int 0, .int 0, .int 0, .int 0, .int 0, .long 0, .ref q83, .ref z99, .ref z100, .int 0, .int 0])), (q84, .inr (1, [.ref z87]))] H := hP
  have hD : va_D A [(h0, .inr (0, [.ref q83, .ref q84, .ref q89, .ref q95, .ref q101, .ref q107, .ref q116, .ref q120, .ref q124])), (q95, .inr (3, [.ref z98, .int 0, .int 0, .int 0, .int 0, .int 0, .int 0, .int 0, .int 0, .long 0, .ref q83, .ref z99, .ref z100, .int 0, .int 0])), (q84, .inr (1, [.ref z87]))] := hD
  refine W.widen (k := 0) (n := 0) (by omega) (by omega) ?_
  refine lv_istore (lv' := [(4, .int 0), (3, .int 0), (2, .int 0), (0, .ref h0), (1, .int x)]) hx hb d_DM_run_103 hl (by decide) rfl (fun ls hl => ?_)
  refine lv_aload_n hx hb d_DM_run_105 rfl (lv_at hl 3 rfl) ?_
  refine va_get (D := D) (ci := 0) (v := .ref q95) (C := R_DM) (T := F_DM) (N := 9) hx hb htw i_DM hown hC.1 hP 0 rfl rfl 3 (by decide) (htw _ k259) (fun _ h9 => h9) rfl d_DM_run_106 ?_
  refine lv_iload hx hb d_DM_run_109 (lv_at hl 0 rfl) ?_
  refine wc_v (wr := [(h0, .inr (0, [.ref q83, .ref q84, .ref q89, .ref q95, .ref q101, .ref q107, .ref q116, .ref q120, .ref q124])), (q84, .inr (1, [.ref z87]))]) hC hP hD hS [1] [0, 2] rfl rfl (by decide) (by decide) (va_runV (As := [.int 0]) (rest := []) ⟨hx, hb, hml, hown, htw⟩ (c_goOn_0 l D cI cL B _ q83 q95 z98 z99 z100) (cwV 1 htw gV_DM_146 rfl rfl rfl (by decide +kernel) ⟨Nat.le_of_ble_eq_true rfl, Nat.le_of_ble_eq_true rfl⟩) (wC_preV (As := [.int 0]) hC hP hD hS [1] (by decide) rfl (q0 := 1) rfl rfl) rfl rfl hl.1 rfl (lv_room (Nat.le_of_ble_eq_true rfl)) d_DM_run_111 ⟨Nat.le_of_ble_eq_true rfl, Nat.le_of_ble_eq_true rfl⟩) (fun u312 H locs hw313 hP hD hS => ?_)
  have hP : va_P D classes [(h0, .inr (0, [.ref q83, .ref q84, .ref q89, .ref q95, .ref q101, .ref q107, .ref q116, .ref q120, .ref q124])), (q84, .inr (1, [.ref z87])), (q95, .inr (3, [.ref z98, .int 0, .int 0, .int 0, .int 1, .int 0, .int 0, .int 0, .int 1, .long 0, .ref q83, .ref z99, .ref z100, .int 0, .int 0]))] H := hP
  have hD : va_D A [(h0, .inr (0, [.ref q83, .ref q84, .ref q89, .ref q95, .ref q101, .ref q107, .ref q116, .ref q120, .ref q124])), (q84, .inr (1, [.ref z87])), (q95, .inr (3, [.ref z98, .int 0, .int 0, .int 0, .int 1, .int 0, .int 0, .int 0, .int 1, .long 0, .ref q83, .ref z99, .ref z100, .int 0, .int 0]))] := hD
  refine W.widen (k := 0) (n := 0) (by omega) (by omega) ?_
  refine lv_iinc (v := 1) (lv' := [(3, .int 1), (4, .int 0), (2, .int 0), (0, .ref h0), (1, .int x)]) hx hb d_DM_run_114 hl (k := 1) rfl (by decide) (by decide) rfl (fun ls hl => ?_)
  refine lv_goto (tgt := 44) hx hb d_DM_run_117 (by decide) ?_
  refine lv_iload_n hx hb d_DM_run_44 rfl (lv_at hl 0 rfl) ?_
  refine lv_iload_n hx hb d_DM_run_45 rfl (lv_at hl 4 rfl) ?_
  refine lv_icmp_ge (tgt := 120) hx hb d_DM_run_46 (by decide) (fun c_314 => ?_) (fun c_314 => ?_)
  ·
    refine lv_aload_n hx hb d_DM_run_120 rfl (lv_at hl 3 rfl) ?_
    refine va_get (D := D) (ci := 0) (v := .ref q95) (C := R_DM) (T := F_DM) (N := 9) hx hb htw i_DM hown hC.1 hP 0 rfl rfl 3 (by decide) (htw _ k259) (fun _ h9 => h9) rfl d_DM_run_121 ?_
    refine va_get (D := D) (ci := 3) (v := .int 1) (C := R_Cou) (T := F_Cou) (N := 15) hx hb htw i_Cou hown hC.1 hP 2 rfl rfl 4 (by decide) (htw _ k318) (fun _ h9 => h9) rfl d_DM_run_124 ?_
    refine lv_iload_n hx hb d_DM_run_127 rfl (lv_at hl 2 rfl) ?_
    refine lv_isub hx hb d_DM_run_128 ?_
    refine wi_c (v := 1) (by decide) ?_
    refine W.widen (k := 0) (n := 0) (Nat.le_of_ble_eq_true rfl) (Nat.le_of_ble_eq_true rfl) ?_
    have hP9 := hP.sub (ws' := []) [] rfl
    have hD9 := hD.sub (ws' := []) [] (by decide) rfl
    exact W.iret (v := 1) hx hb hr (fun t ht hW => ⟨⟨1, (), rfl, rfl, by rw [ht]; exact hP9, va_K.moved hW.alike hC.1, hD9⟩, hS.F ht⟩) hS.2.2 d_DM_run_129
  ·
    refine lv_aload_n hx hb d_DM_run_49 rfl (lv_at hl 3 rfl) ?_
    refine va_get (D := D) (ci := 0) (v := .ref q95) (C := R_DM) (T := F_DM) (N := 9) hx hb htw i_DM hown hC.1 hP 0 rfl rfl 3 (by decide) (htw _ k259) (fun _ h9 => h9) rfl d_DM_run_50 ?_
    refine va_get (D := D) (ci := 3) (v := .int 1) (C := R_Cou) (T := F_Cou) (N := 15) hx hb htw i_Cou hown hC.1 hP 2 rfl rfl 8 (by decide) (htw _ k315) (fun _ h9 => h9) rfl d_DM_run_53 ?_
    refine lv_if_ne (tgt := 120) hx hb d_DM_run_56 (by decide) (fun c_315 => ?_) (fun c_315 => absurd c_315 (by decide))
    refine lv_aload_n hx hb d_DM_run_120 rfl (lv_at hl 3 rfl) ?_
    refine va_get (D := D) (ci := 0) (v := .ref q95) (C := R_DM) (T := F_DM) (N := 9) hx hb htw i_DM hown hC.1 hP 0 rfl rfl 3 (by decide) (htw _ k259) (fun _ h9 => h9) rfl d_DM_run_121 ?_
    refine va_get (D := D) (ci := 3) (v := .int 1) (C := R_Cou) (T := F_Cou) (N := 15) hx hb htw i_Cou hown hC.1 hP 2 rfl rfl 4 (by decide) (htw _ k318) (fun _ h9 => h9) rfl d_DM_run_124 ?_
    refine lv_iload_n hx hb d_DM_run_127 rfl (lv_at hl 2 rfl) ?_
    refine lv_isub hx hb d_DM_run_128 ?_
    refine wi_c (v := 1) (by decide) ?_
    refine W.widen (k := 0) (n := 0) (Nat.le_of_ble_eq_true rfl) (Nat.le_of_ble_eq_true rfl) ?_
    have hP9 := hP.sub (ws' := []) [] rfl
    have hD9 := hD.sub (ws' := []) [] (by decide) rfl
    exact W.iret (v := 1) hx hb hr (fun t ht hW => ⟨⟨1, (), rfl, rfl, by rw [ht]; exact hP9, va_K.moved hW.alike hC.1, hD9⟩, hS.F ht⟩) hS.2.2 d_DM_run_129

theorem d_DM_run_4 : decode prog_1_method_8_code 4 = .ok (.new 74, 3) := by decide +kernel
theorem d_DM_run_7 : decode prog_1_method_8_code 7 = .ok (.dup, 1) := by decide +kernel
theorem d_DM_run_8 : decode prog_1_method_8_code 8 = .ok (.ldc 117, 2) := by decide +kernel
theorem d_DM_run_10 : decode prog_1_method_8_code 10 = .ok (.invokespecial 78, 3) := by decide +kernel
theorem d_DM_run_13 : decode prog_1_method_8_code 13 = .ok (.athrow, 1) := by decide +kernel
set_option maxHeartbeats 4000000 in
set_option maxRecDepth 100000 in
theorem c_run_b (l : Launch) (hfl : l.stackTraces = false) (D : va_G) (cI cL : ClassId) (B sz : Nat) (h0 : Nat) (x : Int32) (hn : x < 0) : tq_Met l y_DM_run ((Cond.code y_DM_run prog_1_method_8_code 5 (some .int)) :: tw) ({ frames := 60, cells := 1, slots := 6, locals := 6000 }) (va_Pc [.ref h0, .int x] (wP D cI cL B sz [])) (tq_Q "java/lang/IllegalArgumentException") 1 6 := by
  refine tq_ofW (cc := prog_1_method_8_code) (maxL := 5) (ret := (some .int)) (by decide) rfl ?_
  intro p e s m args below meth c s₁ B0 hml hv
  obtain ⟨rfl, hv⟩ := hv
  have hx := B0.exec
  have hb := B0.bytes
  have hr := B0.returns
  have hts := atoms_spec (ws := (Cond.code y_DM_run prog_1_method_8_code 5 (some .int)) :: tw) B0.pre
  have htw : ∀ w ∈ tw, w.before _ s = true := fun w hw => hts w (List.mem_cons_of_mem _ hw)
  have hown : s.vm.findClass "DrawingMachine" = some m.cls := findClass_of_methodNamed B0.named
  have hlocks := B0.notSynchronized
  obtain ⟨hC, hP, hD, hsz⟩ := wC_init hv
  subst hsz
  generalize hAe : va_A [] s.heap.size = A at hC hD
  have hS : va_S A s.heap s.heap [] := va_S.rf
  have hl := lv_entry ([.ref h0, .int x]) (n := 5) (Nat.le_of_ble_eq_true rfl)
  rw [lg_entry_eq]
  generalize (lg_sl ([.ref h0, .int x]) ++ List.replicate (5 - (lg_sl ([.ref h0, .int x])).length) Slot.unset).toArray = ls at hl ⊢
  have hl : lv_has ls 5 [(0, .ref h0), (1, .int x)] := hl
  have htr : e.platform.stackTraces = false := by rw [(Stand.of_body B0).admits.platform]; exact hfl
  have hout : c.exceptionTable.isEmpty = true := BodyLoose.noHandlers B0 (hts _ List.mem_cons_self)
  have hA0 : ∀ q, A q → s.heap.size ≤ q := by
    intro q h
    rw [← hAe] at h
    rcases h with ⟨k, e, h⟩ | h
    · simp at h
    · exact h
  refine lv_iload_n hx hb d_DM_run_0 rfl (lv_at hl 1 rfl) ?_
  refine lv_if_ge (tgt := 14) hx hb d_DM_run_1 (by decide) (fun c_316 => absurd c_316 (Int32.not_le.mpr hn)) (fun c_316 => ?_)
  exact tq_throwH hx hb htr hown (by decide) (by decide) (own_use htw hC own_IA) (htw _ k282) (htw _ k885) (hC.2.2.1.2.2.2.1 (117, "below 0") (by decide)) (hml.trans hl.1.symm) hout hlocks d_DM_run_4 d_DM_run_7 d_DM_run_8 d_DM_run_10 d_DM_run_13 (Nat.le_of_ble_eq_true rfl) (Nat.le_of_ble_eq_true rfl) (Nat.le_of_ble_eq_true rfl) (Nat.le_of_ble_eq_true rfl) hS.1 (fun q hq => hA0 _ (hS.2.2 q hq))
