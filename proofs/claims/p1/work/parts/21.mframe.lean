theorem d_Cmd_frame_0 : decode prog_15_method_14_code 0 = .ok (.aload_n 0, 1) := by decide +kernel
theorem d_Cmd_frame_1 : decode prog_15_method_14_code 1 = .ok (.iload_n 1, 1) := by decide +kernel
theorem d_Cmd_frame_2 : decode prog_15_method_14_code 2 = .ok (.i2l, 1) := by decide +kernel
theorem d_Cmd_frame_3 : decode prog_15_method_14_code 3 = .ok (.lconst 1, 1) := by decide +kernel
theorem d_Cmd_frame_4 : decode prog_15_method_14_code 4 = .ok (.ldc2_w 75, 3) := by decide +kernel
theorem d_Cmd_frame_7 : decode prog_15_method_14_code 7 = .ok (.invokestatic 51, 3) := by decide +kernel
theorem d_Cmd_frame_10 : decode prog_15_method_14_code 10 = .ok (.ifCond .eq 15, 3) := by decide +kernel
theorem d_Cmd_frame_13 : decode prog_15_method_14_code 13 = .ok (.iload_n 2, 1) := by decide +kernel
theorem d_Cmd_frame_14 : decode prog_15_method_14_code 14 = .ok (.i2l, 1) := by decide +kernel
theorem d_Cmd_frame_15 : decode prog_15_method_14_code 15 = .ok (.lconst 1, 1) := by decide +kernel
theorem d_Cmd_frame_16 : decode prog_15_method_14_code 16 = .ok (.ldc2_w 75, 3) := by decide +kernel
theorem d_Cmd_frame_19 : decode prog_15_method_14_code 19 = .ok (.invokestatic 51, 3) := by decide +kernel
theorem d_Cmd_frame_22 : decode prog_15_method_14_code 22 = .ok (.ifCond .ne 7, 3) := by decide +kernel
theorem d_Cmd_frame_29 : decode prog_15_method_14_code 29 = .ok (.iconst 0, 1) := by decide +kernel
theorem d_Cmd_frame_30 : decode prog_15_method_14_code 30 = .ok (.invokevirtual 120, 3) := by decide +kernel
theorem d_Cmd_frame_33 : decode prog_15_method_14_code 33 = .ok (.ifCond .eq 4, 3) := by decide +kernel
theorem d_Cmd_frame_37 : decode prog_15_method_14_code 37 = .ok (.aload_n 0, 1) := by decide +kernel
theorem d_Cmd_frame_38 : decode prog_15_method_14_code 38 = .ok (.iload_n 1, 1) := by decide +kernel
theorem d_Cmd_frame_39 : decode prog_15_method_14_code 39 = .ok (.putfield 13, 3) := by decide +kernel
theorem d_Cmd_frame_42 : decode prog_15_method_14_code 42 = .ok (.aload_n 0, 1) := by decide +kernel
theorem d_Cmd_frame_43 : decode prog_15_method_14_code 43 = .ok (.iload_n 2, 1) := by decide +kernel
theorem d_Cmd_frame_44 : decode prog_15_method_14_code 44 = .ok (.putfield 17, 3) := by decide +kernel
theorem d_Cmd_frame_47 : decode prog_15_method_14_code 47 = .ok (.return_, 1) := by decide +kernel
set_option maxHeartbeats 4000000 in
set_option maxRecDepth 100000 in
theorem c_Cframe (l : Launch) (D : va_G) (cI cL : ClassId) (B sz : Nat) (q562 : Nat) (z565 : Nat) (z566 : Nat) (z567 : Nat) (z568 : Nat) (z569 : Nat) (w : Int32) (h : Int32) (h1 : ¬ w < 1) (h2 : ¬ 128 < w) (h3 : ¬ h < 1) (h4 : ¬ 128 < h) : Met l y_Cmd_frame ((Cond.code y_Cmd_frame prog_15_method_14_code 3 none) :: tw) ({ frames := 30, cells := 0, slots := 0, locals := 3000 }) (va_Pc [.ref q562, .int w, .int h] (wP D cI cL B sz [(q562, .inr (13, [.int 0, .ref z565, .int 1, .int 1, .ref z566, .int 0, .int 0, .int 0, .ref z567, .int 0, .int 0, .int (-1), .int (-1), .int 0, .int (-1), .int 0, .ref z568, .ref z569]))])) (va_Qv (S := Unit) (fun _ => True) (fun u => wB D cI cL (va_A [(q562, .inr (13, [.int 0, .ref z565, .int 1, .int 1, .ref z566, .int 0, .int 0, .int 0, .ref z567, .int 0, .int 0, .int (-1), .int (-1), .int 0, .int (-1), .int 0, .ref z568, .ref z569]))] sz) ((fun _ : Unit => []) u)) (va_A [(q562, .inr (13, [.int 0, .ref z565, .int 1, .int 1, .ref z566, .int 0, .int 0, .int 0, .ref z567, .int 0, .int 0, .int (-1), .int (-1), .int 0, .int (-1), .int 0, .ref z568, .ref z569]))] sz)) 0 0 (va_A [(q562, .inr (13, [.int 0, .ref z565, .int 1, .int 1, .ref z566, .int 0, .int 0, .int 0, .ref z567, .int 0, .int 0, .int (-1), .int (-1), .int 0, .int (-1), .int 0, .ref z568, .ref z569]))] sz) := by
  refine Met.ofW (cc := prog_15_method_14_code) (maxL := 3) (ret := none) (by decide) rfl ?_
  intro p e s m args below meth c s₁ B0 hml hv
  obtain ⟨rfl, hv⟩ := hv
  have hx := B0.exec
  have hb := B0.bytes
  have hr := B0.returns
  have hts := atoms_spec (ws := (Cond.code y_Cmd_frame prog_15_method_14_code 3 none) :: tw) B0.pre
  have htw : ∀ w ∈ tw, w.before _ s = true := fun w hw => hts w (List.mem_cons_of_mem _ hw)
  have hown : s.vm.findClass "DrawingMachineModel$DrawCommandsModel" = some m.cls := findClass_of_methodNamed B0.named
  have hlocks := B0.notSynchronized
  obtain ⟨hC, hP, hD, hsz⟩ := wC_init hv
  subst hsz
  generalize hAe : va_A [(q562, .inr (13, [.int 0, .ref z565, .int 1, .int 1, .ref z566, .int 0, .int 0, .int 0, .ref z567, .int 0, .int 0, .int (-1), .int (-1), .int 0, .int (-1), .int 0, .ref z568, .ref z569]))] s.heap.size = A at hC hD ⊢
  have hS : va_S A s.heap s.heap [] := va_S.rf
  have hl := lv_entry ([.ref q562, .int w, .int h]) (n := 3) (Nat.le_of_ble_eq_true rfl)
  rw [lg_entry_eq]
  generalize (lg_sl ([.ref q562, .int w, .int h]) ++ List.replicate (3 - (lg_sl ([.ref q562, .int w, .int h])).length) Slot.unset).toArray = ls at hl ⊢
  have hl : lv_has ls 3 [(0, .ref q562), (1, .int w), (2, .int h)] := hl
  refine lv_aload_n hx hb d_Cmd_frame_0 rfl (lv_at hl 0 rfl) ?_
  refine lv_iload_n hx hb d_Cmd_frame_1 rfl (lv_at hl 1 rfl) ?_
  refine lv_i2l (v := w.toInt64) hx hb d_Cmd_frame_2 rfl ?_
  refine lv_lconst (v := 1) hx hb d_Cmd_frame_3 (by decide) ?_
  refine lv_ldc2 (v := 128) hx hb hown (htw _ k717) d_Cmd_frame_4 ?_
  refine wc_i (wr := [(q562, .inr (13, [.int 0, .ref z565, .int 1, .int 1, .ref z566, .int 0, .int 0, .int 0, .ref z567, .int 0, .int 0, .int (-1), .int (-1), .int 0, .int (-1), .int 0, .ref z568, .ref z569]))]) hC hP hD hS [] [0] rfl rfl (by decide) (by decide) (va_runS (As := [.long w.toInt64, .long 1, .long 128]) (rest := [.ref q562]) ⟨hx, hb, hml, hown, htw⟩ (c_Cmd_in_t l D cI cL B _ w.toInt64 1 128 (good_lo 1 (by decide) h1) (good_hi 128 (by decide) h2)) (va_cwS 3 htw gS_Cmd_51 rfl rfl rfl (by decide +kernel) ⟨Nat.le_of_ble_eq_true rfl, Nat.le_of_ble_eq_true rfl⟩) (wC_pre hC hP hD hS [] (by decide) rfl) rfl rfl hl.1 rfl (lv_room (Nat.le_of_ble_eq_true rfl)) d_Cmd_frame_7 ⟨Nat.le_of_ble_eq_true rfl, Nat.le_of_ble_eq_true rfl⟩) (fun r1242 u1240 H locs hw1241 hP hD hS => ?_)
  obtain rfl : r1242 = 1 := hw1241
  have hP : va_P D classes [(q562, .inr (13, [.int 0, .ref z565, .int 1, .int 1, .ref z566, .int 0, .int 0, .int 0, .ref z567, .int 0, .int 0, .int (-1), .int (-1), .int 0, .int (-1), .int 0, .ref z568, .ref z569]))] H := hP
  have hD : va_D A [(q562, .inr (13, [.int 0, .ref z565, .int 1, .int 1, .ref z566, .int 0, .int 0, .int 0, .ref z567, .int 0, .int 0, .int (-1), .int (-1), .int 0, .int (-1), .int 0, .ref z568, .ref z569]))] := hD
  refine W.widen (k := 0) (n := 0) (by omega) (by omega) ?_
  refine lv_if_eq (tgt := 25) hx hb d_Cmd_frame_10 (by decide) (fun c_1243 => absurd c_1243 (by decide)) (fun c_1243 => ?_)
  refine lv_iload_n hx hb d_Cmd_frame_13 rfl (lv_at hl 2 rfl) ?_
  refine lv_i2l (v := h.toInt64) hx hb d_Cmd_frame_14 rfl ?_
  refine lv_lconst (v := 1) hx hb d_Cmd_frame_15 (by decide) ?_
  refine lv_ldc2 (v := 128) hx hb hown (htw _ k717) d_Cmd_frame_16 ?_
  refine wc_i (wr := [(q562, .inr (13, [.int 0, .ref z565, .int 1, .int 1, .ref z566, .int 0, .int 0, .int 0, .ref z567, .int 0, .int 0, .int (-1), .int (-1), .int 0, .int (-1), .int 0, .ref z568, .ref z569]))]) hC hP hD hS [] [0] rfl rfl (by decide) (by decide) (va_runS (As := [.long h.toInt64, .long 1, .long 128]) (rest := [.ref q562]) ⟨hx, hb, hml, hown, htw⟩ (c_Cmd_in_t l D cI cL B _ h.toInt64 1 128 (good_lo 1 (by decide) h3) (good_hi 128 (by decide) h4)) (va_cwS 3 htw gS_Cmd_51 rfl rfl rfl (by decide +kernel) ⟨Nat.le_of_ble_eq_true rfl, Nat.le_of_ble_eq_true rfl⟩) (wC_pre hC hP hD hS [] (by decide) rfl) rfl rfl hl.1 rfl (lv_room (Nat.le_of_ble_eq_true rfl)) d_Cmd_frame_19 ⟨Nat.le_of_ble_eq_true rfl, Nat.le_of_ble_eq_true rfl⟩) (fun r1246 u1244 H locs hw1245 hP hD hS => ?_)
  obtain rfl : r1246 = 1 := hw1245
  have hP : va_P D classes [(q562, .inr (13, [.int 0, .ref z565, .int 1, .int 1, .ref z566, .int 0, .int 0, .int 0, .ref z567, .int 0, .int 0, .int (-1), .int (-1), .int 0, .int (-1), .int 0, .ref z568, .ref z569]))] H := hP
  have hD : va_D A [(q562, .inr (13, [.int 0, .ref z565, .int 1, .int 1, .ref z566, .int 0, .int 0, .int 0, .ref z567, .int 0, .int 0, .int (-1), .int (-1), .int 0, .int (-1), .int 0, .ref z568, .ref z569]))] := hD
  refine W.widen (k := 0) (n := 0) (by omega) (by omega) ?_
  refine lv_if_ne (tgt := 29) hx hb d_Cmd_frame_22 (by decide) (fun c_1247 => ?_) (fun c_1247 => absurd c_1247 (by decide))
  refine lv_iconst (v := 0) hx hb d_Cmd_frame_29 (by decide) ?_
  refine wc_i (wr := []) hC hP hD hS [0] [] rfl rfl (by decide) (by decide) (va_runV (As := [.int 0]) (rest := []) ⟨hx, hb, hml, hown, htw⟩ (c_Cref_0 l D cI cL B _ q562 z565 z566 z567 z568 z569 0) (cwV 1 htw gV_Cmd_120 rfl rfl rfl (by decide +kernel) ⟨Nat.le_of_ble_eq_true rfl, Nat.le_of_ble_eq_true rfl⟩) (wC_preV (As := [.int 0]) hC hP hD hS [0] (by decide) rfl (q0 := 0) rfl rfl) rfl rfl hl.1 rfl (lv_room (Nat.le_of_ble_eq_true rfl)) d_Cmd_frame_30 ⟨Nat.le_of_ble_eq_true rfl, Nat.le_of_ble_eq_true rfl⟩) (fun r1250 u1248 H locs hw1249 hP hD hS => ?_)
  obtain rfl : r1250 = 0 := hw1249
  have hP : va_P D classes [(q562, .inr (13, [.int 0, .ref z565, .int 1, .int 1, .ref z566, .int 0, .int 0, .int 0, .ref z567, .int 0, .int 0, .int (-1), .int (-1), .int 0, .int (-1), .int 0, .ref z568, .ref z569]))] H := hP
  have hD : va_D A [(q562, .inr (13, [.int 0, .ref z565, .int 1, .int 1, .ref z566, .int 0, .int 0, .int 0, .ref z567, .int 0, .int 0, .int (-1), .int (-1), .int 0, .int (-1), .int 0, .ref z568, .ref z569]))] := hD
  refine W.widen (k := 0) (n := 0) (by omega) (by omega) ?_
  refine lv_if_eq (tgt := 37) hx hb d_Cmd_frame_33 (by decide) (fun c_1251 => ?_) (fun c_1251 => absurd c_1251 (by decide))
  refine lv_aload_n hx hb d_Cmd_frame_37 rfl (lv_at hl 0 rfl) ?_
  refine lv_iload_n hx hb d_Cmd_frame_38 rfl (lv_at hl 1 rfl) ?_
  refine va_put (D := D) (ci := 13) (v := .int w) (ty := .int) (C := R_Cmd) (T := F_Cmd) (N := 18) hx hb htw i_Cmd t_Cmd t_Cmd_ok n_Cmd hown hC.1 hP hD hS 0 rfl rfl 2 (by decide) (htw _ k555) (fun _ h9 => h9) rfl (by decide +kernel) rfl rfl (Nat.le_of_ble_eq_true rfl) d_Cmd_frame_39 (fun H locs hP hD hS => ?_)
  have hP : va_P D classes [(q562, .inr (13, [.int 0, .ref z565, .int w, .int 1, .ref z566, .int 0, .int 0, .int 0, .ref z567, .int 0, .int 0, .int (-1), .int (-1), .int 0, .int (-1), .int 0, .ref z568, .ref z569]))] H := hP
  have hD : va_D A [(q562, .inr (13, [.int 0, .ref z565, .int w, .int 1, .ref z566, .int 0, .int 0, .int 0, .ref z567, .int 0, .int 0, .int (-1), .int (-1), .int 0, .int (-1), .int 0, .ref z568, .ref z569]))] := hD
  refine lv_aload_n hx hb d_Cmd_frame_42 rfl (lv_at hl 0 rfl) ?_
  refine lv_iload_n hx hb d_Cmd_frame_43 rfl (lv_at hl 2 rfl) ?_
  refine va_put (D := D) (ci := 13) (v := .int h) (ty := .int) (C := R_Cmd) (T := F_Cmd) (N := 18) hx hb htw i_Cmd t_Cmd t_Cmd_ok n_Cmd hown hC.1 hP hD hS 0 rfl rfl 3 (by decide) (htw _ k556) (fun _ h9 => h9) rfl (by decide +kernel) rfl rfl (Nat.le_of_ble_eq_true rfl) d_Cmd_frame_44 (fun H locs hP hD hS => ?_)
  have hP : va_P D classes [(q562, .inr (13, [.int 0, .ref z565, .int w, .int h, .ref z566, .int 0, .int 0, .int 0, .ref z567, .int 0, .int 0, .int (-1), .int (-1), .int 0, .int (-1), .int 0, .ref z568, .ref z569]))] H := hP
  have hD : va_D A [(q562, .inr (13, [.int 0, .ref z565, .int w, .int h, .ref z566, .int 0, .int 0, .int 0, .ref z567, .int 0, .int 0, .int (-1), .int (-1), .int 0, .int (-1), .int 0, .ref z568, .ref z569]))] := hD
  refine W.widen (k := 0) (n := 0) (Nat.le_of_ble_eq_true rfl) (Nat.le_of_ble_eq_true rfl) ?_
  have hP9 := hP.sub (ws' := []) [] rfl
  have hD9 := hD.sub (ws' := []) [] (by decide) rfl
  exact W.vret hx hb hr (fun t ht hW => ⟨⟨(), rfl, trivial, by rw [ht]; exact hP9, va_K.moved hW.alike hC.1, hD9⟩, hS.F ht⟩) hS.2.2 d_Cmd_frame_47

theorem d_Ptm_frame_0 : decode prog_17_method_4_code 0 = .ok (.aload_n 0, 1) := by decide +kernel
theorem d_Ptm_frame_1 : decode prog_17_method_4_code 1 = .ok (.iload_n 3, 1) := by decide +kernel
theorem d_Ptm_frame_2 : decode prog_17_method_4_code 2 = .ok (.iconst 1, 1) := by decide +kernel
theorem d_Ptm_frame_3 : decode prog_17_method_4_code 3 = .ok (.sipush 128, 3) := by decide +kernel
theorem d_Ptm_frame_6 : decode prog_17_method_4_code 6 = .ok (.invokestatic 63, 3) := by decide +kernel
theorem d_Ptm_frame_9 : decode prog_17_method_4_code 9 = .ok (.ifCond .eq 37, 3) := by decide +kernel
theorem d_Ptm_frame_12 : decode prog_17_method_4_code 12 = .ok (.iload 4, 2) := by decide +kernel
theorem d_Ptm_frame_14 : decode prog_17_method_4_code 14 = .ok (.iconst 1, 1) := by decide +kernel
theorem d_Ptm_frame_15 : decode prog_17_method_4_code 15 = .ok (.sipush 128, 3) := by decide +kernel
theorem d_Ptm_frame_18 : decode prog_17_method_4_code 18 = .ok (.invokestatic 63, 3) := by decide +kernel
theorem d_Ptm_frame_21 : decode prog_17_method_4_code 21 = .ok (.ifCond .eq 25, 3) := by decide +kernel
theorem d_Ptm_frame_24 : decode prog_17_method_4_code 24 = .ok (.iload_n 1, 1) := by decide +kernel
theorem d_Ptm_frame_25 : decode prog_17_method_4_code 25 = .ok (.iconst 0, 1) := by decide +kernel
theorem d_Ptm_frame_26 : decode prog_17_method_4_code 26 = .ok (.sipush 1023, 3) := by decide +kernel
theorem d_Ptm_frame_29 : decode prog_17_method_4_code 29 = .ok (.invokestatic 63, 3) := by decide +kernel
theorem d_Ptm_frame_32 : decode prog_17_method_4_code 32 = .ok (.ifCond .eq 14, 3) := by decide +kernel
theorem d_Ptm_frame_35 : decode prog_17_method_4_code 35 = .ok (.iload_n 2, 1) := by decide +kernel
theorem d_Ptm_frame_36 : decode prog_17_method_4_code 36 = .ok (.iconst 0, 1) := by decide +kernel
theorem d_Ptm_frame_37 : decode prog_17_method_4_code 37 = .ok (.sipush 1023, 3) := by decide +kernel
theorem d_Ptm_frame_40 : decode prog_17_method_4_code 40 = .ok (.invokestatic 63, 3) := by decide +kernel
theorem d_Ptm_frame_43 : decode prog_17_method_4_code 43 = .ok (.ifCond .ne 7, 3) := by decide +kernel
theorem d_Ptm_frame_50 : decode prog_17_method_4_code 50 = .ok (.iconst 0, 1) := by decide +kernel
theorem d_Ptm_frame_51 : decode prog_17_method_4_code 51 = .ok (.iconst 0, 1) := by decide +kernel
theorem d_Ptm_frame_52 : decode prog_17_method_4_code 52 = .ok (.invokevirtual 67, 3) := by decide +kernel
theorem d_Ptm_frame_55 : decode prog_17_method_4_code 55 = .ok (.ifCond .eq 4, 3) := by decide +kernel
theorem d_Ptm_frame_59 : decode prog_17_method_4_code 59 = .ok (.aload_n 0, 1) := by decide +kernel
theorem d_Ptm_frame_60 : decode prog_17_method_4_code 60 = .ok (.iload_n 1, 1) := by decide +kernel
theorem d_Ptm_frame_61 : decode prog_17_method_4_code 61 = .ok (.putfield 71, 3) := by decide +kernel
theorem d_Ptm_frame_64 : decode prog_17_method_4_code 64 = .ok (.aload_n 0, 1) := by decide +kernel
theorem d_Ptm_frame_65 : decode prog_17_method_4_code 65 = .ok (.iload_n 2, 1) := by decide +kernel
theorem d_Ptm_frame_66 : decode prog_17_method_4_code 66 = .ok (.putfield 74, 3) := by decide +kernel
theorem d_Ptm_frame_69 : decode prog_17_method_4_code 69 = .ok (.aload_n 0, 1) := by decide +kernel
theorem d_Ptm_frame_70 : decode prog_17_method_4_code 70 = .ok (.iload_n 3, 1) := by decide +kernel
theorem d_Ptm_frame_71 : decode prog_17_method_4_code 71 = .ok (.putfield 7, 3) := by decide +kernel
theorem d_Ptm_frame_74 : decode prog_17_method_4_code 74 = .ok (.aload_n 0, 1) := by decide +kernel
theorem d_Ptm_frame_75 : decode prog_17_method_4_code 75 = .ok (.iload 4, 2) := by decide +kernel
theorem d_Ptm_frame_77 : decode prog_17_method_4_code 77 = .ok (.putfield 13, 3) := by decide +kernel
theorem d_Ptm_frame_80 : decode prog_17_method_4_code 80 = .ok (.iconst 0, 1) := by decide +kernel
theorem d_Ptm_frame_81 : decode prog_17_method_4_code 81 = .ok (.istore 5, 2) := by decide +kernel
theorem d_Ptm_frame_83 : decode prog_17_method_4_code 83 = .ok (.iload 5, 2) := by decide +kernel
theorem d_Ptm_frame_85 : decode prog_17_method_4_code 85 = .ok (.sipush 16384, 3) := by decide +kernel
theorem d_Ptm_frame_88 : decode prog_17_method_4_code 88 = .ok (.if_icmp .ge 25, 3) := by decide +kernel
theorem d_Ptm_frame_91 : decode prog_17_method_4_code 91 = .ok (.aload_n 0, 1) := by decide +kernel
theorem d_Ptm_frame_92 : decode prog_17_method_4_code 92 = .ok (.getfield 21, 3) := by decide +kernel
theorem d_Ptm_frame_95 : decode prog_17_method_4_code 95 = .ok (.iload 5, 2) := by decide +kernel
theorem d_Ptm_frame_97 : decode prog_17_method_4_code 97 = .ok (.iconst 0, 1) := by decide +kernel
theorem d_Ptm_frame_98 : decode prog_17_method_4_code 98 = .ok (.iastore, 1) := by decide +kernel
theorem d_Ptm_frame_99 : decode prog_17_method_4_code 99 = .ok (.aload_n 0, 1) := by decide +kernel
theorem d_Ptm_frame_100 : decode prog_17_method_4_code 100 = .ok (.getfield 24, 3) := by decide +kernel
theorem d_Ptm_frame_103 : decode prog_17_method_4_code 103 = .ok (.iload 5, 2) := by decide +kernel
theorem d_Ptm_frame_105 : decode prog_17_method_4_code 105 = .ok (.iconst 0, 1) := by decide +kernel
theorem d_Ptm_frame_106 : decode prog_17_method_4_code 106 = .ok (.iastore, 1) := by decide +kernel
theorem d_Ptm_frame_107 : decode prog_17_method_4_code 107 = .ok (.iinc 5 1, 3) := by decide +kernel
theorem d_Ptm_frame_110 : decode prog_17_method_4_code 110 = .ok (.goto (-27), 3) := by decide +kernel
theorem d_Ptm_frame_113 : decode prog_17_method_4_code 113 = .ok (.iconst 0, 1) := by decide +kernel
theorem d_Ptm_frame_114 : decode prog_17_method_4_code 114 = .ok (.istore 5, 2) := by decide +kernel
theorem d_Ptm_frame_116 : decode prog_17_method_4_code 116 = .ok (.iload 5, 2) := by decide +kernel
theorem d_Ptm_frame_118 : decode prog_17_method_4_code 118 = .ok (.ldc 16, 2) := by decide +kernel
theorem d_Ptm_frame_120 : decode prog_17_method_4_code 120 = .ok (.if_icmp .ge 17, 3) := by decide +kernel
theorem d_Ptm_frame_123 : decode prog_17_method_4_code 123 = .ok (.aload_n 0, 1) := by decide +kernel
theorem d_Ptm_frame_124 : decode prog_17_method_4_code 124 = .ok (.getfield 17, 3) := by decide +kernel
theorem d_Ptm_frame_127 : decode prog_17_method_4_code 127 = .ok (.iload 5, 2) := by decide +kernel
theorem d_Ptm_frame_129 : decode prog_17_method_4_code 129 = .ok (.iconst 0, 1) := by decide +kernel
theorem d_Ptm_frame_130 : decode prog_17_method_4_code 130 = .ok (.iastore, 1) := by decide +kernel
theorem d_Ptm_frame_131 : decode prog_17_method_4_code 131 = .ok (.iinc 5 1, 3) := by decide +kernel
theorem d_Ptm_frame_134 : decode prog_17_method_4_code 134 = .ok (.goto (-18), 3) := by decide +kernel
theorem d_Ptm_frame_137 : decode prog_17_method_4_code 137 = .ok (.return_, 1) := by decide +kernel
set_option maxHeartbeats 4000000 in
set_option maxRecDepth 100000 in
theorem lp_Pframe_83 {p : Program} {l : Launch} {e : Env} {R : Room} {s : State} {m : MethodId} {args : Array Value} {below : List Frame} {meth : Method} {c : Code} {Q : State → Prop} {A : Nat → Prop} (D : va_G) (cI cL : ClassId) (B : Nat) (q586 : Nat) (z589 : Nat) (z590 : Nat) (z591 : Nat) (z592 : Nat) (z593 : Nat) (z594 : Nat) (z595 : Nat) (z596 : Nat) (z597 : Nat) (z598 : Nat) (w : Int32) (h : Int32) (cells slots : Nat) (hx : p.tables.exec = Jvm.exec) (hb : c.code = prog_17_method_4_code) (hml : c.maxLocals = 6) (hown : s.vm.findClass "DrawingMachineModel$PlaceTestsModel" = some m.cls) (htw : ∀ w ∈ tw, w.before args s = true) (hC : wC D cI cL B A s) (hRf : 30 ≤ R.frames) (hRl : 3000 ≤ R.locals) (hRc : cells ≤ R.cells) (hRs : slots ≤ R.slots) (hN : 16384 < 100000)
    (kx : ∀ (f1272 : Nat → Int32) (f1273 : Nat → Int32) (H : Heap) (locs : List Loc) (ls : Array Slot), va_P D classes [(z589, .inl (cI, 65536, .inl (fun _ => 0))), (z590, .inl (cI, 16384, .inl f1272)), (z591, .inl (cI, 16384, .inl f1273)), (q586, .inr (18, [.int 0, .int 0, .int 0, .int w, .int h, .ref z589, .ref z590, .ref z591, .int 0, .ref z592, .int (-1), .int 0, .ref z593, .ref z594, .int (-1), .int 0, .ref z595, .int (-1), .int 15, .ref z596, .ref z597, .ref z598]))] H → va_D A [(z589, .inl (cI, 65536, .inl (fun _ => 0))), (z590, .inl (cI, 16384, .inl f1272)), (z591, .inl (cI, 16384, .inl f1273)), (q586, .inr (18, [.int 0, .int 0, .int 0, .int w, .int h, .ref z589, .ref z590, .ref z591, .int 0, .ref z592, .int (-1), .int 0, .ref z593, .ref z594, .int (-1), .int 0, .ref z595, .int (-1), .int 15, .ref z596, .ref z597, .ref z598]))] → va_S A s.heap H locs → lv_has ls 6 [(5, .int (nI 16384)), (0, .ref q586), (1, .int 0), (2, .int 0), (3, .int w), (4, .int h)] → W p l e R s m args below meth c H locs cells slots Q (F0 m 113 ls [])) :
    ∀ (k i : Nat) (f1272 : Nat → Int32) (f1273 : Nat → Int32), i + k = 16384 → ∀ (H : Heap) (locs : List Loc) (ls : Array Slot), va_P D classes [(z589, .inl (cI, 65536, .inl (fun _ => 0))), (z590, .inl (cI, 16384, .inl f1272)), (z591, .inl (cI, 16384, .inl f1273)), (q586, .inr (18, [.int 0, .int 0, .int 0, .int w, .int h, .ref z589, .ref z590, .ref z591, .int 0, .ref z592, .int (-1), .int 0, .ref z593, .ref z594, .int (-1), .int 0, .ref z595, .int (-1), .int 15, .ref z596, .ref z597, .ref z598]))] H → va_D A [(z589, .inl (cI, 65536, .inl (fun _ => 0))), (z590, .inl (cI, 16384, .inl f1272)), (z591, .inl (cI, 16384, .inl f1273)), (q586, .inr (18, [.int 0, .int 0, .int 0, .int w, .int h, .ref z589, .ref z590, .ref z591, .int 0, .ref z592, .int (-1), .int 0, .ref z593, .ref z594, .int (-1), .int 0, .ref z595, .int (-1), .int 15, .ref z596, .ref z597, .ref z598]))] → va_S A s.heap H locs → lv_has ls 6 [(5, .int (nI i)), (0, .ref q586), (1, .int 0), (2, .int 0), (3, .int w), (4, .int h)] → W p l e R s m args below meth c H locs cells slots Q (F0 m 83 ls []) := by
  intro k
  induction k with
  | zero =>
    intro i f1272 f1273 hi H locs ls hP hD hS hl
    obtain rfl : i = 16384 := hi
    refine lv_iload hx hb d_Ptm_frame_83 (lv_at hl 0 rfl) ?_
    refine lv_sipush (v := 16384) hx hb d_Ptm_frame_85 (by decide) ?_
    refine lv_icmp_ge (tgt := 113) hx hb d_Ptm_frame_88 (by decide) (fun c_1274 => ?_) (fun c_1274 => absurd (Int32.le_refl _) c_1274)
    exact kx f1272 f1273 _ _ _ hP hD hS (lv_sub hl [0, 1, 2, 3, 4, 5] rfl)
  | succ k ih =>
    intro i f1272 f1273 hi H locs ls hP hD hS hl
    refine lv_iload hx hb d_Ptm_frame_83 (lv_at hl 0 rfl) ?_
    refine lv_sipush (v := 16384) hx hb d_Ptm_frame_85 (by decide) ?_
    refine lv_icmp_ge (tgt := 113) hx hb d_Ptm_frame_88 (by decide) (fun c_1275 => absurd c_1275 (nI_ge (a := i) (b := 16384) (by omega) (by omega))) (fun c_1275 => ?_)
    refine lv_aload_n hx hb d_Ptm_frame_91 rfl (lv_at hl 1 rfl) ?_
    refine va_get (D := D) (ci := 18) (v := .ref z590) (C := R_Ptm) (T := F_Ptm) (N := 22) hx hb htw i_Ptm hown hC.1 hP 3 rfl rfl 6 (by decide) (htw _ k612) (fun _ h9 => h9) rfl d_Ptm_frame_92 ?_
    refine lv_iload hx hb d_Ptm_frame_95 (lv_at hl 0 rfl) ?_
    refine lv_iconst (v := 0) hx hb d_Ptm_frame_97 (by decide) ?_
    refine va_iast hx hb hC.1 hP hD hS 1 0 rfl rfl (vp_in_nI (by omega) (by omega)) d_Ptm_frame_98 (fun H locs hP hD hS => ?_)
    have hP : va_P D classes [(z589, .inl (cI, 65536, .inl (fun _ => 0))), (z590, .inl (cI, 16384, .inl (upd f1272 ((nI i) : Int32).toNatClampNeg 0))), (z591, .inl (cI, 16384, .inl f1273)), (q586, .inr (18, [.int 0, .int 0, .int 0, .int w, .int h, .ref z589, .ref z590, .ref z591, .int 0, .ref z592, .int (-1), .int 0, .ref z593, .ref z594, .int (-1), .int 0, .ref z595, .int (-1), .int 15, .ref z596, .ref z597, .ref z598]))] H := hP
    have hD : va_D A [(z589, .inl (cI, 65536, .inl (fun _ => 0))), (z590, .inl (cI, 16384, .inl (upd f1272 ((nI i) : Int32).toNatClampNeg 0))), (z591, .inl (cI, 16384, .inl f1273)), (q586, .inr (18, [.int 0, .int 0, .int 0, .int w, .int h, .ref z589, .ref z590, .ref z591, .int 0, .ref z592, .int (-1), .int 0, .ref z593, .ref z594, .int (-1), .int 0, .ref z595, .int (-1), .int 15, .ref z596, .ref z597, .ref z598]))] := hD
    generalize upd f1272 ((nI i) : Int32).toNatClampNeg 0 = f1276 at hP hD
    refine lv_aload_n hx hb d_Ptm_frame_99 rfl (lv_at hl 1 rfl) ?_
    refine va_get (D := D) (ci := 18) (v := .ref z591) (C := R_Ptm) (T := F_Ptm) (N := 22) hx hb htw i_Ptm hown hC.1 hP 3 rfl rfl 7 (by decide) (htw _ k613) (fun _ h9 => h9) rfl d_Ptm_frame_100 ?_
    refine lv_iload hx hb d_Ptm_frame_103 (lv_at hl 0 rfl) ?_
    refine lv_iconst (v := 0) hx hb d_Ptm_frame_105 (by decide) ?_
    refine va_iast hx hb hC.1 hP hD hS 2 0 rfl rfl (vp_in_nI (by omega) (by omega)) d_Ptm_frame_106 (fun H locs hP hD hS => ?_)
    have hP : va_P D classes [(z589, .inl (cI, 65536, .inl (fun _ => 0))), (z590, .inl (cI, 16384, .inl f1276)), (z591, .inl (cI, 16384, .inl (upd f1273 ((nI i) : Int32).toNatClampNeg 0))), (q586, .inr (18, [.int 0, .int 0, .int 0, .int w, .int h, .ref z589, .ref z590, .ref z591, .int 0, .ref z592, .int (-1), .int 0, .ref z593, .ref z594, .int (-1), .int 0, .ref z595, .int (-1), .int 15, .ref z596, .ref z597, .ref z598]))] H := hP
    have hD : va_D A [(z589, .inl (cI, 65536, .inl (fun _ => 0))), (z590, .inl (cI, 16384, .inl f1276)), (z591, .inl (cI, 16384, .inl (upd f1273 ((nI i) : Int32).toNatClampNeg 0))), (q586, .inr (18, [.int 0, .int 0, .int 0, .int w, .int h, .ref z589, .ref z590, .ref z591, .int 0, .ref z592, .int (-1), .int 0, .ref z593, .ref z594, .int (-1), .int 0, .ref z595, .int (-1), .int 15, .ref z596, .ref z597, .ref z598]))] := hD
    generalize upd f1273 ((nI i) : Int32).toNatClampNeg 0 = f1277 at hP hD
    refine lv_iinc (v := (nI (i + 1))) (lv' := [(5, .int (nI (i + 1))), (0, .ref q586), (1, .int 0), (2, .int 0), (3, .int w), (4, .int h)]) hx hb d_Ptm_frame_107 hl (k := 0) rfl (show nI i + 1 = nI (i + 1) from nI_1 i) (by decide) rfl (fun ls hl => ?_)
    refine lv_goto (tgt := 83) hx hb d_Ptm_frame_110 (by decide) ?_
    exact ih (i + 1) f1276 f1277 (by omega) _ _ _ hP hD hS (lv_sub hl [0, 1, 2, 3, 4, 5] rfl)
set_option maxHeartbeats 4000000 in
set_option maxRecDepth 100000 in
theorem lp_Pframe_116 {p : Program} {l : Launch} {e : Env} {R : Room} {s : State} {m : MethodId} {args : Array Value} {below : List Frame} {meth : Method} {c : Code} {Q : State → Prop} {A : Nat → Prop} (D : va_G) (cI cL : ClassId) (B : Nat) (q586 : Nat) (z589 : Nat) (z590 : Nat) (z591 : Nat) (z592 : Nat) (z593 : Nat) (z594 : Nat) (z595 : Nat) (z596 : Nat) (z597 : Nat) (z598 : Nat) (w : Int32) (h : Int32) (f1278 : Nat → Int32) (f1279 : Nat → Int32) (cells slots : Nat) (hx : p.tables.exec = Jvm.exec) (hb : c.code = prog_17_method_4_code) (hml : c.maxLocals = 6) (hown : s.vm.findClass "DrawingMachineModel$PlaceTestsModel" = some m.cls) (htw : ∀ w ∈ tw, w.before args s = true) (hC : wC D cI cL B A s) (hRf : 30 ≤ R.frames) (hRl : 3000 ≤ R.locals) (hRc : cells ≤ R.cells) (hRs : slots ≤ R.slots) (hN : 65536 < 100000)
    (kx : ∀ (f1280 : Nat → Int32) (H : Heap) (locs : List Loc) (ls : Array Slot), va_P D classes [(z589, .inl (cI, 65536, .inl f1280)), (z590, .inl (cI, 16384, .inl f1278)), (z591, .inl (cI, 16384, .inl f1279)), (q586, .inr (18, [.int 0, .int 0, .int 0, .int w, .int h, .ref z589, .ref z590, .ref z591, .int 0, .ref z592, .int (-1), .int 0, .ref z593, .ref z594, .int (-1), .int 0, .ref z595, .int (-1), .int 15, .ref z596, .ref z597, .ref z598]))] H → va_D A [(z589, .inl (cI, 65536, .inl f1280)), (z590, .inl (cI, 16384, .inl f1278)), (z591, .inl (cI, 16384, .inl f1279)), (q586, .inr (18, [.int 0, .int 0, .int 0, .int w, .int h, .ref z589, .ref z590, .ref z591, .int 0, .ref z592, .int (-1), .int 0, .ref z593, .ref z594, .int (-1), .int 0, .ref z595, .int (-1), .int 15, .ref z596, .ref z597, .ref z598]))] → va_S A s.heap H locs → lv_has ls 6 [(5, .int (nI 65536)), (0, .ref q586), (1, .int 0), (2, .int 0), (3, .int w), (4, .int h)] → W p l e R s m args below meth c H locs cells slots Q (F0 m 137 ls [])) :
    ∀ (k i : Nat) (f1280 : Nat → Int32), i + k = 65536 → ∀ (H : Heap) (locs : List Loc) (ls : Array Slot), va_P D classes [(z589, .inl (cI, 65536, .inl f1280)), (z590, .inl (cI, 16384, .inl f1278)), (z591, .inl (cI, 16384, .inl f1279)), (q586, .inr (18, [.int 0, .int 0, .int 0, .int w, .int h, .ref z589, .ref z590, .ref z591, .int 0, .ref z592, .int (-1), .int 0, .ref z593, .ref z594, .int (-1), .int 0, .ref z595, .int (-1), .int 15, .ref z596, .ref z597, .ref z598]))] H → va_D A [(z589, .inl (cI, 65536, .inl f1280)), (z590, .inl (cI, 16384, .inl f1278)), (z591, .inl (cI, 16384, .inl f1279)), (q586, .inr (18, [.int 0, .int 0, .int 0, .int w, .int h, .ref z589, .ref z590, .ref z591, .int 0, .ref z592, .int (-1), .int 0, .ref z593, .ref z594, .int (-1), .int 0, .ref z595, .int (-1), .int 15, .ref z596, .ref z597, .ref z598]))] → va_S A s.heap H locs → lv_has ls 6 [(5, .int (nI i)), (0, .ref q586), (1, .int 0), (2, .int 0), (3, .int w), (4, .int h)] → W p l e R s m args below meth c H locs cells slots Q (F0 m 116 ls []) := by
  intro k
  induction k with
  | zero =>
    intro i f1280 hi H locs ls hP hD hS hl
    obtain rfl : i = 65536 := hi
    refine lv_iload hx hb d_Ptm_frame_116 (lv_at hl 0 rfl) ?_
    refine lv_ldc (v := 65536) hx hb hown (htw _ k610) d_Ptm_frame_118 ?_
    refine lv_icmp_ge (tgt := 137) hx hb d_Ptm_frame_120 (by decide) (fun c_1281 => ?_) (fun c_1281 => absurd (Int32.le_refl _) c_1281)
    exact kx f1280 _ _ _ hP hD hS (lv_sub hl [0, 1, 2, 3, 4, 5] rfl)
  | succ k ih =>
    intro i f1280 hi H locs ls hP hD hS hl
    refine lv_iload hx hb d_Ptm_frame_116 (lv_at hl 0 rfl) ?_
    refine lv_ldc (v := 65536) hx hb hown (htw _ k610) d_Ptm_frame_118 ?_
    refine lv_icmp_ge (tgt := 137) hx hb d_Ptm_frame_120 (by decide) (fun c_1282 => absurd c_1282 (nI_ge (a := i) (b := 65536) (by omega) (by omega))) (fun c_1282 => ?_)
    refine lv_aload_n hx hb d_Ptm_frame_123 rfl (lv_at hl 1 rfl) ?_
    refine va_get (D := D) (ci := 18) (v := .ref z589) (C := R_Ptm) (T := F_Ptm) (N := 22) hx hb htw i_Ptm hown hC.1 hP 3 rfl rfl 5 (by decide) (htw _ k611) (fun _ h9 => h9) rfl d_Ptm_frame_124 ?_
    refine lv_iload hx hb d_Ptm_frame_127 (lv_at hl 0 rfl) ?_
    refine lv_iconst (v := 0) hx hb d_Ptm_frame_129 (by decide) ?_
    refine va_iast hx hb hC.1 hP hD hS 0 0 rfl rfl (vp_in_nI (by omega) (by omega)) d_Ptm_frame_130 (fun H locs hP hD hS => ?_)
    have hP : va_P D classes [(z589, .inl (cI, 65536, .inl (upd f1280 ((nI i) : Int32).toNatClampNeg 0))), (z590, .inl (cI, 16384, .inl f1278)), (z591, .inl (cI, 16384, .inl f1279)), (q586, .inr (18, [.int 0, .int 0, .int 0, .int w, .int h, .ref z589, .ref z590, .ref z591, .int 0, .ref z592, .int (-1), .int 0, .ref z593, .ref z594, .int (-1), .int 0, .ref z595, .int (-1), .int 15, .ref z596, .ref z597, .ref z598]))] H := hP
    have hD : va_D A [(z589, .inl (cI, 65536, .inl (upd f1280 ((nI i) : Int32).toNatClampNeg 0))), (z590, .inl (cI, 16384, .inl f1278)), (z591, .inl (cI, 16384, .inl f1279)), (q586, .inr (18, [.int 0, .int 0, .int 0, .int w, .int h, .ref z589, .ref z590, .ref z591, .int 0, .ref z592, .int (-1), .int 0, .ref z593, .ref z594, .int (-1), .int 0, .ref z595, .int (-1), .int 15, .ref z596, .ref z597, .ref z598]))] := hD
    generalize upd f1280 ((nI i) : Int32).toNatClampNeg 0 = f1283 at hP hD
    refine lv_iinc (v := (nI (i + 1))) (lv' := [(5, .int (nI (i + 1))), (0, .ref q586), (1, .int 0), (2, .int 0), (3, .int w), (4, .int h)]) hx hb d_Ptm_frame_131 hl (k := 0) rfl (show nI i + 1 = nI (i + 1) from nI_1 i) (by decide) rfl (fun ls hl => ?_)
    refine lv_goto (tgt := 116) hx hb d_Ptm_frame_134 (by decide) ?_
    exact ih (i + 1) f1283 (by omega) _ _ _ hP hD hS (lv_sub hl [0, 1, 2, 3, 4, 5] rfl)
set_option maxHeartbeats 4000000 in
set_option maxRecDepth 100000 in
theorem c_Pframe (l : Launch) (D : va_G) (cI cL : ClassId) (B sz : Nat) (q586 : Nat) (z589 : Nat) (z590 : Nat) (z591 : Nat) (z592 : Nat) (z593 : Nat) (z594 : Nat) (z595 : Nat) (z596 : Nat) (z597 : Nat) (z598 : Nat) (w : Int32) (h : Int32) (h1 : ¬ w < 1) (h2 : ¬ 128 < w) (h3 : ¬ h < 1) (h4 : ¬ 128 < h) : Met l y_Ptm_frame ((Cond.code y_Ptm_frame prog_17_method_4_code 6 none) :: tw) ({ frames := 30, cells := 0, slots := 0, locals := 3000 }) (va_Pc [.ref q586, .int 0, .int 0, .int w, .int h] (wP D cI cL B sz [(q586, .inr (18, [.int 0, .int 0, .int 0, .int 1, .int 1, .ref z589, .ref z590, .ref z591, .int 0, .ref z592, .int (-1), .int 0, .ref z593, .ref z594, .int (-1), .int 0, .ref z595, .int (-1), .int 15, .ref z596, .ref z597, .ref z598])), (z589, .inl (cI, 65536, .inl (fun _ => 0))), (z590, .inl (cI, 16384, .inl (fun _ => 0))), (z591, .inl (cI, 16384, .inl (fun _ => 0)))])) (va_Qv (S := Unit) (fun _ => True) (fun u => wB D cI cL (va_A [(q586, .inr (18, [.int 0, .int 0, .int 0, .int 1, .int 1, .ref z589, .ref z590, .ref z591, .int 0, .ref z592, .int (-1), .int 0, .ref z593, .ref z594, .int (-1), .int 0, .ref z595, .int (-1), .int 15, .ref z596, .ref z597, .ref z598])), (z589, .inl (cI, 65536, .inl (fun _ => 0))), (z590, .inl (cI, 16384, .inl (fun _ => 0))), (z591, .inl (cI, 16384, .inl (fun _ => 0)))] sz) ((fun _ : Unit => []) u)) (va_A [(q586, .inr (18, [.int 0, .int 0, .int 0, .int 1, .int 1, .ref z589, .ref z590, .ref z591, .int 0, .ref z592, .int (-1), .int 0, .ref z593, .ref z594, .int (-1), .int 0, .ref z595, .int (-1), .int 15, .ref z596, .ref z597, .ref z598])), (z589, .inl (cI, 65536, .inl (fun _ => 0))), (z590, .inl (cI, 16384, .inl (fun _ => 0))), (z591, .inl (cI, 16384, .inl (fun _ => 0)))] sz)) 0 0 (va_A [(q586, .inr (18, [.int 0, .int 0, .int 0, .int 1, .int 1, .ref z589, .ref z590, .ref z591, .int 0, .ref z592, .int (-1), .int 0, .ref z593, .ref z594, .int (-1), .int 0, .ref z595, .int (-1), .int 15, .ref z596, .ref z597, .ref z598])), (z589, .inl (cI, 65536, .inl (fun _ => 0))), (z590, .inl (cI, 16384, .inl (fun _ => 0))), (z591, .inl (cI, 16384, .inl (fun _ => 0)))] sz) := by
  refine Met.ofW (cc := prog_17_method_4_code) (maxL := 6) (ret := none) (by decide) rfl ?_
  intro p e s m args below meth c s₁ B0 hml hv
  obtain ⟨rfl, hv⟩ := hv
  have hx := B0.exec
  have hb := B0.bytes
  have hr := B0.returns
  have hts := atoms_spec (ws := (Cond.code y_Ptm_frame prog_17_method_4_code 6 none) :: tw) B0.pre
  have htw : ∀ w ∈ tw, w.before _ s = true := fun w hw => hts w (List.mem_cons_of_mem _ hw)
  have hown : s.vm.findClass "DrawingMachineModel$PlaceTestsModel" = some m.cls := findClass_of_methodNamed B0.named
  have hlocks := B0.notSynchronized
  obtain ⟨hC, hP, hD, hsz⟩ := wC_init hv
  subst hsz
  generalize hAe : va_A [(q586, .inr (18, [.int 0, .int 0, .int 0, .int 1, .int 1, .ref z589, .ref z590, .ref z591, .int 0, .ref z592, .int (-1), .int 0, .ref z593, .ref z594, .int (-1), .int 0, .ref z595, .int (-1), .int 15, .ref z596, .ref z597, .ref z598])), (z589, .inl (cI, 65536, .inl (fun _ => 0))), (z590, .inl (cI, 16384, .inl (fun _ => 0))), (z591, .inl (cI, 16384, .inl (fun _ => 0)))] s.heap.size = A at hC hD ⊢
  have hS : va_S A s.heap s.heap [] := va_S.rf
  have hl := lv_entry ([.ref q586, .int 0, .int 0, .int w, .int h]) (n := 6) (Nat.le_of_ble_eq_true rfl)
  rw [lg_entry_eq]
  generalize (lg_sl ([.ref q586, .int 0, .int 0, .int w, .int h]) ++ List.replicate (6 - (lg_sl ([.ref q586, .int 0, .int 0, .int w, .int h])).length) Slot.unset).toArray = ls at hl ⊢
  have hl : lv_has ls 6 [(0, .ref q586), (1, .int 0), (2, .int 0), (3, .int w), (4, .int h)] := hl
  refine lv_aload_n hx hb d_Ptm_frame_0 rfl (lv_at hl 0 rfl) ?_
  refine lv_iload_n hx hb d_Ptm_frame_1 rfl (lv_at hl 3 rfl) ?_
  refine lv_iconst (v := 1) hx hb d_Ptm_frame_2 (by decide) ?_
  refine lv_sipush (v := 128) hx hb d_Ptm_frame_3 (by decide) ?_
  refine wc_i (wr := [(q586, .inr (18, [.int 0, .int 0, .int 0, .int 1, .int 1, .ref z589, .ref z590, .ref z591, .int 0, .ref z592, .int (-1), .int 0, .ref z593, .ref z594, .int (-1), .int 0, .ref z595, .int (-1), .int 15, .ref z596, .ref z597, .ref z598])), (z589, .inl (cI, 65536, .inl (fun _ => 0))), (z590, .inl (cI, 16384, .inl (fun _ => 0))), (z591, .inl (cI, 16384, .inl (fun _ => 0)))]) hC hP hD hS [] [0, 1, 2, 3] rfl rfl (by decide) (by decide) (va_runS (As := [.int w, .int 1, .int 128]) (rest := [.ref q586]) ⟨hx, hb, hml, hown, htw⟩ (c_Ptm_in_t l D cI cL B _ w 1 128 (h1) (h2)) (va_cwS 3 htw gS_Ptm_63 rfl rfl rfl (by decide +kernel) ⟨Nat.le_of_ble_eq_true rfl, Nat.le_of_ble_eq_true rfl⟩) (wC_pre hC hP hD hS [] (by decide) rfl) rfl rfl hl.1 rfl (lv_room (Nat.le_of_ble_eq_true rfl)) d_Ptm_frame_6 ⟨Nat.le_of_ble_eq_true rfl, Nat.le_of_ble_eq_true rfl⟩) (fun r1254 u1252 H locs hw1253 hP hD hS => ?_)
  obtain rfl : r1254 = 1 := hw1253
  have hP : va_P D classes [(q586, .inr (18, [.int 0, .int 0, .int 0, .int 1, .int 1, .ref z589, .ref z590, .ref z591, .int 0, .ref z592, .int (-1), .int 0, .ref z593, .ref z594, .int (-1), .int 0, .ref z595, .int (-1), .int 15, .ref z596, .ref z597, .ref z598])), (z589, .inl (cI, 65536, .inl (fun _ => 0))), (z590, .inl (cI, 16384, .inl (fun _ => 0))), (z591, .inl (cI, 16384, .inl (fun _ => 0)))] H := hP
  have hD : va_D A [(q586, .inr (18, [.int 0, .int 0, .int 0, .int 1, .int 1, .ref z589, .ref z590, .ref z591, .int 0, .ref z592, .int (-1), .int 0, .ref z593, .ref z594, .int (-1), .int 0, .ref z595, .int (-1), .int 15, .ref z596, .ref z597, .ref z598])), (z589, .inl (cI, 65536, .inl (fun _ => 0))), (z590, .inl (cI, 16384, .inl (fun _ => 0))), (z591, .inl (cI, 16384, .inl (fun _ => 0)))] := hD
  refine W.widen (k := 0) (n := 0) (by omega) (by omega) ?_
  refine lv_if_eq (tgt := 46) hx hb d_Ptm_frame_9 (by decide) (fun c_1255 => absurd c_1255 (by decide)) (fun c_1255 => ?_)
  refine lv_iload hx hb d_Ptm_frame_12 (lv_at hl 4 rfl) ?_
  refine lv_iconst (v := 1) hx hb d_Ptm_frame_14 (by decide) ?_
  refine lv_sipush (v := 128) hx hb d_Ptm_frame_15 (by decide) ?_
  refine wc_i (wr := [(q586, .inr (18, [.int 0, .int 0, .int 0, .int 1, .int 1, .ref z589, .ref z590, .ref z591, .int 0, .ref z592, .int (-1), .int 0, .ref z593, .ref z594, .int (-1), .int 0, .ref z595, .int (-1), .int 15, .ref z596, .ref z597, .ref z598])), (z589, .inl (cI, 65536, .inl (fun _ => 0))), (z590, .inl (cI, 16384, .inl (fun _ => 0))), (z591, .inl (cI, 16384, .inl (fun _ => 0)))]) hC hP hD hS [] [0, 1, 2, 3] rfl rfl (by decide) (by decide) (va_runS (As := [.int h, .int 1, .int 128]) (rest := [.ref q586]) ⟨hx, hb, hml, hown, htw⟩ (c_Ptm_in_t l D cI cL B _ h 1 128 (h3) (h4)) (va_cwS 3 htw gS_Ptm_63 rfl rfl rfl (by decide +kernel) ⟨Nat.le_of_ble_eq_true rfl, Nat.le_of_ble_eq_true rfl⟩) (wC_pre hC hP hD hS [] (by decide) rfl) rfl rfl hl.1 rfl (lv_room (Nat.le_of_ble_eq_true rfl)) d_Ptm_frame_18 ⟨Nat.le_of_ble_eq_true rfl, Nat.le_of_ble_eq_true rfl⟩) (fun r1258 u1256 H locs hw1257 hP hD hS => ?_)
  obtain rfl : r1258 = 1 := hw1257
  have hP : va_P D classes [(q586, .inr (18, [.int 0, .int 0, .int 0, .int 1, .int 1, .ref z589, .ref z590, .ref z591, .int 0, .ref z592, .int (-1), .int 0, .ref z593, .ref z594, .int (-1), .int 0, .ref z595, .int (-1), .int 15, .ref z596, .ref z597, .ref z598])), (z589, .inl (cI, 65536, .inl (fun _ => 0))), (z590, .inl (cI, 16384, .inl (fun _ => 0))), (z591, .inl (cI, 16384, .inl (fun _ => 0)))] H := hP
  have hD : va_D A [(q586, .inr (18, [.int 0, .int 0, .int 0, .int 1, .int 1, .ref z589, .ref z590, .ref z591, .int 0, .ref z592, .int (-1), .int 0, .ref z593, .ref z594, .int (-1), .int 0, .ref z595, .int (-1), .int 15, .ref z596, .ref z597, .ref z598])), (z589, .inl (cI, 65536, .inl (fun _ => 0))), (z590, .inl (cI, 16384, .inl (fun _ => 0))), (z591, .inl (cI, 16384, .inl (fun _ => 0)))] := hD
  refine W.widen (k := 0) (n := 0) (by omega) (by omega) ?_
  refine lv_if_eq (tgt := 46) hx hb d_Ptm_frame_21 (by decide) (fun c_1259 => absurd c_1259 (by decide)) (fun c_1259 => ?_)
  refine lv_iload_n hx hb d_Ptm_frame_24 rfl (lv_at hl 1 rfl) ?_
  refine lv_iconst (v := 0) hx hb d_Ptm_frame_25 (by decide) ?_
  refine lv_sipush (v := 1023) hx hb d_Ptm_frame_26 (by decide) ?_
  refine wc_i (wr := [(q586, .inr (18, [.int 0, .int 0, .int 0, .int 1, .int 1, .ref z589, .ref z590, .ref z591, .int 0, .ref z592, .int (-1), .int 0, .ref z593, .ref z594, .int (-1), .int 0, .ref z595, .int (-1), .int 15, .ref z596, .ref z597, .ref z598])), (z589, .inl (cI, 65536, .inl (fun _ => 0))), (z590, .inl (cI, 16384, .inl (fun _ => 0))), (z591, .inl (cI, 16384, .inl (fun _ => 0)))]) hC hP hD hS [] [0, 1, 2, 3] rfl rfl (by decide) (by decide) (va_runS (As := [.int 0, .int 0, .int 1023]) (rest := [.ref q586]) ⟨hx, hb, hml, hown, htw⟩ (c_Ptm_in_t l D cI cL B _ 0 0 1023 (by decide) (by decide)) (va_cwS 3 htw gS_Ptm_63 rfl rfl rfl (by decide +kernel) ⟨Nat.le_of_ble_eq_true rfl, Nat.le_of_ble_eq_true rfl⟩) (wC_pre hC hP hD hS [] (by decide) rfl) rfl rfl hl.1 rfl (lv_room (Nat.le_of_ble_eq_true rfl)) d_Ptm_frame_29 ⟨Nat.le_of_ble_eq_true rfl, Nat.le_of_ble_eq_true rfl⟩) (fun r1262 u1260 H locs hw1261 hP hD hS => ?_)
  obtain rfl : r1262 = 1 := hw1261
  have hP : va_P D classes [(q586, .inr (18, [.int 0, .int 0, .int 0, .int 1, .int 1, .ref z589, .ref z590, .ref z591, .int 0, .ref z592, .int (-1), .int 0, .ref z593, .ref z594, .int (-1), .int 0, .ref z595, .int (-1), .int 15, .ref z596, .ref z597, .ref z598])), (z589, .inl (cI, 65536, .inl (fun _ => 0))), (z590, .inl (cI, 16384, .inl (fun _ => 0))), (z591, .inl (cI, 16384, .inl (fun _ => 0)))] H := hP
  have hD : va_D A [(q586, .inr (18, [.int 0, .int 0, .int 0, .int 1, .int 1, .ref z589, .ref z590, .ref z591, .int 0, .ref z592, .int (-1), .int 0, .ref z593, .ref z594, .int (-1), .int 0, .ref z595, .int (-1), .int 15, .ref z596, .ref z597, .ref z598])), (z589, .inl (cI, 65536, .inl (fun _ => 0))), (z590, .inl (cI, 16384, .inl (fun _ => 0))), (z591, .inl (cI, 16384, .inl (fun _ => 0)))] := hD
  refine W.widen (k := 0) (n := 0) (by omega) (by omega) ?_
  refine lv_if_eq (tgt := 46) hx hb d_Ptm_frame_32 (by decide) (fun c_1263 => absurd c_1263 (by decide)) (fun c_1263 => ?_)
  refine lv_iload_n hx hb d_Ptm_frame_35 rfl (lv_at hl 2 rfl) ?_
  refine lv_iconst (v := 0) hx hb d_Ptm_frame_36 (by decide) ?_
  refine lv_sipush (v := 1023) hx hb d_Ptm_frame_37 (by decide) ?_
  refine wc_i (wr := [(q586, .inr (18, [.int 0, .int 0, .int 0, .int 1, .int 1, .ref z589, .ref z590, .ref z591, .int 0, .ref z592, .int (-1), .int 0, .ref z593, .ref z594, .int (-1), .int 0, .ref z595, .int (-1), .int 15, .ref z596, .ref z597, .ref z598])), (z589, .inl (cI, 65536, .inl (fun _ => 0))), (z590, .inl (cI, 16384, .inl (fun _ => 0))), (z591, .inl (cI, 16384, .inl (fun _ => 0)))]) hC hP hD hS [] [0, 1, 2, 3] rfl rfl (by decide) (by decide) (va_runS (As := [.int 0, .int 0, .int 1023]) (rest := [.ref q586]) ⟨hx, hb, hml, hown, htw⟩ (c_Ptm_in_t l D cI cL B _ 0 0 1023 (by decide) (by decide)) (va_cwS 3 htw gS_Ptm_63 rfl rfl rfl (by decide +kernel) ⟨Nat.le_of_ble_eq_true rfl, Nat.le_of_ble_eq_true rfl⟩) (wC_pre hC hP hD hS [] (by decide) rfl) rfl rfl hl.1 rfl (lv_room (Nat.le_of_ble_eq_true rfl)) d_Ptm_frame_40 ⟨Nat.le_of_ble_eq_true rfl, Nat.le_of_ble_eq_true rfl⟩) (fun r1266 u1264 H locs hw1265 hP hD hS => ?_)
  obtain rfl : r1266 = 1 := hw1265
  have hP : va_P D classes [(q586, .inr (18, [.int 0, .int 0, .int 0, .int 1, .int 1, .ref z589, .ref z590, .ref z591, .int 0, .ref z592, .int (-1), .int 0, .ref z593, .ref z594, .int (-1), .int 0, .ref z595, .int (-1), .int 15, .ref z596, .ref z597, .ref z598])), (z589, .inl (cI, 65536, .inl (fun _ => 0))), (z590, .inl (cI, 16384, .inl (fun _ => 0))), (z591, .inl (cI, 16384, .inl (fun _ => 0)))] H := hP
  have hD : va_D A [(q586, .inr (18, [.int 0, .int 0, .int 0, .int 1, .int 1, .ref z589, .ref z590, .ref z591, .int 0, .ref z592, .int (-1), .int 0, .ref z593, .ref z594, .int (-1), .int 0, .ref z595, .int (-1), .int 15, .ref z596, .ref z597, .ref z598])), (z589, .inl (cI, 65536, .inl (fun _ => 0))), (z590, .inl (cI, 16384, .inl (fun _ => 0))), (z591, .inl (cI, 16384, .inl (fun _ => 0)))] := hD
  refine W.widen (k := 0) (n := 0) (by omega) (by omega) ?_
  refine lv_if_ne (tgt := 50) hx hb d_Ptm_frame_43 (by decide) (fun c_1267 => ?_) (fun c_1267 => absurd c_1267 (by decide))
  refine lv_iconst (v := 0) hx hb d_Ptm_frame_50 (by decide) ?_
  refine lv_iconst (v := 0) hx hb d_Ptm_frame_51 (by decide) ?_
  refine wc_i (wr := [(z589, .inl (cI, 65536, .inl (fun _ => 0))), (z590, .inl (cI, 16384, .inl (fun _ => 0))), (z591, .inl (cI, 16384, .inl (fun _ => 0)))]) hC hP hD hS [0] [1, 2, 3] rfl rfl (by decide) (by decide) (va_runV (As := [.int 0, .int 0]) (rest := []) ⟨hx, hb, hml, hown, htw⟩ (c_Pref_00 l D cI cL B _ q586 z589 z590 z591 z592 z593 z594 z595 z596 z597 z598) (cwV 2 htw gV_Ptm_67 rfl rfl rfl (by decide +kernel) ⟨Nat.le_of_ble_eq_true rfl, Nat.le_of_ble_eq_true rfl⟩) (wC_preV (As := [.int 0, .int 0]) hC hP hD hS [0] (by decide) rfl (q0 := 0) rfl rfl) rfl rfl hl.1 rfl (lv_room (Nat.le_of_ble_eq_true rfl)) d_Ptm_frame_52 ⟨Nat.le_of_ble_eq_true rfl, Nat.le_of_ble_eq_true rfl⟩) (fun r1270 u1268 H locs hw1269 hP hD hS => ?_)
  obtain rfl : r1270 = 0 := hw1269
  have hP : va_P D classes [(z589, .inl (cI, 65536, .inl (fun _ => 0))), (z590, .inl (cI, 16384, .inl (fun _ => 0))), (z591, .inl (cI, 16384, .inl (fun _ => 0))), (q586, .inr (18, [.int 0, .int 0, .int 0, .int 1, .int 1, .ref z589, .ref z590, .ref z591, .int 0, .ref z592, .int (-1), .int 0, .ref z593, .ref z594, .int (-1), .int 0, .ref z595, .int (-1), .int 15, .ref z596, .ref z597, .ref z598]))] H := hP
  have hD : va_D A [(z589, .inl (cI, 65536, .inl (fun _ => 0))), (z590, .inl (cI, 16384, .inl (fun _ => 0))), (z591, .inl (cI, 16384, .inl (fun _ => 0))), (q586, .inr (18, [.int 0, .int 0, .int 0, .int 1, .int 1, .ref z589, .ref z590, .ref z591, .int 0, .ref z592, .int (-1), .int 0, .ref z593, .ref z594, .int (-1), .int 0, .ref z595, .int (-1), .int 15, .ref z596, .ref z597, .ref z598]))] := hD
  refine W.widen (k := 0) (n := 0) (by omega) (by omega) ?_
  refine lv_if_eq (tgt := 59) hx hb d_Ptm_frame_55 (by decide) (fun c_1271 => ?_) (fun c_1271 => absurd c_1271 (by decide))
  refine lv_aload_n hx hb d_Ptm_frame_59 rfl (lv_at hl 0 rfl) ?_
  refine lv_iload_n hx hb d_Ptm_frame_60 rfl (lv_at hl 1 rfl) ?_
  refine va_put (D := D) (ci := 18) (v := .int 0) (ty := .int) (C := R_Ptm) (T := F_Ptm) (N := 22) hx hb htw i_Ptm t_Ptm t_Ptm_ok n_Ptm hown hC.1 hP hD hS 3 rfl rfl 1 (by decide) (htw _ k750) (fun _ h9 => h9) rfl (by decide +kernel) rfl rfl (Nat.le_of_ble_eq_true rfl) d_Ptm_frame_61 (fun H locs hP hD hS => ?_)
  have hP : va_P D classes [(z589, .inl (cI, 65536, .inl (fun _ => 0))), (z590, .inl (cI, 16384, .inl (fun _ => 0))), (z591, .inl (cI, 16384, .inl (fun _ => 0))), (q586, .inr (18, [.int 0, .int 0, .int 0, .int 1, .int 1, .ref z589, .ref z590, .ref z591, .int 0, .ref z592, .int (-1), .int 0, .ref z593, .ref z594, .int (-1), .int 0, .ref z595, .int (-1), .int 15, .ref z596, .ref z597, .ref z598]))] H := hP
  have hD : va_D A [(z589, .inl (cI, 65536, .inl (fun _ => 0))), (z590, .inl (cI, 16384, .inl (fun _ => 0))), (z591, .inl (cI, 16384, .inl (fun _ => 0))), (q586, .inr (18, [.int 0, .int 0, .int 0, .int 1, .int 1, .ref z589, .ref z590, .ref z591, .int 0, .ref z592, .int (-1), .int 0, .ref z593, .ref z594, .int (-1), .int 0, .ref z595, .int (-1), .int 15, .ref z596, .ref z597, .ref z598]))] := hD
  refine lv_aload_n hx hb d_Ptm_frame_64 rfl (lv_at hl 0 rfl) ?_
  refine lv_iload_n hx hb d_Ptm_frame_65 rfl (lv_at hl 2 rfl) ?_
  refine va_put (D := D) (ci := 18) (v := .int 0) (ty := .int) (C := R_Ptm) (T := F_Ptm) (N := 22) hx hb htw i_Ptm t_Ptm t_Ptm_ok n_Ptm hown hC.1 hP hD hS 3 rfl rfl 2 (by decide) (htw _ k751) (fun _ h9 => h9) rfl (by decide +kernel) rfl rfl (Nat.le_of_ble_eq_true rfl) d_Ptm_frame_66 (fun H locs hP hD hS => ?_)
  have hP : va_P D classes [(z589, .inl (cI, 65536, .inl (fun _ => 0))), (z590, .inl (cI, 16384, .inl (fun _ => 0))), (z591, .inl (cI, 16384, .inl (fun _ => 0))), (q586, .inr (18, [.int 0, .int 0, .int 0, .int 1, .int 1, .ref z589, .ref z590, .ref z591, .int 0, .ref z592, .int (-1), .int 0, .ref z593, .ref z594, .int (-1), .int 0, .ref z595, .int (-1), .int 15, .ref z596, .ref z597, .ref z598]))] H := hP
  have hD : va_D A [(z589, .inl (cI, 65536, .inl (fun _ => 0))), (z590, .inl (cI, 16384, .inl (fun _ => 0))), (z591, .inl (cI, 16384, .inl (fun _ => 0))), (q586, .inr (18, [.int 0, .int 0, .int 0, .int 1, .int 1, .ref z589, .ref z590, .ref z591, .int 0, .ref z592, .int (-1), .int 0, .ref z593, .ref z594, .int (-1), .int 0, .ref z595, .int (-1), .int 15, .ref z596, .ref z597, .ref z598]))] := hD
  refine lv_aload_n hx hb d_Ptm_frame_69 rfl (lv_at hl 0 rfl) ?_
  refine lv_iload_n hx hb d_Ptm_frame_70 rfl (lv_at hl 3 rfl) ?_
  refine va_put (D := D) (ci := 18) (v := .int w) (ty := .int) (C := R_Ptm) (T := F_Ptm) (N := 22) hx hb htw i_Ptm t_Ptm t_Ptm_ok n_Ptm hown hC.1 hP hD hS 3 rfl rfl 3 (by decide) (htw _ k608) (fun _ h9 => h9) rfl (by decide +kernel) rfl rfl (Nat.le_of_ble_eq_true rfl) d_Ptm_frame_71 (fun H locs hP hD hS => ?_)
  have hP : va_P D classes [(z589, .inl (cI, 65536, .inl (fun _ => 0))), (z590, .inl (cI, 16384, .inl (fun _ => 0))), (z591, .inl (cI, 16384, .inl (fun _ => 0))), (q586, .inr (18, [.int 0, .int 0, .int 0, .int w, .int 1, .ref z589, .ref z590, .ref z591, .int 0, .ref z592, .int (-1), .int 0, .ref z593, .ref z594, .int (-1), .int 0, .ref z595, .int (-1), .int 15, .ref z596, .ref z597, .ref z598]))] H := hP
  have hD : va_D A [(z589, .inl (cI, 65536, .inl (fun _ => 0))), (z590, .inl (cI, 16384, .inl (fun _ => 0))), (z591, .inl (cI, 16384, .inl (fun _ => 0))), (q586, .inr (18, [.int 0, .int 0, .int 0, .int w, .int 1, .ref z589, .ref z590, .ref z591, .int 0, .ref z592, .int (-1), .int 0, .ref z593, .ref z594, .int (-1), .int 0, .ref z595, .int (-1), .int 15, .ref z596, .ref z597, .ref z598]))] := hD
  refine lv_aload_n hx hb d_Ptm_frame_74 rfl (lv_at hl 0 rfl) ?_
  refine lv_iload hx hb d_Ptm_frame_75 (lv_at hl 4 rfl) ?_
  refine va_put (D := D) (ci := 18) (v := .int h) (ty := .int) (C := R_Ptm) (T := F_Ptm) (N := 22) hx hb htw i_Ptm t_Ptm t_Ptm_ok n_Ptm hown hC.1 hP hD hS 3 rfl rfl 4 (by decide) (htw _ k609) (fun _ h9 => h9) rfl (by decide +kernel) rfl rfl (Nat.le_of_ble_eq_true rfl) d_Ptm_frame_77 (fun H locs hP hD hS => ?_)
  have hP : va_P D classes [(z589, .inl (cI, 65536, .inl (fun _ => 0))), (z590, .inl (cI, 16384, .inl (fun _ => 0))), (z591, .inl (cI, 16384, .inl (fun _ => 0))), (q586, .inr (18, [.int 0, .int 0, .int 0, .int w, .int h, .ref z589, .ref z590, .ref z591, .int 0, .ref z592, .int (-1), .int 0, .ref z593, .ref z594, .int (-1), .int 0, .ref z595, .int (-1), .int 15, .ref z596, .ref z597, .ref z598]))] H := hP
  have hD : va_D A [(z589, .inl (cI, 65536, .inl (fun _ => 0))), (z590, .inl (cI, 16384, .inl (fun _ => 0))), (z591, .inl (cI, 16384, .inl (fun _ => 0))), (q586, .inr (18, [.int 0, .int 0, .int 0, .int w, .int h, .ref z589, .ref z590, .ref z591, .int 0, .ref z592, .int (-1), .int 0, .ref z593, .ref z594, .int (-1), .int 0, .ref z595, .int (-1), .int 15, .ref z596, .ref z597, .ref z598]))] := hD
  refine lv_iconst (v := 0) hx hb d_Ptm_frame_80 (by decide) ?_
  refine lv_istore (lv' := [(5, .int 0), (0, .ref q586), (1, .int 0), (2, .int 0), (3, .int w), (4, .int h)]) hx hb d_Ptm_frame_81 hl (by decide) rfl (fun ls hl => ?_)
  refine lp_Pframe_83 D cI cL B q586 z589 z590 z591 z592 z593 z594 z595 z596 z597 z598 w h 0 0 hx hb hml hown htw hC (Nat.le_of_ble_eq_true rfl) (Nat.le_of_ble_eq_true rfl) (Nat.le_of_ble_eq_true rfl) (Nat.le_of_ble_eq_true rfl) (by omega) (fun f1278 f1279 H locs ls hP hD hS hl => ?_) 16384 0 (fun _ => 0) (fun _ => 0) (Nat.zero_add _) _ _ _ hP hD hS (lv_sub hl [0, 1, 2, 3, 4, 5] rfl)
  refine lv_iconst (v := 0) hx hb d_Ptm_frame_113 (by decide) ?_
  refine lv_istore (lv' := [(5, .int 0), (0, .ref q586), (1, .int 0), (2, .int 0), (3, .int w), (4, .int h)]) hx hb d_Ptm_frame_114 hl (by decide) rfl (fun ls hl => ?_)
  refine lp_Pframe_116 D cI cL B q586 z589 z590 z591 z592 z593 z594 z595 z596 z597 z598 w h f1278 f1279 0 0 hx hb hml hown htw hC (Nat.le_of_ble_eq_true rfl) (Nat.le_of_ble_eq_true rfl) (Nat.le_of_ble_eq_true rfl) (Nat.le_of_ble_eq_true rfl) (by omega) (fun f1284 H locs ls hP hD hS hl => ?_) 65536 0 (fun _ => 0) (Nat.zero_add _) _ _ _ hP hD hS (lv_sub hl [0, 1, 2, 3, 4, 5] rfl)
  refine W.widen (k := 0) (n := 0) (Nat.le_of_ble_eq_true rfl) (Nat.le_of_ble_eq_true rfl) ?_
  have hP9 := hP.sub (ws' := []) [] rfl
  have hD9 := hD.sub (ws' := []) [] (by decide) rfl
  exact W.vret hx hb hr (fun t ht hW => ⟨⟨(), rfl, trivial, by rw [ht]; exact hP9, va_K.moved hW.alike hC.1, hD9⟩, hS.F ht⟩) hS.2.2 d_Ptm_frame_137

theorem d_Mod_frame_0 : decode prog_14_method_5_code 0 = .ok (.iload_n 1, 1) := by decide +kernel
theorem d_Mod_frame_1 : decode prog_14_method_5_code 1 = .ok (.i2l, 1) := by decide +kernel
theorem d_Mod_frame_2 : decode prog_14_method_5_code 2 = .ok (.lconst 1, 1) := by decide +kernel
theorem d_Mod_frame_3 : decode prog_14_method_5_code 3 = .ok (.ldc2_w 88, 3) := by decide +kernel
theorem d_Mod_frame_6 : decode prog_14_method_5_code 6 = .ok (.invokestatic 90, 3) := by decide +kernel
theorem d_Mod_frame_9 : decode prog_14_method_5_code 9 = .ok (.ifCond .eq 43, 3) := by decide +kernel
theorem d_Mod_frame_12 : decode prog_14_method_5_code 12 = .ok (.iload_n 2, 1) := by decide +kernel
theorem d_Mod_frame_13 : decode prog_14_method_5_code 13 = .ok (.i2l, 1) := by decide +kernel
theorem d_Mod_frame_14 : decode prog_14_method_5_code 14 = .ok (.lconst 1, 1) := by decide +kernel
theorem d_Mod_frame_15 : decode prog_14_method_5_code 15 = .ok (.ldc2_w 88, 3) := by decide +kernel
theorem d_Mod_frame_18 : decode prog_14_method_5_code 18 = .ok (.invokestatic 90, 3) := by decide +kernel
theorem d_Mod_frame_21 : decode prog_14_method_5_code 21 = .ok (.ifCond .eq 31, 3) := by decide +kernel
theorem d_Mod_frame_24 : decode prog_14_method_5_code 24 = .ok (.iload_n 3, 1) := by decide +kernel
theorem d_Mod_frame_25 : decode prog_14_method_5_code 25 = .ok (.bipush 8, 2) := by decide +kernel
theorem d_Mod_frame_27 : decode prog_14_method_5_code 27 = .ok (.if_icmp .eq 21, 3) := by decide +kernel
theorem d_Mod_frame_30 : decode prog_14_method_5_code 30 = .ok (.iload_n 3, 1) := by decide +kernel
theorem d_Mod_frame_31 : decode prog_14_method_5_code 31 = .ok (.bipush 16, 2) := by decide +kernel
theorem d_Mod_frame_33 : decode prog_14_method_5_code 33 = .ok (.if_icmp .eq 15, 3) := by decide +kernel
theorem d_Mod_frame_36 : decode prog_14_method_5_code 36 = .ok (.iload_n 3, 1) := by decide +kernel
theorem d_Mod_frame_37 : decode prog_14_method_5_code 37 = .ok (.bipush 32, 2) := by decide +kernel
theorem d_Mod_frame_39 : decode prog_14_method_5_code 39 = .ok (.if_icmp .eq 9, 3) := by decide +kernel
theorem d_Mod_frame_42 : decode prog_14_method_5_code 42 = .ok (.iload_n 3, 1) := by decide +kernel
theorem d_Mod_frame_43 : decode prog_14_method_5_code 43 = .ok (.bipush 64, 2) := by decide +kernel
theorem d_Mod_frame_45 : decode prog_14_method_5_code 45 = .ok (.if_icmp .ne 7, 3) := by decide +kernel
theorem d_Mod_frame_48 : decode prog_14_method_5_code 48 = .ok (.iconst 1, 1) := by decide +kernel
theorem d_Mod_frame_49 : decode prog_14_method_5_code 49 = .ok (.goto 4, 3) := by decide +kernel
theorem d_Mod_frame_53 : decode prog_14_method_5_code 53 = .ok (.istore 4, 2) := by decide +kernel
theorem d_Mod_frame_55 : decode prog_14_method_5_code 55 = .ok (.aload_n 0, 1) := by decide +kernel
theorem d_Mod_frame_56 : decode prog_14_method_5_code 56 = .ok (.iload 4, 2) := by decide +kernel
theorem d_Mod_frame_58 : decode prog_14_method_5_code 58 = .ok (.ifCond .ne 7, 3) := by decide +kernel
theorem d_Mod_frame_65 : decode prog_14_method_5_code 65 = .ok (.iconst 0, 1) := by decide +kernel
theorem d_Mod_frame_66 : decode prog_14_method_5_code 66 = .ok (.iconst 0, 1) := by decide +kernel
theorem d_Mod_frame_67 : decode prog_14_method_5_code 67 = .ok (.invokevirtual 94, 3) := by decide +kernel
theorem d_Mod_frame_70 : decode prog_14_method_5_code 70 = .ok (.ifCond .eq 5, 3) := by decide +kernel
theorem d_Mod_frame_75 : decode prog_14_method_5_code 75 = .ok (.aload_n 0, 1) := by decide +kernel
theorem d_Mod_frame_76 : decode prog_14_method_5_code 76 = .ok (.iload_n 1, 1) := by decide +kernel
theorem d_Mod_frame_77 : decode prog_14_method_5_code 77 = .ok (.putfield 7, 3) := by decide +kernel
theorem d_Mod_frame_80 : decode prog_14_method_5_code 80 = .ok (.aload_n 0, 1) := by decide +kernel
theorem d_Mod_frame_81 : decode prog_14_method_5_code 81 = .ok (.iload_n 2, 1) := by decide +kernel
theorem d_Mod_frame_82 : decode prog_14_method_5_code 82 = .ok (.putfield 13, 3) := by decide +kernel
theorem d_Mod_frame_85 : decode prog_14_method_5_code 85 = .ok (.aload_n 0, 1) := by decide +kernel
theorem d_Mod_frame_86 : decode prog_14_method_5_code 86 = .ok (.getfield 19, 3) := by decide +kernel
theorem d_Mod_frame_89 : decode prog_14_method_5_code 89 = .ok (.iload_n 1, 1) := by decide +kernel
theorem d_Mod_frame_90 : decode prog_14_method_5_code 90 = .ok (.iload_n 2, 1) := by decide +kernel
theorem d_Mod_frame_91 : decode prog_14_method_5_code 91 = .ok (.invokevirtual 98, 3) := by decide +kernel
theorem d_Mod_frame_94 : decode prog_14_method_5_code 94 = .ok (.aload_n 0, 1) := by decide +kernel
theorem d_Mod_frame_95 : decode prog_14_method_5_code 95 = .ok (.getfield 65, 3) := by decide +kernel
theorem d_Mod_frame_98 : decode prog_14_method_5_code 98 = .ok (.iconst 0, 1) := by decide +kernel
theorem d_Mod_frame_99 : decode prog_14_method_5_code 99 = .ok (.iconst 0, 1) := by decide +kernel
theorem d_Mod_frame_100 : decode prog_14_method_5_code 100 = .ok (.iload_n 1, 1) := by decide +kernel
theorem d_Mod_frame_101 : decode prog_14_method_5_code 101 = .ok (.iload_n 2, 1) := by decide +kernel
theorem d_Mod_frame_102 : decode prog_14_method_5_code 102 = .ok (.invokevirtual 102, 3) := by decide +kernel
theorem d_Mod_frame_105 : decode prog_14_method_5_code 105 = .ok (.iload_n 1, 1) := by decide +kernel
theorem d_Mod_frame_106 : decode prog_14_method_5_code 106 = .ok (.iload_n 3, 1) := by decide +kernel
theorem d_Mod_frame_107 : decode prog_14_method_5_code 107 = .ok (.iadd, 1) := by decide +kernel
theorem d_Mod_frame_108 : decode prog_14_method_5_code 108 = .ok (.iconst 1, 1) := by decide +kernel
theorem d_Mod_frame_109 : decode prog_14_method_5_code 109 = .ok (.isub, 1) := by decide +kernel
theorem d_Mod_frame_110 : decode prog_14_method_5_code 110 = .ok (.iload_n 3, 1) := by decide +kernel
theorem d_Mod_frame_111 : decode prog_14_method_5_code 111 = .ok (.idiv, 1) := by decide +kernel
theorem d_Mod_frame_112 : decode prog_14_method_5_code 112 = .ok (.iload_n 2, 1) := by decide +kernel
theorem d_Mod_frame_113 : decode prog_14_method_5_code 113 = .ok (.iload_n 3, 1) := by decide +kernel
theorem d_Mod_frame_114 : decode prog_14_method_5_code 114 = .ok (.iadd, 1) := by decide +kernel
theorem d_Mod_frame_115 : decode prog_14_method_5_code 115 = .ok (.iconst 1, 1) := by decide +kernel
theorem d_Mod_frame_116 : decode prog_14_method_5_code 116 = .ok (.isub, 1) := by decide +kernel
theorem d_Mod_frame_117 : decode prog_14_method_5_code 117 = .ok (.iload_n 3, 1) := by decide +kernel
theorem d_Mod_frame_118 : decode prog_14_method_5_code 118 = .ok (.idiv, 1) := by decide +kernel
theorem d_Mod_frame_119 : decode prog_14_method_5_code 119 = .ok (.imul, 1) := by decide +kernel
theorem d_Mod_frame_120 : decode prog_14_method_5_code 120 = .ok (.ireturn, 1) := by decide +kernel
theorem gV_Mod_98 : GoodIn tw (wsV "DrawingMachineModel" 98 "DrawingMachineModel$DrawCommandsModel" y_Cmd_frame ((Cond.code y_Cmd_frame prog_15_method_14_code 3 none) :: tw)) := tw_pre (fun _ h => h) (tw_good (fun _ h => h) k638) (List.forall_mem_cons.mpr ⟨k635, List.forall_mem_cons.mpr ⟨k636, List.forall_mem_cons.mpr ⟨k637, List.forall_mem_cons.mpr ⟨k137, fun _ h => absurd h List.not_mem_nil⟩⟩⟩⟩)
theorem gV_Mod_102 : GoodIn tw (wsV "DrawingMachineModel" 102 "DrawingMachineModel$PlaceTestsModel" y_Ptm_frame ((Cond.code y_Ptm_frame prog_17_method_4_code 6 none) :: tw)) := tw_pre (fun _ h => h) (tw_good (fun _ h => h) k642) (List.forall_mem_cons.mpr ⟨k639, List.forall_mem_cons.mpr ⟨k640, List.forall_mem_cons.mpr ⟨k641, List.forall_mem_cons.mpr ⟨k213, fun _ h => absurd h List.not_mem_nil⟩⟩⟩⟩)
set_option maxHeartbeats 4000000 in
set_option maxRecDepth 100000 in
theorem c_Mframe_g (l : Launch) (D : va_G) (cI cL : ClassId) (B sz : Nat) (h0 : Nat) (q562 : Nat) (z565 : Nat) (z566 : Nat) (z567 : Nat) (z568 : Nat) (z569 : Nat) (q571 : Nat) (q574 : Nat) (q577 : Nat) (q580 : Nat) (q583 : Nat) (q586 : Nat) (z589 : Nat) (z590 : Nat) (z591 : Nat) (z592 : Nat) (z593 : Nat) (z594 : Nat) (z595 : Nat) (z596 : Nat) (z597 : Nat) (z598 : Nat) (q599 : Nat) (q600 : Nat) (q601 : Nat) (q602 : Nat) (w : Int32) (h : Int32) (sd : Int32) (h1 : ¬ w < 1) (h2 : ¬ 128 < w) (h3 : ¬ h < 1) (h4 : ¬ 128 < h) (hs : sd = 8 ∨ sd = 16 ∨ sd = 32 ∨ sd = 64) : Met l y_Mod_frame ((Cond.code y_Mod_frame prog_14_method_5_code 5 (some .int)) :: tw) ({ frames := 50, cells := 0, slots := 0, locals := 5000 }) (va_Pc [.ref h0, .int w, .int h, .int sd] (wP D cI cL B sz [(h0, .inr (12, [.int 0, .int 1, .int 1, .ref q562, .ref q571, .ref q574, .ref q577, .ref q580, .ref q583, .ref q586, .int 0, .int (-1), .int 0, .int 0, .long 0, .ref q599, .ref q600, .ref q601, .ref q602])), (q562, .inr (13, [.int 0, .ref z565, .int 1, .int 1, .ref z566, .int 0, .int 0, .int 0, .ref z567, .int 0, .int 0, .int (-1), .int (-1), .int 0, .int (-1), .int 0, .ref z568, .ref z569])), (q586, .inr (18, [.int 0, .int 0, .int 0, .int 1, .int 1, .ref z589, .ref z590, .ref z591, .int 0, .ref z592, .int (-1), .int 0, .ref z593, .ref z594, .int (-1), .int 0, .ref z595, .int (-1), .int 15, .ref z596, .ref z597, .ref z598])), (z589, .inl (cI, 65536, .inl (fun _ => 0))), (z590, .inl (cI, 16384, .inl (fun _ => 0))), (z591, .inl (cI, 16384, .inl (fun _ => 0)))])) (va_Qi (S := Unit) (fun r u => r = ((((w + sd) - 1) / sd) * (((h + sd) - 1) / sd))) (fun u => wB D cI cL (va_A [(h0, .inr (12, [.int 0, .int 1, .int 1, .ref q562, .ref q571, .ref q574, .ref q577, .ref q580, .ref q583, .ref q586, .int 0, .int (-1), .int 0, .int 0, .long 0, .ref q599, .ref q600, .ref q601, .ref q602])), (q562, .inr (13, [.int 0, .ref z565, .int 1, .int 1, .ref z566, .int 0, .int 0, .int 0, .ref z567, .int 0, .int 0, .int (-1), .int (-1), .int 0, .int (-1), .int 0, .ref z568, .ref z569])), (q586, .inr (18, [.int 0, .int 0, .int 0, .int 1, .int 1, .ref z589, .ref z590, .ref z591, .int 0, .ref z592, .int (-1), .int 0, .ref z593, .ref z594, .int (-1), .int 0, .ref z595, .int (-1), .int 15, .ref z596, .ref z597, .ref z598])), (z589, .inl (cI, 65536, .inl (fun _ => 0))), (z590, .inl (cI, 16384, .inl (fun _ => 0))), (z591, .inl (cI, 16384, .inl (fun _ => 0)))] sz) ((fun _ : Unit => [(h0, .inr (12, [.int 0, .int w, .int h, .ref q562, .ref q571, .ref q574, .ref q577, .ref q580, .ref q583, .ref q586, .int 0, .int (-1), .int 0, .int 0, .long 0, .ref q599, .ref q600, .ref q601, .ref q602]))]) u)) (va_A [(h0, .inr (12, [.int 0, .int 1, .int 1, .ref q562, .ref q571, .ref q574, .ref q577, .ref q580, .ref q583, .ref q586, .int 0, .int (-1), .int 0, .int 0, .long 0, .ref q599, .ref q600, .ref q601, .ref q602])), (q562, .inr (13, [.int 0, .ref z565, .int 1, .int 1, .ref z566, .int 0, .int 0, .int 0, .ref z567, .int 0, .int 0, .int (-1), .int (-1), .int 0, .int (-1), .int 0, .ref z568, .ref z569])), (q586, .inr (18, [.int 0, .int 0, .int 0, .int 1, .int 1, .ref z589, .ref z590, .ref z591, .int 0, .ref z592, .int (-1), .int 0, .ref z593, .ref z594, .int (-1), .int 0, .ref z595, .int (-1), .int 15, .ref z596, .ref z597, .ref z598])), (z589, .inl (cI, 65536, .inl (fun _ => 0))), (z590, .inl (cI, 16384, .inl (fun _ => 0))), (z591, .inl (cI, 16384, .inl (fun _ => 0)))] sz)) 0 0 (va_A [(h0, .inr (12, [.int 0, .int 1, .int 1, .ref q562, .ref q571, .ref q574, .ref q577, .ref q580, .ref q583, .ref q586, .int 0, .int (-1), .int 0, .int 0, .long 0, .ref q599, .ref q600, .ref q601, .ref q602])), (q562, .inr (13, [.int 0, .ref z565, .int 1, .int 1, .ref z566, .int 0, .int 0, .int 0, .ref z567, .int 0, .int 0, .int (-1), .int (-1), .int 0, .int (-1), .int 0, .ref z568, .ref z569])), (q586, .inr (18, [.int 0, .int 0, .int 0, .int 1, .int 1, .ref z589, .ref z590, .ref z591, .int 0, .ref z592, .int (-1), .int 0, .ref z593, .ref z594, .int (-1), .int 0, .ref z595, .int (-1), .int 15, .ref z596, .ref z597, .ref z598])), (z589, .inl (cI, 65536, .inl (fun _ => 0))), (z590, .inl (cI, 16384, .inl (fun _ => 0))), (z591, .inl (cI, 16384, .inl (fun _ => 0)))] sz) := by
  refine Met.ofW (cc := prog_14_method_5_code) (maxL := 5) (ret := (some .int)) (by decide) rfl ?_
  intro p e s m args below meth c s₁ B0 hml hv
  obtain ⟨rfl, hv⟩ := hv
  have hx := B0.exec
  have hb := B0.bytes
  have hr := B0.returns
  have hts := atoms_spec (ws := (Cond.code y_Mod_frame prog_14_method_5_code 5 (some .int)) :: tw) B0.pre
  have htw : ∀ w ∈ tw, w.before _ s = true := fun w hw => hts w (List.mem_cons_of_mem _ hw)
  have hown : s.vm.findClass "DrawingMachineModel" = some m.cls := findClass_of_methodNamed B0.named
  have hlocks := B0.notSynchronized
  obtain ⟨hC, hP, hD, hsz⟩ := wC_init hv
  subst hsz
  generalize hAe : va_A [(h0, .inr (12, [.int 0, .int 1, .int 1, .ref q562, .ref q571, .ref q574, .ref q577, .ref q580, .ref q583, .ref q586, .int 0, .int (-1), .int 0, .int 0, .long 0, .ref q599, .ref q600, .ref q601, .ref q602])), (q562, .inr (13, [.int 0, .ref z565, .int 1, .int 1, .ref z566, .int 0, .int 0, .int 0, .ref z567, .int 0, .int 0, .int (-1), .int (-1), .int 0, .int (-1), .int 0, .ref z568, .ref z569])), (q586, .inr (18, [.int 0, .int 0, .int 0, .int 1, .int 1, .ref z589, .ref z590, .ref z591, .int 0, .ref z592, .int (-1), .int 0, .ref z593, .ref z594, .int (-1), .int 0, .ref z595, .int (-1), .int 15, .ref z596, .ref z597, .ref z598])), (z589, .inl (cI, 65536, .inl (fun _ => 0))), (z590, .inl (cI, 16384, .inl (fun _ => 0))), (z591, .inl (cI, 16384, .inl (fun _ => 0)))] s.heap.size = A at hC hD ⊢
  have hS : va_S A s.heap s.heap [] := va_S.rf
  have hl := lv_entry ([.ref h0, .int w, .int h, .int sd]) (n := 5) (Nat.le_of_ble_eq_true rfl)
  rw [lg_entry_eq]
  generalize (lg_sl ([.ref h0, .int w, .int h, .int sd]) ++ List.replicate (5 - (lg_sl ([.ref h0, .int w, .int h, .int sd])).length) Slot.unset).toArray = ls at hl ⊢
  have hl : lv_has ls 5 [(0, .ref h0), (1, .int w), (2, .int h), (3, .int sd)] := hl
  refine lv_iload_n hx hb d_Mod_frame_0 rfl (lv_at hl 1 rfl) ?_
  refine lv_i2l (v := w.toInt64) hx hb d_Mod_frame_1 rfl ?_
  refine lv_lconst (v := 1) hx hb d_Mod_frame_2 (by decide) ?_
  refine lv_ldc2 (v := 128) hx hb hown (htw _ k630) d_Mod_frame_3 ?_
  refine wc_i (wr := [(h0, .inr (12, [.int 0, .int 1, .int 1, .ref q562, .ref q571, .ref q574, .ref q577, .ref q580, .ref q583, .ref q586, .int 0, .int (-1), .int 0, .int 0, .long 0, .ref q599, .ref q600, .ref q601, .ref q602])), (q562, .inr (13, [.int 0, .ref z565, .int 1, .int 1, .ref z566, .int 0, .int 0, .int 0, .ref z567, .int 0, .int 0, .int (-1), .int (-1), .int 0, .int (-1), .int 0, .ref z568, .ref z569])), (q586, .inr (18, [.int 0, .int 0, .int 0, .int 1, .int 1, .ref z589, .ref z590, .ref z591, .int 0, .ref z592, .int (-1), .int 0, .ref z593, .ref z594, .int (-1), .int 0, .ref z595, .int (-1), .int 15, .ref z596, .ref z597, .ref z598])), (z589, .inl (cI, 65536, .inl (fun _ => 0))), (z590, .inl (cI, 16384, .inl (fun _ => 0))), (z591, .inl (cI, 16384, .inl (fun _ => 0)))]) hC hP hD hS [] [0, 1, 2, 3, 4, 5] rfl rfl (by decide) (by decide) (va_runS (As := [.long w.toInt64, .long 1, .long 128]) (rest := []) ⟨hx, hb, hml, hown, htw⟩ (c_Mod_in_t l D cI cL B _ w.toInt64 1 128 (good_lo 1 (by decide) h1) (good_hi 128 (by decide) h2)) (va_cwS 3 htw gS_Mod_90 rfl rfl rfl (by decide +kernel) ⟨Nat.le_of_ble_eq_true rfl, Nat.le_of_ble_eq_true rfl⟩) (wC_pre hC hP hD hS [] (by decide) rfl) rfl rfl hl.1 rfl (lv_room (Nat.le_of_ble_eq_true rfl)) d_Mod_frame_6 ⟨Nat.le_of_ble_eq_true rfl, Nat.le_of_ble_eq_true rfl⟩) (fun r1287 u1285 H locs hw1286 hP hD hS => ?_)
  obtain rfl : r1287 = 1 := hw1286
  have hP : va_P D classes [(h0, .inr (12, [.int 0, .int 1, .int 1, .ref q562, .ref q571, .ref q574, .ref q577, .ref q580, .ref q583, .ref q586, .int 0, .int (-1), .int 0, .int 0, .long 0, .ref q599, .ref q600, .ref q601, .ref q602])), (q562, .inr (13, [.int 0, .ref z565, .int 1, .int 1, .ref z566, .int 0, .int 0, .int 0, .ref z567, .int 0, .int 0, .int (-1), .int (-1), .int 0, .int (-1), .int 0, .ref z568, .ref z569])), (q586, .inr (18, [.int 0, .int 0, .int 0, .int 1, .int 1, .ref z589, .ref z590, .ref z591, .int 0, .ref z592, .int (-1), .int 0, .ref z593, .ref z594, .int (-1), .int 0, .ref z595, .int (-1), .int 15, .ref z596, .ref z597, .ref z598])), (z589, .inl (cI, 65536, .inl (fun _ => 0))), (z590, .inl (cI, 16384, .inl (fun _ => 0))), (z591, .inl (cI, 16384, .inl (fun _ => 0)))] H := hP
  have hD : va_D A [(h0, .inr (12, [.int 0, .int 1, .int 1, .ref q562, .ref q571, .ref q574, .ref q577, .ref q580, .ref q583, .ref q586, .int 0, .int (-1), .int 0, .int 0, .long 0, .ref q599, .ref q600, .ref q601, .ref q602])), (q562, .inr (13, [.int 0, .ref z565, .int 1, .int 1, .ref z566, .int 0, .int 0, .int 0, .ref z567, .int 0, .int 0, .int (-1), .int (-1), .int 0, .int (-1), .int 0, .ref z568, .ref z569])), (q586, .inr (18, [.int 0, .int 0, .int 0, .int 1, .int 1, .ref z589, .ref z590, .ref z591, .int 0, .ref z592, .int (-1), .int 0, .ref z593, .ref z594, .int (-1), .int 0, .ref z595, .int (-1), .int 15, .ref z596, .ref z597, .ref z598])), (z589, .inl (cI, 65536, .inl (fun _ => 0))), (z590, .inl (cI, 16384, .inl (fun _ => 0))), (z591, .inl (cI, 16384, .inl (fun _ => 0)))] := hD
  refine W.widen (k := 0) (n := 0) (by omega) (by omega) ?_
  refine lv_if_eq (tgt := 52) hx hb d_Mod_frame_9 (by decide) (fun c_1288 => absurd c_1288 (by decide)) (fun c_1288 => ?_)
  refine lv_iload_n hx hb d_Mod_frame_12 rfl (lv_at hl 2 rfl) ?_
  refine lv_i2l (v := h.toInt64) hx hb d_Mod_frame_13 rfl ?_
  refine lv_lconst (v := 1) hx hb d_Mod_frame_14 (by decide) ?_
  refine lv_ldc2 (v := 128) hx hb hown (htw _ k630) d_Mod_frame_15 ?_
  refine wc_i (wr := [(h0, .inr (12, [.int 0, .int 1, .int 1, .ref q562, .ref q571, .ref q574, .ref q577, .ref q580, .ref q583, .ref q586, .int 0, .int (-1), .int 0, .int 0, .long 0, .ref q599, .ref q600, .ref q601, .ref q602])), (q562, .inr (13, [.int 0, .ref z565, .int 1, .int 1, .ref z566, .int 0, .int 0, .int 0, .ref z567, .int 0, .int 0, .int (-1), .int (-1), .int 0, .int (-1), .int 0, .ref z568, .ref z569])), (q586, .inr (18, [.int 0, .int 0, .int 0, .int 1, .int 1, .ref z589, .ref z590, .ref z591, .int 0, .ref z592, .int (-1), .int 0, .ref z593, .ref z594, .int (-1), .int 0, .ref z595, .int (-1), .int 15, .ref z596, .ref z597, .ref z598])), (z589, .inl (cI, 65536, .inl (fun _ => 0))), (z590, .inl (cI, 16384, .inl (fun _ => 0))), (z591, .inl (cI, 16384, .inl (fun _ => 0)))]) hC hP hD hS [] [0, 1, 2, 3, 4, 5] rfl rfl (by decide) (by decide) (va_runS (As := [.long h.toInt64, .long 1, .long 128]) (rest := []) ⟨hx, hb, hml, hown, htw⟩ (c_Mod_in_t l D cI cL B _ h.toInt64 1 128 (good_lo 1 (by decide) h3) (good_hi 128 (by decide) h4)) (va_cwS 3 htw gS_Mod_90 rfl rfl rfl (by decide +kernel) ⟨Nat.le_of_ble_eq_true rfl, Nat.le_of_ble_eq_true rfl⟩) (wC_pre hC hP hD hS [] (by decide) rfl) rfl rfl hl.1 rfl (lv_room (Nat.le_of_ble_eq_true rfl)) d_Mod_frame_18 ⟨Nat.le_of_ble_eq_true rfl, Nat.le_of_ble_eq_true rfl⟩) (fun r1291 u1289 H locs hw1290 hP hD hS => ?_)
  obtain rfl : r1291 = 1 := hw1290
  have hP : va_P D classes [(h0, .inr (12, [.int 0, .int 1, .int 1, .ref q562, .ref q571, .ref q574, .ref q577, .ref q580, .ref q583, .ref q586, .int 0, .int (-1), .int 0, .int 0, .long 0, .ref q599, .ref q600, .ref q601, .ref q602])), (q562, .inr (13, [.int 0, .ref z565, .int 1, .int 1, .ref z566, .int 0, .int 0, .int 0, .ref z567, .int 0, .int 0, .int (-1), .int (-1), .int 0, .int (-1), .int 0, .ref z568, .ref z569])), (q586, .inr (18, [.int 0, .int 0, .int 0, .int 1, .int 1, .ref z589, .ref z590, .ref z591, .int 0, .ref z592, .int (-1), .int 0, .ref z593, .ref z594, .int (-1), .int 0, .ref z595, .int (-1), .int 15, .ref z596, .ref z597, .ref z598])), (z589, .inl (cI, 65536, .inl (fun _ => 0))), (z590, .inl (cI, 16384, .inl (fun _ => 0))), (z591, .inl (cI, 16384, .inl (fun _ => 0)))] H := hP
  have hD : va_D A [(h0, .inr (12, [.int 0, .int 1, .int 1, .ref q562, .ref q571, .ref q574, .ref q577, .ref q580, .ref q583, .ref q586, .int 0, .int (-1), .int 0, .int 0, .long 0, .ref q599, .ref q600, .ref q601, .ref q602])), (q562, .inr (13, [.int 0, .ref z565, .int 1, .int 1, .ref z566, .int 0, .int 0, .int 0, .ref z567, .int 0, .int 0, .int (-1), .int (-1), .int 0, .int (-1), .int 0, .ref z568, .ref z569])), (q586, .inr (18, [.int 0, .int 0, .int 0, .int 1, .int 1, .ref z589, .ref z590, .ref z591, .int 0, .ref z592, .int (-1), .int 0, .ref z593, .ref z594, .int (-1), .int 0, .ref z595, .int (-1), .int 15, .ref z596, .ref z597, .ref z598])), (z589, .inl (cI, 65536, .inl (fun _ => 0))), (z590, .inl (cI, 16384, .inl (fun _ => 0))), (z591, .inl (cI, 16384, .inl (fun _ => 0)))] := hD
  refine W.widen (k := 0) (n := 0) (by omega) (by omega) ?_
  refine lv_if_eq (tgt := 52) hx hb d_Mod_frame_21 (by decide) (fun c_1292 => absurd c_1292 (by decide)) (fun c_1292 => ?_)
  refine lv_iload_n hx hb d_Mod_frame_24 rfl (lv_at hl 3 rfl) ?_
  refine lv_bipush (v := 8) hx hb d_Mod_frame_25 (by decide) ?_
  refine lv_icmp_eq (tgt := 48) hx hb d_Mod_frame_27 (by decide) (fun c_1293 => ?_) (fun c_1293 => ?_)
  ·
    refine lv_iconst (v := 1) hx hb d_Mod_frame_48 (by decide) ?_
    refine lv_goto (tgt := 53) hx hb d_Mod_frame_49 (by decide) ?_
    refine lv_istore (lv' := [(4, .int 1), (0, .ref h0), (1, .int w), (2, .int h), (3, .int sd)]) hx hb d_Mod_frame_53 hl (by decide) rfl (fun ls hl => ?_)
    refine lv_aload_n hx hb d_Mod_frame_55 rfl (lv_at hl 1 rfl) ?_
    refine lv_iload hx hb d_Mod_frame_56 (lv_at hl 0 rfl) ?_
    refine lv_if_ne (tgt := 65) hx hb d_Mod_frame_58 (by decide) (fun c_1294 => ?_) (fun c_1294 => absurd c_1294 (by decide))
    refine lv_iconst (v := 0) hx hb d_Mod_frame_65 (by decide) ?_
    refine lv_iconst (v := 0) hx hb d_Mod_frame_66 (by decide) ?_
    refine wc_i (wr := [(q562, .inr (13, [.int 0, .ref z565, .int 1, .int 1, .ref z566, .int 0, .int 0, .int 0, .ref z567, .int 0, .int 0, .int (-1), .int (-1), .int 0, .int (-1), .int 0, .ref z568, .ref z569])), (q586, .inr (18, [.int 0, .int 0, .int 0, .int 1, .int 1, .ref z589, .ref z590, .ref z591, .int 0, .ref z592, .int (-1), .int 0, .ref z593, .ref z594, .int (-1), .int 0, .ref z595, .int (-1), .int 15, .ref z596, .ref z597, .ref z598])), (z589, .inl (cI, 65536, .inl (fun _ => 0))), (z590, .inl (cI, 16384, .inl (fun _ => 0))), (z591, .inl (cI, 16384, .inl (fun _ => 0)))]) hC hP hD hS [0] [1, 2, 3, 4, 5] rfl rfl (by decide) (by decide) (va_runV (As := [.int 0, .int 0]) (rest := []) ⟨hx, hb, hml, hown, htw⟩ (c_Mref_00 l D cI cL B _ h0 q562 q571 q574 q577 q580 q583 q586 q599 q600 q601 q602) (cwV 2 htw gV_Mod_94 rfl rfl rfl (by decide +kernel) ⟨Nat.le_of_ble_eq_true rfl, Nat.le_of_ble_eq_true rfl⟩) (wC_preV (As := [.int 0, .int 0]) hC hP hD hS [0] (by decide) rfl (q0 := 0) rfl rfl) rfl rfl hl.1 rfl (lv_room (Nat.le_of_ble_eq_true rfl)) d_Mod_frame_67 ⟨Nat.le_of_ble_eq_true rfl, Nat.le_of_ble_eq_true rfl⟩) (fun r1297 u1295 H locs hw1296 hP hD hS => ?_)
    obtain rfl : r1297 = 0 := hw1296
    have hP : va_P D classes [(q562, .inr (13, [.int 0, .ref z565, .int 1, .int 1, .ref z566, .int 0, .int 0, .int 0, .ref z567, .int 0, .int 0, .int (-1), .int (-1), .int 0, .int (-1), .int 0, .ref z568, .ref z569])), (q586, .inr (18, [.int 0, .int 0, .int 0, .int 1, .int 1, .ref z589, .ref z590, .ref z591, .int 0, .ref z592, .int (-1), .int 0, .ref z593, .ref z594, .int (-1), .int 0, .ref z595, .int (-1), .int 15, .ref z596, .ref z597, .ref z598])), (z589, .inl (cI, 65536, .inl (fun _ => 0))), (z590, .inl (cI, 16384, .inl (fun _ => 0))), (z591, .inl (cI, 16384, .inl (fun _ => 0))), (h0, .inr (12, [.int 0, .int 1, .int 1, .ref q562, .ref q571, .ref q574, .ref q577, .ref q580, .ref q583, .ref q586, .int 0, .int (-1), .int 0, .int 0, .long 0, .ref q599, .ref q600, .ref q601, .ref q602]))] H := hP
    have hD : va_D A [(q562, .inr (13, [.int 0, .ref z565, .int 1, .int 1, .ref z566, .int 0, .int 0, .int 0, .ref z567, .int 0, .int 0, .int (-1), .int (-1), .int 0, .int (-1), .int 0, .ref z568, .ref z569])), (q586, .inr (18, [.int 0, .int 0, .int 0, .int 1, .int 1, .ref z589, .ref z590, .ref z591, .int 0, .ref z592, .int (-1), .int 0, .ref z593, .ref z594, .int (-1), .int 0, .ref z595, .int (-1), .int 15, .ref z596, .ref z597, .ref z598])), (z589, .inl (cI, 65536, .inl (fun _ => 0))), (z590, .inl (cI, 16384, .inl (fun _ => 0))), (z591, .inl (cI, 16384, .inl (fun _ => 0))), (h0, .inr (12, [.int 0, .int 1, .int 1, .ref q562, .ref q571, .ref q574, .ref q577, .ref q580, .ref q583, .ref q586, .int 0, .int (-1), .int 0, .int 0, .long 0, .ref q599, .ref q600, .ref q601, .ref q602]))] := hD
    refine W.widen (k := 0) (n := 0) (by omega) (by omega) ?_
    refine lv_if_eq (tgt := 75) hx hb d_Mod_frame_70 (by decide) (fun c_1298 => ?_) (fun c_1298 => absurd c_1298 (by decide))
    refine lv_aload_n hx hb d_Mod_frame_75 rfl (lv_at hl 1 rfl) ?_
    refine lv_iload_n hx hb d_Mod_frame_76 rfl (lv_at hl 2 rfl) ?_
    refine va_put (D := D) (ci := 12) (v := .int w) (ty := .int) (C := R_Mod) (T := F_Mod) (N := 19) hx hb htw i_Mod t_Mod t_Mod_ok n_Mod hown hC.1 hP hD hS 5 rfl rfl 1 (by decide) (htw _ k515) (fun _ h9 => h9) rfl (by decide +kernel) rfl rfl (Nat.le_of_ble_eq_true rfl) d_Mod_frame_77 (fun H locs hP hD hS => ?_)
    have hP : va_P D classes [(q562, .inr (13, [.int 0, .ref z565, .int 1, .int 1, .ref z566, .int 0, .int 0, .int 0, .ref z567, .int 0, .int 0, .int (-1), .int (-1), .int 0, .int (-1), .int 0, .ref z568, .ref z569])), (q586, .inr (18, [.int 0, .int 0, .int 0, .int 1, .int 1, .ref z589, .ref z590, .ref z591, .int 0, .ref z592, .int (-1), .int 0, .ref z593, .ref z594, .int (-1), .int 0, .ref z595, .int (-1), .int 15, .ref z596, .ref z597, .ref z598])), (z589, .inl (cI, 65536, .inl (fun _ => 0))), (z590, .inl (cI, 16384, .inl (fun _ => 0))), (z591, .inl (cI, 16384, .inl (fun _ => 0))), (h0, .inr (12, [.int 0, .int w, .int 1, .ref q562, .ref q571, .ref q574, .ref q577, .ref q580, .ref q583, .ref q586, .int 0, .int (-1), .int 0, .int 0, .long 0, .ref q599, .ref q600, .ref q601, .ref q602]))] H := hP
    have hD : va_D A [(q562, .inr (13, [.int 0, .ref z565, .int 1, .int 1, .ref z566, .int 0, .int 0, .int 0, .ref z567, .int 0, .int 0, .int (-1), .int (-1), .int 0, .int (-1), .int 0, .ref z568, .ref z569])), (q586, .inr (18, [.int 0, .int 0, .int 0, .int 1, .int 1, .ref z589, .ref z590, .ref z591, .int 0, .ref z592, .int (-1), .int 0, .ref z593, .ref z594, .int (-1), .int 0, .ref z595, .int (-1), .int 15, .ref z596, .ref z597, .ref z598])), (z589, .inl (cI, 65536, .inl (fun _ => 0))), (z590, .inl (cI, 16384, .inl (fun _ => 0))), (z591, .inl (cI, 16384, .inl (fun _ => 0))), (h0, .inr (12, [.int 0, .int w, .int 1, .ref q562, .ref q571, .ref q574, .ref q577, .ref q580, .ref q583, .ref q586, .int 0, .int (-1), .int 0, .int 0, .long 0, .ref q599, .ref q600, .ref q601, .ref q602]))] := hD
    refine lv_aload_n hx hb d_Mod_frame_80 rfl (lv_at hl 1 rfl) ?_
    refine lv_iload_n hx hb d_Mod_frame_81 rfl (lv_at hl 3 rfl) ?_
    refine va_put (D := D) (ci := 12) (v := .int h) (ty := .int) (C := R_Mod) (T := F_Mod) (N := 19) hx hb htw i_Mod t_Mod t_Mod_ok n_Mod hown hC.1 hP hD hS 5 rfl rfl 2 (by decide) (htw _ k516) (fun _ h9 => h9) rfl (by decide +kernel) rfl rfl (Nat.le_of_ble_eq_true rfl) d_Mod_frame_82 (fun H locs hP hD hS => ?_)
    have hP : va_P D classes [(q562, .inr (13, [.int 0, .ref z565, .int 1, .int 1, .ref z566, .int 0, .int 0, .int 0, .ref z567, .int 0, .int 0, .int (-1), .int (-1), .int 0, .int (-1), .int 0, .ref z568, .ref z569])), (q586, .inr (18, [.int 0, .int 0, .int 0, .int 1, .int 1, .ref z589, .ref z590, .ref z591, .int 0, .ref z592, .int (-1), .int 0, .ref z593, .ref z594, .int (-1), .int 0, .ref z595, .int (-1), .int 15, .ref z596, .ref z597, .ref z598])), (z589, .inl (cI, 65536, .inl (fun _ => 0))), (z590, .inl (cI, 16384, .inl (fun _ => 0))), (z591, .inl (cI, 16384, .inl (fun _ => 0))), (h0, .inr (12, [.int 0, .int w, .int h, .ref q562, .ref q571, .ref q574, .ref q577, .ref q580, .ref q583, .ref q586, .int 0, .int (-1), .int 0, .int 0, .long 0, .ref q599, .ref q600, .ref q601, .ref q602]))] H := hP
    have hD : va_D A [(q562, .inr (13, [.int 0, .ref z565, .int 1, .int 1, .ref z566, .int 0, .int 0, .int 0, .ref z567, .int 0, .int 0, .int (-1), .int (-1), .int 0, .int (-1), .int 0, .ref z568, .ref z569])), (q586, .inr (18, [.int 0, .int 0, .int 0, .int 1, .int 1, .ref z589, .ref z590, .ref z591, .int 0, .ref z592, .int (-1), .int 0, .ref z593, .ref z594, .int (-1), .int 0, .ref z595, .int (-1), .int 15, .ref z596, .ref z597, .ref z598])), (z589, .inl (cI, 65536, .inl (fun _ => 0))), (z590, .inl (cI, 16384, .inl (fun _ => 0))), (z591, .inl (cI, 16384, .inl (fun _ => 0))), (h0, .inr (12, [.int 0, .int w, .int h, .ref q562, .ref q571, .ref q574, .ref q577, .ref q580, .ref q583, .ref q586, .int 0, .int (-1), .int 0, .int 0, .long 0, .ref q599, .ref q600, .ref q601, .ref q602]))] := hD
    refine lv_aload_n hx hb d_Mod_frame_85 rfl (lv_at hl 1 rfl) ?_
    refine va_get (D := D) (ci := 12) (v := .ref q562) (C := R_Mod) (T := F_Mod) (N := 19) hx hb htw i_Mod hown hC.1 hP 5 rfl rfl 3 (by decide) (htw _ k521) (fun _ h9 => h9) rfl d_Mod_frame_86 ?_
    refine lv_iload_n hx hb d_Mod_frame_89 rfl (lv_at hl 2 rfl) ?_
    refine lv_iload_n hx hb d_Mod_frame_90 rfl (lv_at hl 3 rfl) ?_
    refine wc_v (wr := [(q586, .inr (18, [.int 0, .int 0, .int 0, .int 1, .int 1, .ref z589, .ref z590, .ref z591, .int 0, .ref z592, .int (-1), .int 0, .ref z593, .ref z594, .int (-1), .int 0, .ref z595, .int (-1), .int 15, .ref z596, .ref z597, .ref z598])), (z589, .inl (cI, 65536, .inl (fun _ => 0))), (z590, .inl (cI, 16384, .inl (fun _ => 0))), (z591, .inl (cI, 16384, .inl (fun _ => 0))), (h0, .inr (12, [.int 0, .int w, .int h, .ref q562, .ref q571, .ref q574, .ref q577, .ref q580, .ref q583, .ref q586, .int 0, .int (-1), .int 0, .int 0, .long 0, .ref q599, .ref q600, .ref q601, .ref q602]))]) hC hP hD hS [0] [1, 2, 3, 4, 5] rfl rfl (by decide) (by decide) (va_runV (As := [.int w, .int h]) (rest := []) ⟨hx, hb, hml, hown, htw⟩ (c_Cframe l D cI cL B _ q562 z565 z566 z567 z568 z569 w h (h1) (h2) (h3) (h4)) (cwV 2 htw gV_Mod_98 rfl rfl rfl (by decide +kernel) ⟨Nat.le_of_ble_eq_true rfl, Nat.le_of_ble_eq_true rfl⟩) (wC_preV (As := [.int w, .int h]) hC hP hD hS [0] (by decide) rfl (q0 := 0) rfl rfl) rfl rfl hl.1 rfl (lv_room (Nat.le_of_ble_eq_true rfl)) d_Mod_frame_91 ⟨Nat.le_of_ble_eq_true rfl, Nat.le_of_ble_eq_true rfl⟩) (fun u1299 H locs hw1300 hP hD hS => ?_)
    have hP : va_P D classes [(q586, .inr (18, [.int 0, .int 0, .int 0, .int 1, .int 1, .ref z589, .ref z590, .ref z591, .int 0, .ref z592, .int (-1), .int 0, .ref z593, .ref z594, .int (-1), .int 0, .ref z595, .int (-1), .int 15, .ref z596, .ref z597, .ref z598])), (z589, .inl (cI, 65536, .inl (fun _ => 0))), (z590, .inl (cI, 16384, .inl (fun _ => 0))), (z591, .inl (cI, 16384, .inl (fun _ => 0))), (h0, .inr (12, [.int 0, .int w, .int h, .ref q562, .ref q571, .ref q574, .ref q577, .ref q580, .ref q583, .ref q586, .int 0, .int (-1), .int 0, .int 0, .long 0, .ref q599, .ref q600, .ref q601, .ref q602]))] H := hP
    have hD : va_D A [(q586, .inr (18, [.int 0, .int 0, .int 0, .int 1, .int 1, .ref z589, .ref z590, .ref z591, .int 0, .ref z592, .int (-1), .int 0, .ref z593, .ref z594, .int (-1), .int 0, .ref z595, .int (-1), .int 15, .ref z596, .ref z597, .ref z598])), (z589, .inl (cI, 65536, .inl (fun _ => 0))), (z590, .inl (cI, 16384, .inl (fun _ => 0))), (z591, .inl (cI, 16384, .inl (fun _ => 0))), (h0, .inr (12, [.int 0, .int w, .int h, .ref q562, .ref q571, .ref q574, .ref q577, .ref q580, .ref q583, .ref q586, .int 0, .int (-1), .int 0, .int 0, .long 0, .ref q599, .ref q600, .ref q601, .ref q602]))] := hD
    refine W.widen (k := 0) (n := 0) (by omega) (by omega) ?_
    refine lv_aload_n hx hb d_Mod_frame_94 rfl (lv_at hl 1 rfl) ?_
    refine va_get (D := D) (ci := 12) (v := .ref q586) (C := R_Mod) (T := F_Mod) (N := 19) hx hb htw i_Mod hown hC.1 hP 4 rfl rfl 9 (by decide) (htw _ k547) (fun _ h9 => h9) rfl d_Mod_frame_95 ?_
    refine lv_iconst (v := 0) hx hb d_Mod_frame_98 (by decide) ?_
    refine lv_iconst (v := 0) hx hb d_Mod_frame_99 (by decide) ?_
    refine lv_iload_n hx hb d_Mod_frame_100 rfl (lv_at hl 2 rfl) ?_
    refine lv_iload_n hx hb d_Mod_frame_101 rfl (lv_at hl 3 rfl) ?_
    refine wc_v (wr := [(h0, .inr (12, [.int 0, .int w, .int h, .ref q562, .ref q571, .ref q574, .ref q577, .ref q580, .ref q583, .ref q586, .int 0, .int (-1), .int 0, .int 0, .long 0, .ref q599, .ref q600, .ref q601, .ref q602]))]) hC hP hD hS [0, 1, 2, 3] [4] rfl rfl (by decide) (by decide) (va_runV (As := [.int 0, .int 0, .int w, .int h]) (rest := []) ⟨hx, hb, hml, hown, htw⟩ (c_Pframe l D cI cL B _ q586 z589 z590 z591 z592 z593 z594 z595 z596 z597 z598 w h (h1) (h2) (h3) (h4)) (cwV 4 htw gV_Mod_102 rfl rfl rfl (by decide +kernel) ⟨Nat.le_of_ble_eq_true rfl, Nat.le_of_ble_eq_true rfl⟩) (wC_preV (As := [.int 0, .int 0, .int w, .int h]) hC hP hD hS [0, 1, 2, 3] (by decide) rfl (q0 := 0) rfl rfl) rfl rfl hl.1 rfl (lv_room (Nat.le_of_ble_eq_true rfl)) d_Mod_frame_102 ⟨Nat.le_of_ble_eq_true rfl, Nat.le_of_ble_eq_true rfl⟩) (fun u1301 H locs hw1302 hP hD hS => ?_)
    have hP : va_P D classes [(h0, .inr (12, [.int 0, .int w, .int h, .ref q562, .ref q571, .ref q574, .ref q577, .ref q580, .ref q583, .ref q586, .int 0, .int (-1), .int 0, .int 0, .long 0, .ref q599, .ref q600, .ref q601, .ref q602]))] H := hP
    have hD : va_D A [(h0, .inr (12, [.int 0, .int w, .int h, .ref q562, .ref q571, .ref q574, .ref q577, .ref q580, .ref q583, .ref q586, .int 0, .int (-1), .int 0, .int 0, .long 0, .ref q599, .ref q600, .ref q601, .ref q602]))] := hD
    refine W.widen (k := 0) (n := 0) (by omega) (by omega) ?_
    refine lv_iload_n hx hb d_Mod_frame_105 rfl (lv_at hl 2 rfl) ?_
    refine lv_iload_n hx hb d_Mod_frame_106 rfl (lv_at hl 4 rfl) ?_
    refine lv_iadd hx hb d_Mod_frame_107 ?_
    refine lv_iconst (v := 1) hx hb d_Mod_frame_108 (by decide) ?_
    refine lv_isub hx hb d_Mod_frame_109 ?_
    refine lv_iload_n hx hb d_Mod_frame_110 rfl (lv_at hl 4 rfl) ?_
    refine lv_idiv hx hb d_Mod_frame_111 (sd_nz hs) ?_
    refine lv_iload_n hx hb d_Mod_frame_112 rfl (lv_at hl 3 rfl) ?_
    refine lv_iload_n hx hb d_Mod_frame_113 rfl (lv_at hl 4 rfl) ?_
    refine lv_iadd hx hb d_Mod_frame_114 ?_
    refine lv_iconst (v := 1) hx hb d_Mod_frame_115 (by decide) ?_
    refine lv_isub hx hb d_Mod_frame_116 ?_
    refine lv_iload_n hx hb d_Mod_frame_117 rfl (lv_at hl 4 rfl) ?_
    refine lv_idiv hx hb d_Mod_frame_118 (sd_nz hs) ?_
    refine lv_imul hx hb d_Mod_frame_119 ?_
    refine W.widen (k := 0) (n := 0) (Nat.le_of_ble_eq_true rfl) (Nat.le_of_ble_eq_true rfl) ?_
    have hP9 := hP.sub (ws' := [(h0, .inr (12, [.int 0, .int w, .int h, .ref q562, .ref q571, .ref q574, .ref q577, .ref q580, .ref q583, .ref q586, .int 0, .int (-1), .int 0, .int 0, .long 0, .ref q599, .ref q600, .ref q601, .ref q602]))]) [0] rfl
    have hD9 := hD.sub (ws' := [(h0, .inr (12, [.int 0, .int w, .int h, .ref q562, .ref q571, .ref q574, .ref q577, .ref q580, .ref q583, .ref q586, .int 0, .int (-1), .int 0, .int 0, .long 0, .ref q599, .ref q600, .ref q601, .ref q602]))]) [0] (by decide) rfl
    exact W.iret (v := ((((w + sd) - 1) / sd) * (((h + sd) - 1) / sd))) hx hb hr (fun t ht hW => ⟨⟨((((w + sd) - 1) / sd) * (((h + sd) - 1) / sd)), (), rfl, rfl, by rw [ht]; exact hP9, va_K.moved hW.alike hC.1, hD9⟩, hS.F ht⟩) hS.2.2 d_Mod_frame_120
  ·
    refine lv_iload_n hx hb d_Mod_frame_30 rfl (lv_at hl 3 rfl) ?_
    refine lv_bipush (v := 16) hx hb d_Mod_frame_31 (by decide) ?_
    refine lv_icmp_eq (tgt := 48) hx hb d_Mod_frame_33 (by decide) (fun c_1303 => ?_) (fun c_1303 => ?_)
    ·
      refine lv_iconst (v := 1) hx hb d_Mod_frame_48 (by decide) ?_
      refine lv_goto (tgt := 53) hx hb d_Mod_frame_49 (by decide) ?_
      refine lv_istore (lv' := [(4, .int 1), (0, .ref h0), (1, .int w), (2, .int h), (3, .int sd)]) hx hb d_Mod_frame_53 hl (by decide) rfl (fun ls hl => ?_)
      refine lv_aload_n hx hb d_Mod_frame_55 rfl (lv_at hl 1 rfl) ?_
      refine lv_iload hx hb d_Mod_frame_56 (lv_at hl 0 rfl) ?_
      refine lv_if_ne (tgt := 65) hx hb d_Mod_frame_58 (by decide) (fun c_1304 => ?_) (fun c_1304 => absurd c_1304 (by decide))
      refine lv_iconst (v := 0) hx hb d_Mod_frame_65 (by decide) ?_
      refine lv_iconst (v := 0) hx hb d_Mod_frame_66 (by decide) ?_
      refine wc_i (wr := [(q562, .inr (13, [.int 0, .ref z565, .int 1, .int 1, .ref z566, .int 0, .int 0, .int 0, .ref z567, .int 0, .int 0, .int (-1), .int (-1), .int 0, .int (-1), .int 0, .ref z568, .ref z569])), (q586, .inr (18, [.int 0, .int 0, .int 0, .int 1, .int 1, .ref z589, .ref z590, .ref z591, .int 0, .ref z592, .int (-1), .int 0, .ref z593, .ref z594, .int (-1), .int 0, .ref z595, .int (-1), .int 15, .ref z596, .ref z597, .ref z598])), (z589, .inl (cI, 65536, .inl (fun _ => 0))), (z590, .inl (cI, 16384, .inl (fun _ => 0))), (z591, .inl (cI, 16384, .inl (fun _ => 0)))]) hC hP hD hS [0] [1, 2, 3, 4, 5] rfl rfl (by decide) (by decide) (va_runV (As := [.int 0, .int 0]) (rest := []) ⟨hx, hb, hml, hown, htw⟩ (c_Mref_00 l D cI cL B _ h0 q562 q571 q574 q577 q580 q583 q586 q599 q600 q601 q602) (cwV 2 htw gV_Mod_94 rfl rfl rfl (by decide +kernel) ⟨Nat.le_of_ble_eq_true rfl, Nat.le_of_ble_eq_true rfl⟩) (wC_preV (As := [.int 0, .int 0]) hC hP hD hS [0] (by decide) rfl (q0 := 0) rfl rfl) rfl rfl hl.1 rfl (lv_room (Nat.le_of_ble_eq_true rfl)) d_Mod_frame_67 ⟨Nat.le_of_ble_eq_true rfl, Nat.le_of_ble_eq_true rfl⟩) (fun r1307 u1305 H locs hw1306 hP hD hS => ?_)
      obtain rfl : r1307 = 0 := hw1306
      have hP : va_P D classes [(q562, .inr (13, [.int 0, .ref z565, .int 1, .int 1, .ref z566, .int 0, .int 0, .int 0, .ref z567, .int 0, .int 0, .int (-1), .int (-1), .int 0, .int (-1), .int 0, .ref z568, .ref z569])), (q586, .inr (18, [.int 0, .int 0, .int 0, .int 1, .int 1, .ref z589, .ref z590, .ref z591, .int 0, .ref z592, .int (-1), .int 0, .ref z593, .ref z594, .int (-1), .int 0, .ref z595, .int (-1), .int 15, .ref z596, .ref z597, .ref z598])), (z589, .inl (cI, 65536, .inl (fun _ => 0))), (z590, .inl (cI, 16384, .inl (fun _ => 0))), (z591, .inl (cI, 16384, .inl (fun _ => 0))), (h0, .inr (12, [.int 0, .int 1, .int 1, .ref q562, .ref q571, .ref q574, .ref q577, .ref q580, .ref q583, .ref q586, .int 0, .int (-1), .int 0, .int 0, .long 0, .ref q599, .ref q600, .ref q601, .ref q602]))] H := hP
      have hD : va_D A [(q562, .inr (13, [.int 0, .ref z565, .int 1, .int 1, .ref z566, .int 0, .int 0, .int 0, .ref z567, .int 0, .int 0, .int (-1), .int (-1), .int 0, .int (-1), .int 0, .ref z568, .ref z569])), (q586, .inr (18, [.int 0, .int 0, .int 0, .int 1, .int 1, .ref z589, .ref z590, .ref z591, .int 0, .ref z592, .int (-1), .int 0, .ref z593, .ref z594, .int (-1), .int 0, .ref z595, .int (-1), .int 15, .ref z596, .ref z597, .ref z598])), (z589, .inl (cI, 65536, .inl (fun _ => 0))), (z590, .inl (cI, 16384, .inl (fun _ => 0))), (z591, .inl (cI, 16384, .inl (fun _ => 0))), (h0, .inr (12, [.int 0, .int 1, .int 1, .ref q562, .ref q571, .ref q574, .ref q577, .ref q580, .ref q583, .ref q586, .int 0, .int (-1), .int 0, .int 0, .long 0, .ref q599, .ref q600, .ref q601, .ref q602]))] := hD
      refine W.widen (k := 0) (n := 0) (by omega) (by omega) ?_
      refine lv_if_eq (tgt := 75) hx hb d_Mod_frame_70 (by decide) (fun c_1308 => ?_) (fun c_1308 => absurd c_1308 (by decide))
      refine lv_aload_n hx hb d_Mod_frame_75 rfl (lv_at hl 1 rfl) ?_
      refine lv_iload_n hx hb d_Mod_frame_76 rfl (lv_at hl 2 rfl) ?_
      refine va_put (D := D) (ci := 12) (v := .int w) (ty := .int) (C := R_Mod) (T := F_Mod) (N := 19) hx hb htw i_Mod t_Mod t_Mod_ok n_Mod hown hC.1 hP hD hS 5 rfl rfl 1 (by decide) (htw _ k515) (fun _ h9 => h9) rfl (by decide +kernel) rfl rfl (Nat.le_of_ble_eq_true rfl) d_Mod_frame_77 (fun H locs hP hD hS => ?_)
      have hP : va_P D classes [(q562, .inr (13, [.int 0, .ref z565, .int 1, .int 1, .ref z566, .int 0, .int 0, .int 0, .ref z567, .int 0, .int 0, .int (-1), .int (-1), .int 0, .int (-1), .int 0, .ref z568, .ref z569])), (q586, .inr (18, [.int 0, .int 0, .int 0, .int 1, .int 1, .ref z589, .ref z590, .ref z591, .int 0, .ref z592, .int (-1), .int 0, .ref z593, .ref z594, .int (-1), .int 0, .ref z595, .int (-1), .int 15, .ref z596, .ref z597, .ref z598])), (z589, .inl (cI, 65536, .inl (fun _ => 0))), (z590, .inl (cI, 16384, .inl (fun _ => 0))), (z591, .inl (cI, 16384, .inl (fun _ => 0))), (h0, .inr (12, [.int 0, .int w, .int 1, .ref q562, .ref q571, .ref q574, .ref q577, .ref q580, .ref q583, .ref q586, .int 0, .int (-1), .int 0, .int 0, .long 0, .ref q599, .ref q600, .ref q601, .ref q602]))] H := hP
      have hD : va_D A [(q562, .inr (13, [.int 0, .ref z565, .int 1, .int 1, .ref z566, .int 0, .int 0, .int 0, .ref z567, .int 0, .int 0, .int (-1), .int (-1), .int 0, .int (-1), .int 0, .ref z568, .ref z569])), (q586, .inr (18, [.int 0, .int 0, .int 0, .int 1, .int 1, .ref z589, .ref z590, .ref z591, .int 0, .ref z592, .int (-1), .int 0, .ref z593, .ref z594, .int (-1), .int 0, .ref z595, .int (-1), .int 15, .ref z596, .ref z597, .ref z598])), (z589, .inl (cI, 65536, .inl (fun _ => 0))), (z590, .inl (cI, 16384, .inl (fun _ => 0))), (z591, .inl (cI, 16384, .inl (fun _ => 0))), (h0, .inr (12, [.int 0, .int w, .int 1, .ref q562, .ref q571, .ref q574, .ref q577, .ref q580, .ref q583, .ref q586, .int 0, .int (-1), .int 0, .int 0, .long 0, .ref q599, .ref q600, .ref q601, .ref q602]))] := hD
      refine lv_aload_n hx hb d_Mod_frame_80 rfl (lv_at hl 1 rfl) ?_
      refine lv_iload_n hx hb d_Mod_frame_81 rfl (lv_at hl 3 rfl) ?_
      refine va_put (D := D) (ci := 12) (v := .int h) (ty := .int) (C := R_Mod) (T := F_Mod) (N := 19) hx hb htw i_Mod t_Mod t_Mod_ok n_Mod hown hC.1 hP hD hS 5 rfl rfl 2 (by decide) (htw _ k516) (fun _ h9 => h9) rfl (by decide +kernel) rfl rfl (Nat.le_of_ble_eq_true rfl) d_Mod_frame_82 (fun H locs hP hD hS => ?_)
      have hP : va_P D classes [(q562, .inr (13, [.int 0, .ref z565, .int 1, .int 1, .ref z566, .int 0, .int 0, .int 0, .ref z567, .int 0, .int 0, .int (-1), .int (-1), .int 0, .int (-1), .int 0, .ref z568, .ref z569])), (q586, .inr (18, [.int 0, .int 0, .int 0, .int 1, .int 1, .ref z589, .ref z590, .ref z591, .int 0, .ref z592, .int (-1), .int 0, .ref z593, .ref z594, .int (-1), .int 0, .ref z595, .int (-1), .int 15, .ref z596, .ref z597, .ref z598])), (z589, .inl (cI, 65536, .inl (fun _ => 0))), (z590, .inl (cI, 16384, .inl (fun _ => 0))), (z591, .inl (cI, 16384, .inl (fun _ => 0))), (h0, .inr (12, [.int 0, .int w, .int h, .ref q562, .ref q571, .ref q574, .ref q577, .ref q580, .ref q583, .ref q586, .int 0, .int (-1), .int 0, .int 0, .long 0, .ref q599, .ref q600, .ref q601, .ref q602]))] H := hP
      have hD : va_D A [(q562, .inr (13, [.int 0, .ref z565, .int 1, .int 1, .ref z566, .int 0, .int 0, .int 0, .ref z567, .int 0, .int 0, .int (-1), .int (-1), .int 0, .int (-1), .int 0, .ref z568, .ref z569])), (q586, .inr (18, [.int 0, .int 0, .int 0, .int 1, .int 1, .ref z589, .ref z590, .ref z591, .int 0, .ref z592, .int (-1), .int 0, .ref z593, .ref z594, .int (-1), .int 0, .ref z595, .int (-1), .int 15, .ref z596, .ref z597, .ref z598])), (z589, .inl (cI, 65536, .inl (fun _ => 0))), (z590, .inl (cI, 16384, .inl (fun _ => 0))), (z591, .inl (cI, 16384, .inl (fun _ => 0))), (h0, .inr (12, [.int 0, .int w, .int h, .ref q562, .ref q571, .ref q574, .ref q577, .ref q580, .ref q583, .ref q586, .int 0, .int (-1), .int 0, .int 0, .long 0, .ref q599, .ref q600, .ref q601, .ref q602]))] := hD
      refine lv_aload_n hx hb d_Mod_frame_85 rfl (lv_at hl 1 rfl) ?_
      refine va_get (D := D) (ci := 12) (v := .ref q562) (C := R_Mod) (T := F_Mod) (N := 19) hx hb htw i_Mod hown hC.1 hP 5 rfl rfl 3 (by decide) (htw _ k521) (fun _ h9 => h9) rfl d_Mod_frame_86 ?_
      refine lv_iload_n hx hb d_Mod_frame_89 rfl (lv_at hl 2 rfl) ?_
      refine lv_iload_n hx hb d_Mod_frame_90 rfl (lv_at hl 3 rfl) ?_
      refine wc_v (wr := [(q586, .inr (18, [.int 0, .int 0, .int 0, .int 1, .int 1, .ref z589, .ref z590, .ref z591, .int 0, .ref z592, .int (-1), .int 0, .ref z593, .ref z594, .int (-1), .int 0, .ref z595, .int (-1), .int 15, .ref z596, .ref z597, .ref z598])), (z589, .inl (cI, 65536, .inl (fun _ => 0))), (z590, .inl (cI, 16384, .inl (fun _ => 0))), (z591, .inl (cI, 16384, .inl (fun _ => 0))), (h0, .inr (12, [.int 0, .int w, .int h, .ref q562, .ref q571, .ref q574, .ref q577, .ref q580, .ref q583, .ref q586, .int 0, .int (-1), .int 0, .int 0, .long 0, .ref q599, .ref q600, .ref q601, .ref q602]))]) hC hP hD hS [0] [1, 2, 3, 4, 5] rfl rfl (by decide) (by decide) (va_runV (As := [.int w, .int h]) (rest := []) ⟨hx, hb, hml, hown, htw⟩ (c_Cframe l D cI cL B _ q562 z565 z566 z567 z568 z569 w h (h1) (h2) (h3) (h4)) (cwV 2 htw gV_Mod_98 rfl rfl rfl (by decide +kernel) ⟨Nat.le_of_ble_eq_true rfl, Nat.le_of_ble_eq_true rfl⟩) (wC_preV (As := [.int w, .int h]) hC hP hD hS [0] (by decide) rfl (q0 := 0) rfl rfl) rfl rfl hl.1 rfl (lv_room (Nat.le_of_ble_eq_true rfl)) d_Mod_frame_91 ⟨Nat.le_of_ble_eq_true rfl, Nat.le_of_ble_eq_true rfl⟩) (fun u1309 H locs hw1310 hP hD hS => ?_)
      have hP : va_P D classes [(q586, .inr (18, [.int 0, .int 0, .int 0, .int 1, .int 1, .ref z589, .ref z590, .ref z591, .int 0, .ref z592, .int (-1), .int 0, .ref z593, .ref z594, .int (-1), .int 0, .ref z595, .int (-1), .int 15, .ref z596, .ref z597, .ref z598])), (z589, .inl (cI, 65536, .inl (fun _ => 0))), (z590, .inl (cI, 16384, .inl (fun _ => 0))), (z591, .inl (cI, 16384, .inl (fun _ => 0))), (h0, .inr (12, [.int 0, .int w, .int h, .ref q562, .ref q571, .ref q574, .ref q577, .ref q580, .ref q583, .ref q586, .int 0, .int (-1), .int 0, .int 0, .long 0, .ref q599, .ref q600, .ref q601, .ref q602]))] H := hP
      have hD : va_D A [(q586, .inr (18, [.int 0, .int 0, .int 0, .int 1, .int 1, .ref z589, .ref z590, .ref z591, .int 0, .ref z592, .int (-1), .int 0, .ref z593, .ref z594, .int (-1), .int 0, .ref z595, .int (-1), .int 15, .ref z596, .ref z597, .ref z598])), (z589, .inl (cI, 65536, .inl (fun _ => 0))), (z590, .inl (cI, 16384, .inl (fun _ => 0))), (z591, .inl (cI, 16384, .inl (fun _ => 0))), (h0, .inr (12, [.int 0, .int w, .int h, .ref q562, .ref q571, .ref q574, .ref q577, .ref q580, .ref q583, .ref q586, .int 0, .int (-1), .int 0, .int 0, .long 0, .ref q599, .ref q600, .ref q601, .ref q602]))] := hD
      refine W.widen (k := 0) (n := 0) (by omega) (by omega) ?_
      refine lv_aload_n hx hb d_Mod_frame_94 rfl (lv_at hl 1 rfl) ?_
      refine va_get (D := D) (ci := 12) (v := .ref q586) (C := R_Mod) (T := F_Mod) (N := 19) hx hb htw i_Mod hown hC.1 hP 4 rfl rfl 9 (by decide) (htw _ k547) (fun _ h9 => h9) rfl d_Mod_frame_95 ?_
      refine lv_iconst (v := 0) hx hb d_Mod_frame_98 (by decide) ?_
      refine lv_iconst (v := 0) hx hb d_Mod_frame_99 (by decide) ?_
      refine lv_iload_n hx hb d_Mod_frame_100 rfl (lv_at hl 2 rfl) ?_
      refine lv_iload_n hx hb d_Mod_frame_101 rfl (lv_at hl 3 rfl) ?_
      refine wc_v (wr := [(h0, .inr (12, [.int 0, .int w, .int h, .ref q562, .ref q571, .ref q574, .ref q577, .ref q580, .ref q583, .ref q586, .int 0, .int (-1), .int 0, .int 0, .long 0, .ref q599, .ref q600, .ref q601, .ref q602]))]) hC hP hD hS [0, 1, 2, 3] [4] rfl rfl (by decide) (by decide) (va_runV (As := [.int 0, .int 0, .int w, .int h]) (rest := []) ⟨hx, hb, hml, hown, htw⟩ (c_Pframe l D cI cL B _ q586 z589 z590 z591 z592 z593 z594 z595 z596 z597 z598 w h (h1) (h2) (h3) (h4)) (cwV 4 htw gV_Mod_102 rfl rfl rfl (by decide +kernel) ⟨Nat.le_of_ble_eq_true rfl, Nat.le_of_ble_eq_true rfl⟩) (wC_preV (As := [.int 0, .int 0, .int w, .int h]) hC hP hD hS [0, 1, 2, 3] (by decide) rfl (q0 := 0) rfl rfl) rfl rfl hl.1 rfl (lv_room (Nat.le_of_ble_eq_true rfl)) d_Mod_frame_102 ⟨Nat.le_of_ble_eq_true rfl, Nat.le_of_ble_eq_true rfl⟩) (fun u1311 H locs hw1312 hP hD hS => ?_)
      have hP : va_P D classes [(h0, .inr (12, [.int 0, .int w, .int h, .ref q562, .ref q571, .ref q574, .ref q577, .ref q580, .ref q583, .ref q586, .int 0, .int (-1), .int 0, .int 0, .long 0, .ref q599, .ref q600, .ref q601, .ref q602]))] H := hP
      have hD : va_D A [(h0, .inr (12, [.int 0, .int w, .int h, .ref q562, .ref q571, .ref q574, .ref q577, .ref q580, .ref q583, .ref q586, .int 0, .int (-1), .int 0, .int 0, .long 0, .ref q599, .ref q600, .ref q601, .ref q602]))] := hD
      refine W.widen (k := 0) (n := 0) (by omega) (by omega) ?_
      refine lv_iload_n hx hb d_Mod_frame_105 rfl (lv_at hl 2 rfl) ?_
      refine lv_iload_n hx hb d_Mod_frame_106 rfl (lv_at hl 4 rfl) ?_
      refine lv_iadd hx hb d_Mod_frame_107 ?_
      refine lv_iconst (v := 1) hx hb d_Mod_frame_108 (by decide) ?_
      refine lv_isub hx hb d_Mod_frame_109 ?_
      refine lv_iload_n hx hb d_Mod_frame_110 rfl (lv_at hl 4 rfl) ?_
      refine lv_idiv hx hb d_Mod_frame_111 (sd_nz hs) ?_
      refine lv_iload_n hx hb d_Mod_frame_112 rfl (lv_at hl 3 rfl) ?_
      refine lv_iload_n hx hb d_Mod_frame_113 rfl (lv_at hl 4 rfl) ?_
      refine lv_iadd hx hb d_Mod_frame_114 ?_
      refine lv_iconst (v := 1) hx hb d_Mod_frame_115 (by decide) ?_
      refine lv_isub hx hb d_Mod_frame_116 ?_
      refine lv_iload_n hx hb d_Mod_frame_117 rfl (lv_at hl 4 rfl) ?_
      refine lv_idiv hx hb d_Mod_frame_118 (sd_nz hs) ?_
      refine lv_imul hx hb d_Mod_frame_119 ?_
      refine W.widen (k := 0) (n := 0) (Nat.le_of_ble_eq_true rfl) (Nat.le_of_ble_eq_true rfl) ?_
      have hP9 := hP.sub (ws' := [(h0, .inr (12, [.int 0, .int w, .int h, .ref q562, .ref q571, .ref q574, .ref q577, .ref q580, .ref q583, .ref q586, .int 0, .int (-1), .int 0, .int 0, .long 0, .ref q599, .ref q600, .ref q601, .ref q602]))]) [0] rfl
      have hD9 := hD.sub (ws' := [(h0, .inr (12, [.int 0, .int w, .int h, .ref q562, .ref q571, .ref q574, .ref q577, .ref q580, .ref q583, .ref q586, .int 0, .int (-1), .int 0, .int 0, .long 0, .ref q599, .ref q600, .ref q601, .ref q602]))]) [0] (by decide) rfl
      exact W.iret (v := ((((w + sd) - 1) / sd) * (((h + sd) - 1) / sd))) hx hb hr (fun t ht hW => ⟨⟨((((w + sd) - 1) / sd) * (((h + sd) - 1) / sd)), (), rfl, rfl, by rw [ht]; exact hP9, va_K.moved hW.alike hC.1, hD9⟩, hS.F ht⟩) hS.2.2 d_Mod_frame_120
    ·
      refine lv_iload_n hx hb d_Mod_frame_36 rfl (lv_at hl 3 rfl) ?_
      refine lv_bipush (v := 32) hx hb d_Mod_frame_37 (by decide) ?_
      refine lv_icmp_eq (tgt := 48) hx hb d_Mod_frame_39 (by decide) (fun c_1313 => ?_) (fun c_1313 => ?_)
      ·
        refine lv_iconst (v := 1) hx hb d_Mod_frame_48 (by decide) ?_
        refine lv_goto (tgt := 53) hx hb d_Mod_frame_49 (by decide) ?_
        refine lv_istore (lv' := [(4, .int 1), (0, .ref h0), (1, .int w), (2, .int h), (3, .int sd)]) hx hb d_Mod_frame_53 hl (by decide) rfl (fun ls hl => ?_)
        refine lv_aload_n hx hb d_Mod_frame_55 rfl (lv_at hl 1 rfl) ?_
        refine lv_iload hx hb d_Mod_frame_56 (lv_at hl 0 rfl) ?_
        refine lv_if_ne (tgt := 65) hx hb d_Mod_frame_58 (by decide) (fun c_1314 => ?_) (fun c_1314 => absurd c_1314 (by decide))
        refine lv_iconst (v := 0) hx hb d_Mod_frame_65 (by decide) ?_
        refine lv_iconst (v := 0) hx hb d_Mod_frame_66 (by decide) ?_
        refine wc_i (wr := [(q562, .inr (13, [.int 0, .ref z565, .int 1, .int 1, .ref z566, .int 0, .int 0, .int 0, .ref z567, .int 0, .int 0, .int (-1), .int (-1), .int 0, .int (-1), .int 0, .ref z568, .ref z569])), (q586, .inr (18, [.int 0, .int 0, .int 0, .int 1, .int 1, .ref z589, .ref z590, .ref z591, .int 0, .ref z592, .int (-1), .int 0, .ref z593, .ref z594, .int (-1), .int 0, .ref z595, .int (-1), .int 15, .ref z596, .ref z597, .ref z598])), (z589, .inl (cI, 65536, .inl (fun _ => 0))), (z590, .inl (cI, 16384, .inl (fun _ => 0))), (z591, .inl (cI, 16384, .inl (fun _ => 0)))]) hC hP hD hS [0] [1, 2, 3, 4, 5] rfl rfl (by decide) (by decide) (va_runV (As := [.int 0, .int 0]) (rest := []) ⟨hx, hb, hml, hown, htw⟩ (c_Mref_00 l D cI cL B _ h0 q562 q571 q574 q577 q580 q583 q586 q599 q600 q601 q602) (cwV 2 htw gV_Mod_94 rfl rfl rfl (by decide +kernel) ⟨Nat.le_of_ble_eq_true rfl, Nat.le_of_ble_eq_true rfl⟩) (wC_preV (As := [.int 0, .int 0]) hC hP hD hS [0] (by decide) rfl (q0 := 0) rfl rfl) rfl rfl hl.1 rfl (lv_room (Nat.le_of_ble_eq_true rfl)) d_Mod_frame_67 ⟨Nat.le_of_ble_eq_true rfl, Nat.le_of_ble_eq_true rfl⟩) (fun r1317 u1315 H locs hw1316 hP hD hS => ?_)
        obtain rfl : r1317 = 0 := hw1316
        have hP : va_P D classes [(q562, .inr (13, [.int 0, .ref z565, .int 1, .int 1, .ref z566, .int 0, .int 0, .int 0, .ref z567, .int 0, .int 0, .int (-1), .int (-1), .int 0, .int (-1), .int 0, .ref z568, .ref z569])), (q586, .inr (18, [.int 0, .int 0, .int 0, .int 1, .int 1, .ref z589, .ref z590, .ref z591, .int 0, .ref z592, .int (-1), .int 0, .ref z593, .ref z594, .int (-1), .int 0, .ref z595, .int (-1), .int 15, .ref z596, .ref z597, .ref z598])), (z589, .inl (cI, 65536, .inl (fun _ => 0))), (z590, .inl (cI, 16384, .inl (fun _ => 0))), (z591, .inl (cI, 16384, .inl (fun _ => 0))), (h0, .inr (12, [.int 0, .int 1, .int 1, .ref q562, .ref q571, .ref q574, .ref q577, .ref q580, .ref q583, .ref q586, .int 0, .int (-1), .int 0, .int 0, .long 0, .ref q599, .ref q600, .ref q601, .ref q602]))] H := hP
        have hD : va_D A [(q562, .inr (13, [.int 0, .ref z565, .int 1, .int 1, .ref z566, .int 0, .int 0, .int 0, .ref z567, .int 0, .int 0, .int (-1), .int (-1), .int 0, .int (-1), .int 0, .ref z568, .ref z569])), (q586, .inr (18, [.int 0, .int 0, .int 0, .int 1, .int 1, .ref z589, .ref z590, .ref z591, .int 0, .ref z592, .int (-1), .int 0, .ref z593, .ref z594, .int (-1), .int 0, .ref z595, .int (-1), .int 15, .ref z596, .ref z597, .ref z598])), (z589, .inl (cI, 65536, .inl (fun _ => 0))), (z590, .inl (cI, 16384, .inl (fun _ => 0))), (z591, .inl (cI, 16384, .inl (fun _ => 0))), (h0, .inr (12, [.int 0, .int 1, .int 1, .ref q562, .ref q571, .ref q574, .ref q577, .ref q580, .ref q583, .ref q586, .int 0, .int (-1), .int 0, .int 0, .long 0, .ref q599, .ref q600, .ref q601, .ref q602]))] := hD
        refine W.widen (k := 0) (n := 0) (by omega) (by omega) ?_
        refine lv_if_eq (tgt := 75) hx hb d_Mod_frame_70 (by decide) (fun c_1318 => ?_) (fun c_1318 => absurd c_1318 (by decide))
        refine lv_aload_n hx hb d_Mod_frame_75 rfl (lv_at hl 1 rfl) ?_
        refine lv_iload_n hx hb d_Mod_frame_76 rfl (lv_at hl 2 rfl) ?_
        refine va_put (D := D) (ci := 12) (v := .int w) (ty := .int) (C := R_Mod) (T := F_Mod) (N := 19) hx hb htw i_Mod t_Mod t_Mod_ok n_Mod hown hC.1 hP hD hS 5 rfl rfl 1 (by decide) (htw _ k515) (fun _ h9 => h9) rfl (by decide +kernel) rfl rfl (Nat.le_of_ble_eq_true rfl) d_Mod_frame_77 (fun H locs hP hD hS => ?_)
        have hP : va_P D classes [(q562, .inr (13, [.int 0, .ref z565, .int 1, .int 1, .ref z566, .int 0, .int 0, .int 0, .ref z567, .int 0, .int 0, .int (-1), .int (-1), .int 0, .int (-1), .int 0, .ref z568, .ref z569])), (q586, .inr (18, [.int 0, .int 0, .int 0, .int 1, .int 1, .ref z589, .ref z590, .ref z591, .int 0, .ref z592, .int (-1), .int 0, .ref z593, .ref z594, .int (-1), .int 0, .ref z595, .int (-1), .int 15, .ref z596, .ref z597, .ref z598])), (z589, .inl (cI, 65536, .inl (fun _ => 0))), (z590, .inl (cI, 16384, .inl (fun _ => 0))), (z591, .inl (cI, 16384, .inl (fun _ => 0))), (h0, .inr (12, [.int 0, .int w, .int 1, .ref q562, .ref q571, .ref q574, .ref q577, .ref q580, .ref q583, .ref q586, .int 0, .int (-1), .int 0, .int 0, .long 0, .ref q599, .ref q600, .ref q601, .ref q602]))] H := hP
        have hD : va_D A [(q562, .inr (13, [.int 0, .ref z565, .int 1, .int 1, .ref z566, .int 0, .int 0, .int 0, .ref z567, .int 0, .int 0, .int (-1), .int (-1), .int 0, .int (-1), .int 0, .ref z568, .ref z569])), (q586, .inr (18, [.int 0, .int 0, .int 0, .int 1, .int 1, .ref z589, .ref z590, .ref z591, .int 0, .ref z592, .int (-1), .int 0, .ref z593, .ref z594, .int (-1), .int 0, .ref z595, .int (-1), .int 15, .ref z596, .ref z597, .ref z598])), (z589, .inl (cI, 65536, .inl (fun _ => 0))), (z590, .inl (cI, 16384, .inl (fun _ => 0))), (z591, .inl (cI, 16384, .inl (fun _ => 0))), (h0, .inr (12, [.int 0, .int w, .int 1, .ref q562, .ref q571, .ref q574, .ref q577, .ref q580, .ref q583, .ref q586, .int 0, .int (-1), .int 0, .int 0, .long 0, .ref q599, .ref q600, .ref q601, .ref q602]))] := hD
        refine lv_aload_n hx hb d_Mod_frame_80 rfl (lv_at hl 1 rfl) ?_
        refine lv_iload_n hx hb d_Mod_frame_81 rfl (lv_at hl 3 rfl) ?_
        refine va_put (D := D) (ci := 12) (v := .int h) (ty := .int) (C := R_Mod) (T := F_Mod) (N := 19) hx hb htw i_Mod t_Mod t_Mod_ok n_Mod hown hC.1 hP hD hS 5 rfl rfl 2 (by decide) (htw _ k516) (fun _ h9 => h9) rfl (by decide +kernel) rfl rfl (Nat.le_of_ble_eq_true rfl) d_Mod_frame_82 (fun H locs hP hD hS => ?_)
        have hP : va_P D classes [(q562, .inr (13, [.int 0, .ref z565, .int 1, .int 1, .ref z566, .int 0, .int 0, .int 0, .ref z567, .int 0, .int 0, .int (-1), .int (-1), .int 0, .int (-1), .int 0, .ref z568, .ref z569])), (q586, .inr (18, [.int 0, .int 0, .int 0, .int 1, .int 1, .ref z589, .ref z590, .ref z591, .int 0, .ref z592, .int (-1), .int 0, .ref z593, .ref z594, .int (-1), .int 0, .ref z595, .int (-1), .int 15, .ref z596, .ref z597, .ref z598])), (z589, .inl (cI, 65536, .inl (fun _ => 0))), (z590, .inl (cI, 16384, .inl (fun _ => 0))), (z591, .inl (cI, 16384, .inl (fun _ => 0))), (h0, .inr (12, [.int 0, .int w, .int h, .ref q562, .ref q571, .ref q574, .ref q577, .ref q580, .ref q583, .ref q586, .int 0, .int (-1), .int 0, .int 0, .long 0, .ref q599, .ref q600, .ref q601, .ref q602]))] H := hP
        have hD : va_D A [(q562, .inr (13, [.int 0, .ref z565, .int 1, .int 1, .ref z566, .int 0, .int 0, .int 0, .ref z567, .int 0, .int 0, .int (-1), .int (-1), .int 0, .int (-1), .int 0, .ref z568, .ref z569])), (q586, .inr (18, [.int 0, .int 0, .int 0, .int 1, .int 1, .ref z589, .ref z590, .ref z591, .int 0, .ref z592, .int (-1), .int 0, .ref z593, .ref z594, .int (-1), .int 0, .ref z595, .int (-1), .int 15, .ref z596, .ref z597, .ref z598])), (z589, .inl (cI, 65536, .inl (fun _ => 0))), (z590, .inl (cI, 16384, .inl (fun _ => 0))), (z591, .inl (cI, 16384, .inl (fun _ => 0))), (h0, .inr (12, [.int 0, .int w, .int h, .ref q562, .ref q571, .ref q574, .ref q577, .ref q580, .ref q583, .ref q586, .int 0, .int (-1), .int 0, .int 0, .long 0, .ref q599, .ref q600, .ref q601, .ref q602]))] := hD
        refine lv_aload_n hx hb d_Mod_frame_85 rfl (lv_at hl 1 rfl) ?_
        refine va_get (D := D) (ci := 12) (v := .ref q562) (C := R_Mod) (T := F_Mod) (N := 19) hx hb htw i_Mod hown hC.1 hP 5 rfl rfl 3 (by decide) (htw _ k521) (fun _ h9 => h9) rfl d_Mod_frame_86 ?_
        refine lv_iload_n hx hb d_Mod_frame_89 rfl (lv_at hl 2 rfl) ?_
        refine lv_iload_n hx hb d_Mod_frame_90 rfl (lv_at hl 3 rfl) ?_
        refine wc_v (wr := [(q586, .inr (18, [.int 0, .int 0, .int 0, .int 1, .int 1, .ref z589, .ref z590, .ref z591, .int 0, .ref z592, .int (-1), .int 0, .ref z593, .ref z594, .int (-1), .int 0, .ref z595, .int (-1), .int 15, .ref z596, .ref z597, .ref z598])), (z589, .inl (cI, 65536, .inl (fun _ => 0))), (z590, .inl (cI, 16384, .inl (fun _ => 0))), (z591, .inl (cI, 16384, .inl (fun _ => 0))), (h0, .inr (12, [.int 0, .int w, .int h, .ref q562, .ref q571, .ref q574, .ref q577, .ref q580, .ref q583, .ref q586, .int 0, .int (-1), .int 0, .int 0, .long 0, .ref q599, .ref q600, .ref q601, .ref q602]))]) hC hP hD hS [0] [1, 2, 3, 4, 5] rfl rfl (by decide) (by decide) (va_runV (As := [.int w, .int h]) (rest := []) ⟨hx, hb, hml, hown, htw⟩ (c_Cframe l D cI cL B _ q562 z565 z566 z567 z568 z569 w h (h1) (h2) (h3) (h4)) (cwV 2 htw gV_Mod_98 rfl rfl rfl (by decide +kernel) ⟨Nat.le_of_ble_eq_true rfl, Nat.le_of_ble_eq_true rfl⟩) (wC_preV (As := [.int w, .int h]) hC hP hD hS [0] (by decide) rfl (q0 := 0) rfl rfl) rfl rfl hl.1 rfl (lv_room (Nat.le_of_ble_eq_true rfl)) d_Mod_frame_91 ⟨Nat.le_of_ble_eq_true rfl, Nat.le_of_ble_eq_true rfl⟩) (fun u1319 H locs hw1320 hP hD hS => ?_)
        have hP : va_P D classes [(q586, .inr (18, [.int 0, .int 0, .int 0, .int 1, .int 1, .ref z589, .ref z590, .ref z591, .int 0, .ref z592, .int (-1), .int 0, .ref z593, .ref z594, .int (-1), .int 0, .ref z595, .int (-1), .int 15, .ref z596, .ref z597, .ref z598])), (z589, .inl (cI, 65536, .inl (fun _ => 0))), (z590, .inl (cI, 16384, .inl (fun _ => 0))), (z591, .inl (cI, 16384, .inl (fun _ => 0))), (h0, .inr (12, [.int 0, .int w, .int h, .ref q562, .ref q571, .ref q574, .ref q577, .ref q580, .ref q583, .ref q586, .int 0, .int (-1), .int 0, .int 0, .long 0, .ref q599, .ref q600, .ref q601, .ref q602]))] H := hP
        have hD : va_D A [(q586, .inr (18, [.int 0, .int 0, .int 0, .int 1, .int 1, .ref z589, .ref z590, .ref z591, .int 0, .ref z592, .int (-1), .int 0, .ref z593, .ref z594, .int (-1), .int 0, .ref z595, .int (-1), .int 15, .ref z596, .ref z597, .ref z598])), (z589, .inl (cI, 65536, .inl (fun _ => 0))), (z590, .inl (cI, 16384, .inl (fun _ => 0))), (z591, .inl (cI, 16384, .inl (fun _ => 0))), (h0, .inr (12, [.int 0, .int w, .int h, .ref q562, .ref q571, .ref q574, .ref q577, .ref q580, .ref q583, .ref q586, .int 0, .int (-1), .int 0, .int 0, .long 0, .ref q599, .ref q600, .ref q601, .ref q602]))] := hD
        refine W.widen (k := 0) (n := 0) (by omega) (by omega) ?_
        refine lv_aload_n hx hb d_Mod_frame_94 rfl (lv_at hl 1 rfl) ?_
        refine va_get (D := D) (ci := 12) (v := .ref q586) (C := R_Mod) (T := F_Mod) (N := 19) hx hb htw i_Mod hown hC.1 hP 4 rfl rfl 9 (by decide) (htw _ k547) (fun _ h9 => h9) rfl d_Mod_frame_95 ?_
        refine lv_iconst (v := 0) hx hb d_Mod_frame_98 (by decide) ?_
        refine lv_iconst (v := 0) hx hb d_Mod_frame_99 (by decide) ?_
        refine lv_iload_n hx hb d_Mod_frame_100 rfl (lv_at hl 2 rfl) ?_
        refine lv_iload_n hx hb d_Mod_frame_101 rfl (lv_at hl 3 rfl) ?_
        refine wc_v (wr := [(h0, .inr (12, [.int 0, .int w, .int h, .ref q562, .ref q571, .ref q574, .ref q577, .ref q580, .ref q583, .ref q586, .int 0, .int (-1), .int 0, .int 0, .long 0, .ref q599, .ref q600, .ref q601, .ref q602]))]) hC hP hD hS [0, 1, 2, 3] [4] rfl rfl (by decide) (by decide) (va_runV (As := [.int 0, .int 0, .int w, .int h]) (rest := []) ⟨hx, hb, hml, hown, htw⟩ (c_Pframe l D cI cL B _ q586 z589 z590 z591 z592 z593 z594 z595 z596 z597 z598 w h (h1) (h2) (h3) (h4)) (cwV 4 htw gV_Mod_102 rfl rfl rfl (by decide +kernel) ⟨Nat.le_of_ble_eq_true rfl, Nat.le_of_ble_eq_true rfl⟩) (wC_preV (As := [.int 0, .int 0, .int w, .int h]) hC hP hD hS [0, 1, 2, 3] (by decide) rfl (q0 := 0) rfl rfl) rfl rfl hl.1 rfl (lv_room (Nat.le_of_ble_eq_true rfl)) d_Mod_frame_102 ⟨Nat.le_of_ble_eq_true rfl, Nat.le_of_ble_eq_true rfl⟩) (fun u1321 H locs hw1322 hP hD hS => ?_)
        have hP : va_P D classes [(h0, .inr (12, [.int 0, .int w, .int h, .ref q562, .ref q571, .ref q574, .ref q577, .ref q580, .ref q583, .ref q586, .int 0, .int (-1), .int 0, .int 0, .long 0, .ref q599, .ref q600, .ref q601, .ref q602]))] H := hP
        have hD : va_D A [(h0, .inr (12, [.int 0, .int w, .int h, .ref q562, .ref q571, .ref q574, .ref q577, .ref q580, .ref q583, .ref q586, .int 0, .int (-1), .int 0, .int 0, .long 0, .ref q599, .ref q600, .ref q601, .ref q602]))] := hD
        refine W.widen (k := 0) (n := 0) (by omega) (by omega) ?_
        refine lv_iload_n hx hb d_Mod_frame_105 rfl (lv_at hl 2 rfl) ?_
        refine lv_iload_n hx hb d_Mod_frame_106 rfl (lv_at hl 4 rfl) ?_
        refine lv_iadd hx hb d_Mod_frame_107 ?_
        refine lv_iconst (v := 1) hx hb d_Mod_frame_108 (by decide) ?_
        refine lv_isub hx hb d_Mod_frame_109 ?_
        refine lv_iload_n hx hb d_Mod_frame_110 rfl (lv_at hl 4 rfl) ?_
        refine lv_idiv hx hb d_Mod_frame_111 (sd_nz hs) ?_
        refine lv_iload_n hx hb d_Mod_frame_112 rfl (lv_at hl 3 rfl) ?_
        refine lv_iload_n hx hb d_Mod_frame_113 rfl (lv_at hl 4 rfl) ?_
        refine lv_iadd hx hb d_Mod_frame_114 ?_
        refine lv_iconst (v := 1) hx hb d_Mod_frame_115 (by decide) ?_
        refine lv_isub hx hb d_Mod_frame_116 ?_
        refine lv_iload_n hx hb d_Mod_frame_117 rfl (lv_at hl 4 rfl) ?_
        refine lv_idiv hx hb d_Mod_frame_118 (sd_nz hs) ?_
        refine lv_imul hx hb d_Mod_frame_119 ?_
        refine W.widen (k := 0) (n := 0) (Nat.le_of_ble_eq_true rfl) (Nat.le_of_ble_eq_true rfl) ?_
        have hP9 := hP.sub (ws' := [(h0, .inr (12, [.int 0, .int w, .int h, .ref q562, .ref q571, .ref q574, .ref q577, .ref q580, .ref q583, .ref q586, .int 0, .int (-1), .int 0, .int 0, .long 0, .ref q599, .ref q600, .ref q601, .ref q602]))]) [0] rfl
        have hD9 := hD.sub (ws' := [(h0, .inr (12, [.int 0, .int w, .int h, .ref q562, .ref q571, .ref q574, .ref q577, .ref q580, .ref q583, .ref q586, .int 0, .int (-1), .int 0, .int 0, .long 0, .ref q599, .ref q600, .ref q601, .ref q602]))]) [0] (by decide) rfl
        exact W.iret (v := ((((w + sd) - 1) / sd) * (((h + sd) - 1) / sd))) hx hb hr (fun t ht hW => ⟨⟨((((w + sd) - 1) / sd) * (((h + sd) - 1) / sd)), (), rfl, rfl, by rw [ht]; exact hP9, va_K.moved hW.alike hC.1, hD9⟩, hS.F ht⟩) hS.2.2 d_Mod_frame_120
      ·
        refine lv_iload_n hx hb d_Mod_frame_42 rfl (lv_at hl 3 rfl) ?_
        refine lv_bipush (v := 64) hx hb d_Mod_frame_43 (by decide) ?_
        refine lv_icmp_ne (tgt := 52) hx hb d_Mod_frame_45 (by decide) (fun c_1323 => by rcases hs with h | h | h | h <;> contradiction) (fun c_1323 => ?_)
        refine lv_iconst (v := 1) hx hb d_Mod_frame_48 (by decide) ?_
        refine lv_goto (tgt := 53) hx hb d_Mod_frame_49 (by decide) ?_
        refine lv_istore (lv' := [(4, .int 1), (0, .ref h0), (1, .int w), (2, .int h), (3, .int sd)]) hx hb d_Mod_frame_53 hl (by decide) rfl (fun ls hl => ?_)
        refine lv_aload_n hx hb d_Mod_frame_55 rfl (lv_at hl 1 rfl) ?_
        refine lv_iload hx hb d_Mod_frame_56 (lv_at hl 0 rfl) ?_
        refine lv_if_ne (tgt := 65) hx hb d_Mod_frame_58 (by decide) (fun c_1324 => ?_) (fun c_1324 => absurd c_1324 (by decide))
        refine lv_iconst (v := 0) hx hb d_Mod_frame_65 (by decide) ?_
        refine lv_iconst (v := 0) hx hb d_Mod_frame_66 (by decide) ?_
        refine wc_i (wr := [(q562, .inr (13, [.int 0, .ref z565, .int 1, .int 1, .ref z566, .int 0, .int 0, .int 0, .ref z567, .int 0, .int 0, .int (-1), .int (-1), .int 0, .int (-1), .int 0, .ref z568, .ref z569])), (q586, .inr (18, [.int 0, .int 0, .int 0, .int 1, .int 1, .ref z589, .ref z590, .ref z591, .int 0, .ref z592, .int (-1), .int 0, .ref z593, .ref z594, .int (-1), .int 0, .ref z595, .int (-1), .int 15, .ref z596, .ref z597, .ref z598])), (z589, .inl (cI, 65536, .inl (fun _ => 0))), (z590, .inl (cI, 16384, .inl (fun _ => 0))), (z591, .inl (cI, 16384, .inl (fun _ => 0)))]) hC hP hD hS [0] [1, 2, 3, 4, 5] rfl rfl (by decide) (by decide) (va_runV (As := [.int 0, .int 0]) (rest := []) ⟨hx, hb, hml, hown, htw⟩ (c_Mref_00 l D cI cL B _ h0 q562 q571 q574 q577 q580 q583 q586 q599 q600 q601 q602) (cwV 2 htw gV_Mod_94 rfl rfl rfl (by decide +kernel) ⟨Nat.le_of_ble_eq_true rfl, Nat.le_of_ble_eq_true rfl⟩) (wC_preV (As := [.int 0, .int 0]) hC hP hD hS [0] (by decide) rfl (q0 := 0) rfl rfl) rfl rfl hl.1 rfl (lv_room (Nat.le_of_ble_eq_true rfl)) d_Mod_frame_67 ⟨Nat.le_of_ble_eq_true rfl, Nat.le_of_ble_eq_true rfl⟩) (fun r1327 u1325 H locs hw1326 hP hD hS => ?_)
        obtain rfl : r1327 = 0 := hw1326
        have hP : va_P D classes [(q562, .inr (13, [.int 0, .ref z565, .int 1, .int 1, .ref z566, .int 0, .int 0, .int 0, .ref z567, .int 0, .int 0, .int (-1), .int (-1), .int 0, .int (-1), .int 0, .ref z568, .ref z569])), (q586, .inr (18, [.int 0, .int 0, .int 0, .int 1, .int 1, .ref z589, .ref z590, .ref z591, .int 0, .ref z592, .int (-1), .int 0, .ref z593, .ref z594, .int (-1), .int 0, .ref z595, .int (-1), .int 15, .ref z596, .ref z597, .ref z598])), (z589, .inl (cI, 65536, .inl (fun _ => 0))), (z590, .inl (cI, 16384, .inl (fun _ => 0))), (z591, .inl (cI, 16384, .inl (fun _ => 0))), (h0, .inr (12, [.int 0, .int 1, .int 1, .ref q562, .ref q571, .ref q574, .ref q577, .ref q580, .ref q583, .ref q586, .int 0, .int (-1), .int 0, .int 0, .long 0, .ref q599, .ref q600, .ref q601, .ref q602]))] H := hP
        have hD : va_D A [(q562, .inr (13, [.int 0, .ref z565, .int 1, .int 1, .ref z566, .int 0, .int 0, .int 0, .ref z567, .int 0, .int 0, .int (-1), .int (-1), .int 0, .int (-1), .int 0, .ref z568, .ref z569])), (q586, .inr (18, [.int 0, .int 0, .int 0, .int 1, .int 1, .ref z589, .ref z590, .ref z591, .int 0, .ref z592, .int (-1), .int 0, .ref z593, .ref z594, .int (-1), .int 0, .ref z595, .int (-1), .int 15, .ref z596, .ref z597, .ref z598])), (z589, .inl (cI, 65536, .inl (fun _ => 0))), (z590, .inl (cI, 16384, .inl (fun _ => 0))), (z591, .inl (cI, 16384, .inl (fun _ => 0))), (h0, .inr (12, [.int 0, .int 1, .int 1, .ref q562, .ref q571, .ref q574, .ref q577, .ref q580, .ref q583, .ref q586, .int 0, .int (-1), .int 0, .int 0, .long 0, .ref q599, .ref q600, .ref q601, .ref q602]))] := hD
        refine W.widen (k := 0) (n := 0) (by omega) (by omega) ?_
        refine lv_if_eq (tgt := 75) hx hb d_Mod_frame_70 (by decide) (fun c_1328 => ?_) (fun c_1328 => absurd c_1328 (by decide))
        refine lv_aload_n hx hb d_Mod_frame_75 rfl (lv_at hl 1 rfl) ?_
        refine lv_iload_n hx hb d_Mod_frame_76 rfl (lv_at hl 2 rfl) ?_
        refine va_put (D := D) (ci := 12) (v := .int w) (ty := .int) (C := R_Mod) (T := F_Mod) (N := 19) hx hb htw i_Mod t_Mod t_Mod_ok n_Mod hown hC.1 hP hD hS 5 rfl rfl 1 (by decide) (htw _ k515) (fun _ h9 => h9) rfl (by decide +kernel) rfl rfl (Nat.le_of_ble_eq_true rfl) d_Mod_frame_77 (fun H locs hP hD hS => ?_)
        have hP : va_P D classes [(q562, .inr (13, [.int 0, .ref z565, .int 1, .int 1, .ref z566, .int 0, .int 0, .int 0, .ref z567, .int 0, .int 0, .int (-1), .int (-1), .int 0, .int (-1), .int 0, .ref z568, .ref z569])), (q586, .inr (18, [.int 0, .int 0, .int 0, .int 1, .int 1, .ref z589, .ref z590, .ref z591, .int 0, .ref z592, .int (-1), .int 0, .ref z593, .ref z594, .int (-1), .int 0, .ref z595, .int (-1), .int 15, .ref z596, .ref z597, .ref z598])), (z589, .inl (cI, 65536, .inl (fun _ => 0))), (z590, .inl (cI, 16384, .inl (fun _ => 0))), (z591, .inl (cI, 16384, .inl (fun _ => 0))), (h0, .inr (12, [.int 0, .int w, .int 1, .ref q562, .ref q571, .ref q574, .ref q577, .ref q580, .ref q583, .ref q586, .int 0, .int (-1), .int 0, .int 0, .long 0, .ref q599, .ref q600, .ref q601, .ref q602]))] H := hP
        have hD : va_D A [(q562, .inr (13, [.int 0, .ref z565, .int 1, .int 1, .ref z566, .int 0, .int 0, .int 0, .ref z567, .int 0, .int 0, .int (-1), .int (-1), .int 0, .int (-1), .int 0, .ref z568, .ref z569])), (q586, .inr (18, [.int 0, .int 0, .int 0, .int 1, .int 1, .ref z589, .ref z590, .ref z591, .int 0, .ref z592, .int (-1), .int 0, .ref z593, .ref z594, .int (-1), .int 0, .ref z595, .int (-1), .int 15, .ref z596, .ref z597, .ref z598])), (z589, .inl (cI, 65536, .inl (fun _ => 0))), (z590, .inl (cI, 16384, .inl (fun _ => 0))), (z591, .inl (cI, 16384, .inl (fun _ => 0))), (h0, .inr (12, [.int 0, .int w, .int 1, .ref q562, .ref q571, .ref q574, .ref q577, .ref q580, .ref q583, .ref q586, .int 0, .int (-1), .int 0, .int 0, .long 0, .ref q599, .ref q600, .ref q601, .ref q602]))] := hD
        refine lv_aload_n hx hb d_Mod_frame_80 rfl (lv_at hl 1 rfl) ?_
        refine lv_iload_n hx hb d_Mod_frame_81 rfl (lv_at hl 3 rfl) ?_
        refine va_put (D := D) (ci := 12) (v := .int h) (ty := .int) (C := R_Mod) (T := F_Mod) (N := 19) hx hb htw i_Mod t_Mod t_Mod_ok n_Mod hown hC.1 hP hD hS 5 rfl rfl 2 (by decide) (htw _ k516) (fun _ h9 => h9) rfl (by decide +kernel) rfl rfl (Nat.le_of_ble_eq_true rfl) d_Mod_frame_82 (fun H locs hP hD hS => ?_)
        have hP : va_P D classes [(q562, .inr (13, [.int 0, .ref z565, .int 1, .int 1, .ref z566, .int 0, .int 0, .int 0, .ref z567, .int 0, .int 0, .int (-1), .int (-1), .int 0, .int (-1), .int 0, .ref z568, .ref z569])), (q586, .inr (18, [.int 0, .int 0, .int 0, .int 1, .int 1, .ref z589, .ref z590, .ref z591, .int 0, .ref z592, .int (-1), .int 0, .ref z593, .ref z594, .int (-1), .int 0, .ref z595, .int (-1), .int 15, .ref z596, .ref z597, .ref z598])), (z589, .inl (cI, 65536, .inl (fun _ => 0))), (z590, .inl (cI, 16384, .inl (fun _ => 0))), (z591, .inl (cI, 16384, .inl (fun _ => 0))), (h0, .inr (12, [.int 0, .int w, .int h, .ref q562, .ref q571, .ref q574, .ref q577, .ref q580, .ref q583, .ref q586, .int 0, .int (-1), .int 0, .int 0, .long 0, .ref q599, .ref q600, .ref q601, .ref q602]))] H := hP
        have hD : va_D A [(q562, .inr (13, [.int 0, .ref z565, .int 1, .int 1, .ref z566, .int 0, .int 0, .int 0, .ref z567, .int 0, .int 0, .int (-1), .int (-1), .int 0, .int (-1), .int 0, .ref z568, .ref z569])), (q586, .inr (18, [.int 0, .int 0, .int 0, .int 1, .int 1, .ref z589, .ref z590, .ref z591, .int 0, .ref z592, .int (-1), .int 0, .ref z593, .ref z594, .int (-1), .int 0, .ref z595, .int (-1), .int 15, .ref z596, .ref z597, .ref z598])), (z589, .inl (cI, 65536, .inl (fun _ => 0))), (z590, .inl (cI, 16384, .inl (fun _ => 0))), (z591, .inl (cI, 16384, .inl (fun _ => 0))), (h0, .inr (12, [.int 0, .int w, .int h, .ref q562, .ref q571, .ref q574, .ref q577, .ref q580, .ref q583, .ref q586, .int 0, .int (-1), .int 0, .int 0, .long 0, .ref q599, .ref q600, .ref q601, .ref q602]))] := hD
        refine lv_aload_n hx hb d_Mod_frame_85 rfl (lv_at hl 1 rfl) ?_
        refine va_get (D := D) (ci := 12) (v := .ref q562) (C := R_Mod) (T := F_Mod) (N := 19) hx hb htw i_Mod hown hC.1 hP 5 rfl rfl 3 (by decide) (htw _ k521) (fun _ h9 => h9) rfl d_Mod_frame_86 ?_
        refine lv_iload_n hx hb d_Mod_frame_89 rfl (lv_at hl 2 rfl) ?_
        refine lv_iload_n hx hb d_Mod_frame_90 rfl (lv_at hl 3 rfl) ?_
        refine wc_v (wr := [(q586, .inr (18, [.int 0, .int 0, .int 0, .int 1, .int 1, .ref z589, .ref z590, .ref z591, .int 0, .ref z592, .int (-1), .int 0, .ref z593, .ref z594, .int (-1), .int 0, .ref z595, .int (-1), .int 15, .ref z596, .ref z597, .ref z598])), (z589, .inl (cI, 65536, .inl (fun _ => 0))), (z590, .inl (cI, 16384, .inl (fun _ => 0))), (z591, .inl (cI, 16384, .inl (fun _ => 0))), (h0, .inr (12, [.int 0, .int w, .int h, .ref q562, .ref q571, .ref q574, .ref q577, .ref q580, .ref q583, .ref q586, .int 0, .int (-1), .int 0, .int 0, .long 0, .ref q599, .ref q600, .ref q601, .ref q602]))]) hC hP hD hS [0] [1, 2, 3, 4, 5] rfl rfl (by decide) (by decide) (va_runV (As := [.int w, .int h]) (rest := []) ⟨hx, hb, hml, hown, htw⟩ (c_Cframe l D cI cL B _ q562 z565 z566 z567 z568 z569 w h (h1) (h2) (h3) (h4)) (cwV 2 htw gV_Mod_98 rfl rfl rfl (by decide +kernel) ⟨Nat.le_of_ble_eq_true rfl, Nat.le_of_ble_eq_true rfl⟩) (wC_preV (As := [.int w, .int h]) hC hP hD hS [0] (by decide) rfl (q0 := 0) rfl rfl) rfl rfl hl.1 rfl (lv_room (Nat.le_of_ble_eq_true rfl)) d_Mod_frame_91 ⟨Nat.le_of_ble_eq_true rfl, Nat.le_of_ble_eq_true rfl⟩) (fun u1329 H locs hw1330 hP hD hS => ?_)
        have hP : va_P D classes [(q586, .inr (18, [.int 0, .int 0, .int 0, .int 1, .int 1, .ref z589, .ref z590, .ref z591, .int 0, .ref z592, .int (-1), .int 0, .ref z593, .ref z594, .int (-1), .int 0, .ref z595, .int (-1), .int 15, .ref z596, .ref z597, .ref z598])), (z589, .inl (cI, 65536, .inl (fun _ => 0))), (z590, .inl (cI, 16384, .inl (fun _ => 0))), (z591, .inl (cI, 16384, .inl (fun _ => 0))), (h0, .inr (12, [.int 0, .int w, .int h, .ref q562, .ref q571, .ref q574, .ref q577, .ref q580, .ref q583, .ref q586, .int 0, .int (-1), .int 0, .int 0, .long 0, .ref q599, .ref q600, .ref q601, .ref q602]))] H := hP
        have hD : va_D A [(q586, .inr (18, [.int 0, .int 0, .int 0, .int 1, .int 1, .ref z589, .ref z590, .ref z591, .int 0, .ref z592, .int (-1), .int 0, .ref z593, .ref z594, .int (-1), .int 0, .ref z595, .int (-1), .int 15, .ref z596, .ref z597, .ref z598])), (z589, .inl (cI, 65536, .inl (fun _ => 0))), (z590, .inl (cI, 16384, .inl (fun _ => 0))), (z591, .inl (cI, 16384, .inl (fun _ => 0))), (h0, .inr (12, [.int 0, .int w, .int h, .ref q562, .ref q571, .ref q574, .ref q577, .ref q580, .ref q583, .ref q586, .int 0, .int (-1), .int 0, .int 0, .long 0, .ref q599, .ref q600, .ref q601, .ref q602]))] := hD
        refine W.widen (k := 0) (n := 0) (by omega) (by omega) ?_
        refine lv_aload_n hx hb d_Mod_frame_94 rfl (lv_at hl 1 rfl) ?_
        refine va_get (D := D) (ci := 12) (v := .ref q586) (C := R_Mod) (T := F_Mod) (N := 19) hx hb htw i_Mod hown hC.1 hP 4 rfl rfl 9 (by decide) (htw _ k547) (fun _ h9 => h9) rfl d_Mod_frame_95 ?_
        refine lv_iconst (v := 0) hx hb d_Mod_frame_98 (by decide) ?_
        refine lv_iconst (v := 0) hx hb d_Mod_frame_99 (by decide) ?_
        refine lv_iload_n hx hb d_Mod_frame_100 rfl (lv_at hl 2 rfl) ?_
        refine lv_iload_n hx hb d_Mod_frame_101 rfl (lv_at hl 3 rfl) ?_
        refine wc_v (wr := [(h0, .inr (12, [.int 0, .int w, .int h, .ref q562, .ref q571, .ref q574, .ref q577, .ref q580, .ref q583, .ref q586, .int 0, .int (-1), .int 0, .int 0, .long 0, .ref q599, .ref q600, .ref q601, .ref q602]))]) hC hP hD hS [0, 1, 2, 3] [4] rfl rfl (by decide) (by decide) (va_runV (As := [.int 0, .int 0, .int w, .int h]) (rest := []) ⟨hx, hb, hml, hown, htw⟩ (c_Pframe l D cI cL B _ q586 z589 z590 z591 z592 z593 z594 z595 z596 z597 z598 w h (h1) (h2) (h3) (h4)) (cwV 4 htw gV_Mod_102 rfl rfl rfl (by decide +kernel) ⟨Nat.le_of_ble_eq_true rfl, Nat.le_of_ble_eq_true rfl⟩) (wC_preV (As := [.int 0, .int 0, .int w, .int h]) hC hP hD hS [0, 1, 2, 3] (by decide) rfl (q0 := 0) rfl rfl) rfl rfl hl.1 rfl (lv_room (Nat.le_of_ble_eq_true rfl)) d_Mod_frame_102 ⟨Nat.le_of_ble_eq_true rfl, Nat.le_of_ble_eq_true rfl⟩) (fun u1331 H locs hw1332 hP hD hS => ?_)
        have hP : va_P D classes [(h0, .inr (12, [.int 0, .int w, .int h, .ref q562, .ref q571, .ref q574, .ref q577, .ref q580, .ref q583, .ref q586, .int 0, .int (-1), .int 0, .int 0, .long 0, .ref q599, .ref q600, .ref q601, .ref q602]))] H := hP
        have hD : va_D A [(h0, .inr (12, [.int 0, .int w, .int h, .ref q562, .ref q571, .ref q574, .ref q577, .ref q580, .ref q583, .ref q586, .int 0, .int (-1), .int 0, .int 0, .long 0, .ref q599, .ref q600, .ref q601, .ref q602]))] := hD
        refine W.widen (k := 0) (n := 0) (by omega) (by omega) ?_
        refine lv_iload_n hx hb d_Mod_frame_105 rfl (lv_at hl 2 rfl) ?_
        refine lv_iload_n hx hb d_Mod_frame_106 rfl (lv_at hl 4 rfl) ?_
        refine lv_iadd hx hb d_Mod_frame_107 ?_
        refine lv_iconst (v := 1) hx hb d_Mod_frame_108 (by decide) ?_
        refine lv_isub hx hb d_Mod_frame_109 ?_
        refine lv_iload_n hx hb d_Mod_frame_110 rfl (lv_at hl 4 rfl) ?_
        refine lv_idiv hx hb d_Mod_frame_111 (sd_nz hs) ?_
        refine lv_iload_n hx hb d_Mod_frame_112 rfl (lv_at hl 3 rfl) ?_
        refine lv_iload_n hx hb d_Mod_frame_113 rfl (lv_at hl 4 rfl) ?_
        refine lv_iadd hx hb d_Mod_frame_114 ?_
        refine lv_iconst (v := 1) hx hb d_Mod_frame_115 (by decide) ?_
        refine lv_isub hx hb d_Mod_frame_116 ?_
        refine lv_iload_n hx hb d_Mod_frame_117 rfl (lv_at hl 4 rfl) ?_
        refine lv_idiv hx hb d_Mod_frame_118 (sd_nz hs) ?_
        refine lv_imul hx hb d_Mod_frame_119 ?_
        refine W.widen (k := 0) (n := 0) (Nat.le_of_ble_eq_true rfl) (Nat.le_of_ble_eq_true rfl) ?_
        have hP9 := hP.sub (ws' := [(h0, .inr (12, [.int 0, .int w, .int h, .ref q562, .ref q571, .ref q574, .ref q577, .ref q580, .ref q583, .ref q586, .int 0, .int (-1), .int 0, .int 0, .long 0, .ref q599, .ref q600, .ref q601, .ref q602]))]) [0] rfl
        have hD9 := hD.sub (ws' := [(h0, .inr (12, [.int 0, .int w, .int h, .ref q562, .ref q571, .ref q574, .ref q577, .ref q580, .ref q583, .ref q586, .int 0, .int (-1), .int 0, .int 0, .long 0, .ref q599, .ref q600, .ref q601, .ref q602]))]) [0] (by decide) rfl
        exact W.iret (v := ((((w + sd) - 1) / sd) * (((h + sd) - 1) / sd))) hx hb hr (fun t ht hW => ⟨⟨((((w + sd) - 1) / sd) * (((h + sd) - 1) / sd)), (), rfl, rfl, by rw [ht]; exact hP9, va_K.moved hW.alike hC.1, hD9⟩, hS.F ht⟩) hS.2.2 d_Mod_frame_120

theorem d_Mod_frame_52 : decode prog_14_method_5_code 52 = .ok (.iconst 0, 1) := by decide +kernel
theorem d_Mod_frame_61 : decode prog_14_method_5_code 61 = .ok (.iconst 1, 1) := by decide +kernel
theorem d_Mod_frame_62 : decode prog_14_method_5_code 62 = .ok (.goto 4, 3) := by decide +kernel
theorem d_Mod_frame_73 : decode prog_14_method_5_code 73 = .ok (.iconst 0, 1) := by decide +kernel
theorem d_Mod_frame_74 : decode prog_14_method_5_code 74 = .ok (.ireturn, 1) := by decide +kernel
set_option maxHeartbeats 4000000 in
set_option maxRecDepth 100000 in
theorem c_Mframe_b1 (l : Launch) (D : va_G) (cI cL : ClassId) (B sz : Nat) (h0 : Nat) (q562 : Nat) (q571 : Nat) (q574 : Nat) (q577 : Nat) (q580 : Nat) (q583 : Nat) (q586 : Nat) (q599 : Nat) (q600 : Nat) (q601 : Nat) (q602 : Nat) (w : Int32) (h : Int32) (sd : Int32) (hbd : w < 1 ∨ 128 < w) : Met l y_Mod_frame ((Cond.code y_Mod_frame prog_14_method_5_code 5 (some .int)) :: tw) ({ frames := 50, cells := 0, slots := 0, locals := 5000 }) (va_Pc [.ref h0, .int w, .int h, .int sd] (wP D cI cL B sz [(h0, .inr (12, [.int 0, .int 1, .int 1, .ref q562, .ref q571, .ref q574, .ref q577, .ref q580, .ref q583, .ref q586, .int 0, .int (-1), .int 0, .int 0, .long 0, .ref q599, .ref q600, .ref q601, .ref q602]))])) (va_Qi (S := Unit) (fun r u => r = 0) (fun u => wB D cI cL (va_A [(h0, .inr (12, [.int 0, .int 1, .int 1, .ref q562, .ref q571, .ref q574, .ref q577, .ref q580, .ref q583, .ref q586, .int 0, .int (-1), .int 0, .int 0, .long 0, .ref q599, .ref q600, .ref q601, .ref q602]))] sz) ((fun _ : Unit => [(h0, .inr (12, [.int 1, .int 1, .int 1, .ref q562, .ref q571, .ref q574, .ref q577, .ref q580, .ref q583, .ref q586, .int 0, .int (-1), .int 0, .int 0, .long 0, .ref q599, .ref q600, .ref q601, .ref q602]))]) u)) (va_A [(h0, .inr (12, [.int 0, .int 1, .int 1, .ref q562, .ref q571, .ref q574, .ref q577, .ref q580, .ref q583, .ref q586, .int 0, .int (-1), .int 0, .int 0, .long 0, .ref q599, .ref q600, .ref q601, .ref q602]))] sz)) 0 0 (va_A [(h0, .inr (12, [.int 0, .int 1, .int 1, .ref q562, .ref q571, .ref q574, .ref q577, .ref q580, .ref q583, .ref q586, .int 0, .int (-1), .int 0, .int 0, .long 0, .ref q599, .ref q600, .ref q601, .ref q602]))] sz) := by
  refine Met.ofW (cc := prog_14_method_5_code) (maxL := 5) (ret := (some .int)) (by decide) rfl ?_
  intro p e s m args below meth c s₁ B0 hml hv
  obtain ⟨rfl, hv⟩ := hv
  have hx := B0.exec
  have hb := B0.bytes
  have hr := B0.returns
  have hts := atoms_spec (ws := (Cond.code y_Mod_frame prog_14_method_5_code 5 (some .int)) :: tw) B0.pre
  have htw : ∀ w ∈ tw, w.before _ s = true := fun w hw => hts w (List.mem_cons_of_mem _ hw)
  have hown : s.vm.findClass "DrawingMachineModel" = some m.cls := findClass_of_methodNamed B0.named
  have hlocks := B0.notSynchronized
  obtain ⟨hC, hP, hD, hsz⟩ := wC_init hv
  subst hsz
  generalize hAe : va_A [(h0, .inr (12, [.int 0, .int 1, .int 1, .ref q562, .ref q571, .ref q574, .ref q577, .ref q580, .ref q583, .ref q586, .int 0, .int (-1), .int 0, .int 0, .long 0, .ref q599, .ref q600, .ref q601, .ref q602]))] s.heap.size = A at hC hD ⊢
  have hS : va_S A s.heap s.heap [] := va_S.rf
  have hl := lv_entry ([.ref h0, .int w, .int h, .int sd]) (n := 5) (Nat.le_of_ble_eq_true rfl)
  rw [lg_entry_eq]
  generalize (lg_sl ([.ref h0, .int w, .int h, .int sd]) ++ List.replicate (5 - (lg_sl ([.ref h0, .int w, .int h, .int sd])).length) Slot.unset).toArray = ls at hl ⊢
  have hl : lv_has ls 5 [(0, .ref h0), (1, .int w), (2, .int h), (3, .int sd)] := hl
  refine lv_iload_n hx hb d_Mod_frame_0 rfl (lv_at hl 1 rfl) ?_
  refine lv_i2l (v := w.toInt64) hx hb d_Mod_frame_1 rfl ?_
  refine lv_lconst (v := 1) hx hb d_Mod_frame_2 (by decide) ?_
  refine lv_ldc2 (v := 128) hx hb hown (htw _ k630) d_Mod_frame_3 ?_
  refine wc_i (wr := [(h0, .inr (12, [.int 0, .int 1, .int 1, .ref q562, .ref q571, .ref q574, .ref q577, .ref q580, .ref q583, .ref q586, .int 0, .int (-1), .int 0, .int 0, .long 0, .ref q599, .ref q600, .ref q601, .ref q602]))]) hC hP hD hS [] [0] rfl rfl (by decide) (by decide) (va_runS (As := [.long w.toInt64, .long 1, .long 128]) (rest := []) ⟨hx, hb, hml, hown, htw⟩ (c_Mod_in_f l D cI cL B _ w.toInt64 1 128 (bad_in 1 128 (by decide) (by decide) hbd)) (va_cwS 3 htw gS_Mod_90 rfl rfl rfl (by decide +kernel) ⟨Nat.le_of_ble_eq_true rfl, Nat.le_of_ble_eq_true rfl⟩) (wC_pre hC hP hD hS [] (by decide) rfl) rfl rfl hl.1 rfl (lv_room (Nat.le_of_ble_eq_true rfl)) d_Mod_frame_6 ⟨Nat.le_of_ble_eq_true rfl, Nat.le_of_ble_eq_true rfl⟩) (fun r1335 u1333 H locs hw1334 hP hD hS => ?_)
  obtain rfl : r1335 = 0 := hw1334
  have hP : va_P D classes [(h0, .inr (12, [.int 0, .int 1, .int 1, .ref q562, .ref q571, .ref q574, .ref q577, .ref q580, .ref q583, .ref q586, .int 0, .int (-1), .int 0, .int 0, .long 0, .ref q599, .ref q600, .ref q601, .ref q602]))] H := hP
  have hD : va_D A [(h0, .inr (12, [.int 0, .int 1, .int 1, .ref q562, .ref q571, .ref q574, .ref q577, .ref q580, .ref q583, .ref q586, .int 0, .int (-1), .int 0, .int 0, .long 0, .ref q599, .ref q600, .ref q601, .ref q602]))] := hD
  refine W.widen (k := 0) (n := 0) (by omega) (by omega) ?_
  refine lv_if_eq (tgt := 52) hx hb d_Mod_frame_9 (by decide) (fun c_1336 => ?_) (fun c_1336 => absurd c_1336 (by decide))
  refine lv_iconst (v := 0) hx hb d_Mod_frame_52 (by decide) ?_
  refine lv_istore (lv' := [(4, .int 0), (0, .ref h0), (1, .int w), (2, .int h), (3, .int sd)]) hx hb d_Mod_frame_53 hl (by decide) rfl (fun ls hl => ?_)
  refine lv_aload_n hx hb d_Mod_frame_55 rfl (lv_at hl 1 rfl) ?_
  refine lv_iload hx hb d_Mod_frame_56 (lv_at hl 0 rfl) ?_
  refine lv_if_ne (tgt := 65) hx hb d_Mod_frame_58 (by decide) (fun c_1337 => absurd c_1337 (by decide)) (fun c_1337 => ?_)
  refine lv_iconst (v := 1) hx hb d_Mod_frame_61 (by decide) ?_
  refine lv_goto (tgt := 66) hx hb d_Mod_frame_62 (by decide) ?_
  refine lv_iconst (v := 0) hx hb d_Mod_frame_66 (by decide) ?_
  refine wc_i (wr := []) hC hP hD hS [0] [] rfl rfl (by decide) (by decide) (va_runV (As := [.int 1, .int 0]) (rest := []) ⟨hx, hb, hml, hown, htw⟩ (c_Mref_10 l D cI cL B _ h0 q562 q571 q574 q577 q580 q583 q586 q599 q600 q601 q602) (cwV 2 htw gV_Mod_94 rfl rfl rfl (by decide +kernel) ⟨Nat.le_of_ble_eq_true rfl, Nat.le_of_ble_eq_true rfl⟩) (wC_preV (As := [.int 1, .int 0]) hC hP hD hS [0] (by decide) rfl (q0 := 0) rfl rfl) rfl rfl hl.1 rfl (lv_room (Nat.le_of_ble_eq_true rfl)) d_Mod_frame_67 ⟨Nat.le_of_ble_eq_true rfl, Nat.le_of_ble_eq_true rfl⟩) (fun r1340 u1338 H locs hw1339 hP hD hS => ?_)
  obtain rfl : r1340 = 1 := hw1339
  have hP : va_P D classes [(h0, .inr (12, [.int 1, .int 1, .int 1, .ref q562, .ref q571, .ref q574, .ref q577, .ref q580, .ref q583, .ref q586, .int 0, .int (-1), .int 0, .int 0, .long 0, .ref q599, .ref q600, .ref q601, .ref q602]))] H := hP
  have hD : va_D A [(h0, .inr (12, [.int 1, .int 1, .int 1, .ref q562, .ref q571, .ref q574, .ref q577, .ref q580, .ref q583, .ref q586, .int 0, .int (-1), .int 0, .int 0, .long 0, .ref q599, .ref q600, .ref q601, .ref q602]))] := hD
  refine W.widen (k := 0) (n := 0) (by omega) (by omega) ?_
  refine lv_if_eq (tgt := 75) hx hb d_Mod_frame_70 (by decide) (fun c_1341 => absurd c_1341 (by decide)) (fun c_1341 => ?_)
  refine lv_iconst (v := 0) hx hb d_Mod_frame_73 (by decide) ?_
  refine W.widen (k := 0) (n := 0) (Nat.le_of_ble_eq_true rfl) (Nat.le_of_ble_eq_true rfl) ?_
  have hP9 := hP.sub (ws' := [(h0, .inr (12, [.int 1, .int 1, .int 1, .ref q562, .ref q571, .ref q574, .ref q577, .ref q580, .ref q583, .ref q586, .int 0, .int (-1), .int 0, .int 0, .long 0, .ref q599, .ref q600, .ref q601, .ref q602]))]) [0] rfl
  have hD9 := hD.sub (ws' := [(h0, .inr (12, [.int 1, .int 1, .int 1, .ref q562, .ref q571, .ref q574, .ref q577, .ref q580, .ref q583, .ref q586, .int 0, .int (-1), .int 0, .int 0, .long 0, .ref q599, .ref q600, .ref q601, .ref q602]))]) [0] (by decide) rfl
  exact W.iret (v := 0) hx hb hr (fun t ht hW => ⟨⟨0, (), rfl, rfl, by rw [ht]; exact hP9, va_K.moved hW.alike hC.1, hD9⟩, hS.F ht⟩) hS.2.2 d_Mod_frame_74

set_option maxHeartbeats 4000000 in
set_option maxRecDepth 100000 in
theorem c_Mframe_b2 (l : Launch) (D : va_G) (cI cL : ClassId) (B sz : Nat) (h0 : Nat) (q562 : Nat) (q571 : Nat) (q574 : Nat) (q577 : Nat) (q580 : Nat) (q583 : Nat) (q586 : Nat) (q599 : Nat) (q600 : Nat) (q601 : Nat) (q602 : Nat) (w : Int32) (h : Int32) (sd : Int32) (h1 : ¬ w < 1) (h2 : ¬ 128 < w) (hbd : h < 1 ∨ 128 < h) : Met l y_Mod_frame ((Cond.code y_Mod_frame prog_14_method_5_code 5 (some .int)) :: tw) ({ frames := 50, cells := 0, slots := 0, locals := 5000 }) (va_Pc [.ref h0, .int w, .int h, .int sd] (wP D cI cL B sz [(h0, .inr (12, [.int 0, .int 1, .int 1, .ref q562, .ref q571, .ref q574, .ref q577, .ref q580, .ref q583, .ref q586, .int 0, .int (-1), .int 0, .int 0, .long 0, .ref q599, .ref q600, .ref q601, .ref q602]))])) (va_Qi (S := Unit) (fun r u => r = 0) (fun u => wB D cI cL (va_A [(h0, .inr (12, [.int 0, .int 1, .int 1, .ref q562, .ref q571, .ref q574, .ref q577, .ref q580, .ref q583, .ref q586, .int 0, .int (-1), .int 0, .int 0, .long 0, .ref q599, .ref q600, .ref q601, .ref q602]))] sz) ((fun _ : Unit => [(h0, .inr (12, [.int 1, .int 1, .int 1, .ref q562, .ref q571, .ref q574, .ref q577, .ref q580, .ref q583, .ref q586, .int 0, .int (-1), .int 0, .int 0, .long 0, .ref q599, .ref q600, .ref q601, .ref q602]))]) u)) (va_A [(h0, .inr (12, [.int 0, .int 1, .int 1, .ref q562, .ref q571, .ref q574, .ref q577, .ref q580, .ref q583, .ref q586, .int 0, .int (-1), .int 0, .int 0, .long 0, .ref q599, .ref q600, .ref q601, .ref q602]))] sz)) 0 0 (va_A [(h0, .inr (12, [.int 0, .int 1, .int 1, .ref q562, .ref q571, .ref q574, .ref q577, .ref q580, .ref q583, .ref q586, .int 0, .int (-1), .int 0, .int 0, .long 0, .ref q599, .ref q600, .ref q601, .ref q602]))] sz) := by
  refine Met.ofW (cc := prog_14_method_5_code) (maxL := 5) (ret := (some .int)) (by decide) rfl ?_
  intro p e s m args below meth c s₁ B0 hml hv
  obtain ⟨rfl, hv⟩ := hv
  have hx := B0.exec
  have hb := B0.bytes
  have hr := B0.returns
  have hts := atoms_spec (ws := (Cond.code y_Mod_frame prog_14_method_5_code 5 (some .int)) :: tw) B0.pre
  have htw : ∀ w ∈ tw, w.before _ s = true := fun w hw => hts w (List.mem_cons_of_mem _ hw)
  have hown : s.vm.findClass "DrawingMachineModel" = some m.cls := findClass_of_methodNamed B0.named
  have hlocks := B0.notSynchronized
  obtain ⟨hC, hP, hD, hsz⟩ := wC_init hv
  subst hsz
  generalize hAe : va_A [(h0, .inr (12, [.int 0, .int 1, .int 1, .ref q562, .ref q571, .ref q574, .ref q577, .ref q580, .ref q583, .ref q586, .int 0, .int (-1), .int 0, .int 0, .long 0, .ref q599, .ref q600, .ref q601, .ref q602]))] s.heap.size = A at hC hD ⊢
  have hS : va_S A s.heap s.heap [] := va_S.rf
  have hl := lv_entry ([.ref h0, .int w, .int h, .int sd]) (n := 5) (Nat.le_of_ble_eq_true rfl)
  rw [lg_entry_eq]
  generalize (lg_sl ([.ref h0, .int w, .int h, .int sd]) ++ List.replicate (5 - (lg_sl ([.ref h0, .int w, .int h, .int sd])).length) Slot.unset).toArray = ls at hl ⊢
  have hl : lv_has ls 5 [(0, .ref h0), (1, .int w), (2, .int h), (3, .int sd)] := hl
  refine lv_iload_n hx hb d_Mod_frame_0 rfl (lv_at hl 1 rfl) ?_
  refine lv_i2l (v := w.toInt64) hx hb d_Mod_frame_1 rfl ?_
  refine lv_lconst (v := 1) hx hb d_Mod_frame_2 (by decide) ?_
  refine lv_ldc2 (v := 128) hx hb hown (htw _ k630) d_Mod_frame_3 ?_
  refine wc_i (wr := [(h0, .inr (12, [.int 0, .int 1, .int 1, .ref q562, .ref q571, .ref q574, .ref q577, .ref q580, .ref q583, .ref q586, .int 0, .int (-1), .int 0, .int 0, .long 0, .ref q599, .ref q600, .ref q601, .ref q602]))]) hC hP hD hS [] [0] rfl rfl (by decide) (by decide) (va_runS (As := [.long w.toInt64, .long 1, .long 128]) (rest := []) ⟨hx, hb, hml, hown, htw⟩ (c_Mod_in_t l D cI cL B _ w.toInt64 1 128 (good_lo 1 (by decide) h1) (good_hi 128 (by decide) h2)) (va_cwS 3 htw gS_Mod_90 rfl rfl rfl (by decide +kernel) ⟨Nat.le_of_ble_eq_true rfl, Nat.le_of_ble_eq_true rfl⟩) (wC_pre hC hP hD hS [] (by decide) rfl) rfl rfl hl.1 rfl (lv_room (Nat.le_of_ble_eq_true rfl)) d_Mod_frame_6 ⟨Nat.le_of_ble_eq_true rfl, Nat.le_of_ble_eq_true rfl⟩) (fun r1344 u1342 H locs hw1343 hP hD hS => ?_)
  obtain rfl : r1344 = 1 := hw1343
  have hP : va_P D classes [(h0, .inr (12, [.int 0, .int 1, .int 1, .ref q562, .ref q571, .ref q574, .ref q577, .ref q580, .ref q583, .ref q586, .int 0, .int (-1), .int 0, .int 0, .long 0, .ref q599, .ref q600, .ref q601, .ref q602]))] H := hP
  have hD : va_D A [(h0, .inr (12, [.int 0, .int 1, .int 1, .ref q562, .ref q571, .ref q574, .ref q577, .ref q580, .ref q583, .ref q586, .int 0, .int (-1), .int 0, .int 0, .long 0, .ref q599, .ref q600, .ref q601, .ref q602]))] := hD
  refine W.widen (k := 0) (n := 0) (by omega) (by omega) ?_
  refine lv_if_eq (tgt := 52) hx hb d_Mod_frame_9 (by decide) (fun c_1345 => absurd c_1345 (by decide)) (fun c_1345 => ?_)
  refine lv_iload_n hx hb d_Mod_frame_12 rfl (lv_at hl 2 rfl) ?_
  refine lv_i2l (v := h.toInt64) hx hb d_Mod_frame_13 rfl ?_
  refine lv_lconst (v := 1) hx hb d_Mod_frame_14 (by decide) ?_
  refine lv_ldc2 (v := 128) hx hb hown (htw _ k630) d_Mod_frame_15 ?_
  refine wc_i (wr := [(h0, .inr (12, [.int 0, .int 1, .int 1, .ref q562, .ref q571, .ref q574, .ref q577, .ref q580, .ref q583, .ref q586, .int 0, .int (-1), .int 0, .int 0, .long 0, .ref q599, .ref q600, .ref q601, .ref q602]))]) hC hP hD hS [] [0] rfl rfl (by decide) (by decide) (va_runS (As := [.long h.toInt64, .long 1, .long 128]) (rest := []) ⟨hx, hb, hml, hown, htw⟩ (c_Mod_in_f l D cI cL B _ h.toInt64 1 128 (bad_in 1 128 (by decide) (by decide) hbd)) (va_cwS 3 htw gS_Mod_90 rfl rfl rfl (by decide +kernel) ⟨Nat.le_of_ble_eq_true rfl, Nat.le_of_ble_eq_true rfl⟩) (wC_pre hC hP hD hS [] (by decide) rfl) rfl rfl hl.1 rfl (lv_room (Nat.le_of_ble_eq_true rfl)) d_Mod_frame_18 ⟨Nat.le_of_ble_eq_true rfl, Nat.le_of_ble_eq_true rfl⟩) (fun r1348 u1346 H locs hw1347 hP hD hS => ?_)
  obtain rfl : r1348 = 0 := hw1347
  have hP : va_P D classes [(h0, .inr (12, [.int 0, .int 1, .int 1, .ref q562, .ref q571, .ref q574, .ref q577, .ref q580, .ref q583, .ref q586, .int 0, .int (-1), .int 0, .int 0, .long 0, .ref q599, .ref q600, .ref q601, .ref q602]))] H := hP
  have hD : va_D A [(h0, .inr (12, [.int 0, .int 1, .int 1, .ref q562, .ref q571, .ref q574, .ref q577, .ref q580, .ref q583, .ref q586, .int 0, .int (-1), .int 0, .int 0, .long 0, .ref q599, .ref q600, .ref q601, .ref q602]))] := hD
  refine W.widen (k := 0) (n := 0) (by omega) (by omega) ?_
  refine lv_if_eq (tgt := 52) hx hb d_Mod_frame_21 (by decide) (fun c_1349 => ?_) (fun c_1349 => absurd c_1349 (by decide))
  refine lv_iconst (v := 0) hx hb d_Mod_frame_52 (by decide) ?_
  refine lv_istore (lv' := [(4, .int 0), (0, .ref h0), (1, .int w), (2, .int h), (3, .int sd)]) hx hb d_Mod_frame_53 hl (by decide) rfl (fun ls hl => ?_)
  refine lv_aload_n hx hb d_Mod_frame_55 rfl (lv_at hl 1 rfl) ?_
  refine lv_iload hx hb d_Mod_frame_56 (lv_at hl 0 rfl) ?_
  refine lv_if_ne (tgt := 65) hx hb d_Mod_frame_58 (by decide) (fun c_1350 => absurd c_1350 (by decide)) (fun c_1350 => ?_)
  refine lv_iconst (v := 1) hx hb d_Mod_frame_61 (by decide) ?_
  refine lv_goto (tgt := 66) hx hb d_Mod_frame_62 (by decide) ?_
  refine lv_iconst (v := 0) hx hb d_Mod_frame_66 (by decide) ?_
  refine wc_i (wr := []) hC hP hD hS [0] [] rfl rfl (by decide) (by decide) (va_runV (As := [.int 1, .int 0]) (rest := []) ⟨hx, hb, hml, hown, htw⟩ (c_Mref_10 l D cI cL B _ h0 q562 q571 q574 q577 q580 q583 q586 q599 q600 q601 q602) (cwV 2 htw gV_Mod_94 rfl rfl rfl (by decide +kernel) ⟨Nat.le_of_ble_eq_true rfl, Nat.le_of_ble_eq_true rfl⟩) (wC_preV (As := [.int 1, .int 0]) hC hP hD hS [0] (by decide) rfl (q0 := 0) rfl rfl) rfl rfl hl.1 rfl (lv_room (Nat.le_of_ble_eq_true rfl)) d_Mod_frame_67 ⟨Nat.le_of_ble_eq_true rfl, Nat.le_of_ble_eq_true rfl⟩) (fun r1353 u1351 H locs hw1352 hP hD hS => ?_)
  obtain rfl : r1353 = 1 := hw1352
  have hP : va_P D classes [(h0, .inr (12, [.int 1, .int 1, .int 1, .ref q562, .ref q571, .ref q574, .ref q577, .ref q580, .ref q583, .ref q586, .int 0, .int (-1), .int 0, .int 0, .long 0, .ref q599, .ref q600, .ref q601, .ref q602]))] H := hP
  have hD : va_D A [(h0, .inr (12, [.int 1, .int 1, .int 1, .ref q562, .ref q571, .ref q574, .ref q577, .ref q580, .ref q583, .ref q586, .int 0, .int (-1), .int 0, .int 0, .long 0, .ref q599, .ref q600, .ref q601, .ref q602]))] := hD
  refine W.widen (k := 0) (n := 0) (by omega) (by omega) ?_
  refine lv_if_eq (tgt := 75) hx hb d_Mod_frame_70 (by decide) (fun c_1354 => absurd c_1354 (by decide)) (fun c_1354 => ?_)
  refine lv_iconst (v := 0) hx hb d_Mod_frame_73 (by decide) ?_
  refine W.widen (k := 0) (n := 0) (Nat.le_of_ble_eq_true rfl) (Nat.le_of_ble_eq_true rfl) ?_
  have hP9 := hP.sub (ws' := [(h0, .inr (12, [.int 1, .int 1, .int 1, .ref q562, .ref q571, .ref q574, .ref q577, .ref q580, .ref q583, .ref q586, .int 0, .int (-1), .int 0, .int 0, .long 0, .ref q599, .ref q600, .ref q601, .ref q602]))]) [0] rfl
  have hD9 := hD.sub (ws' := [(h0, .inr (12, [.int 1, .int 1, .int 1, .ref q562, .ref q571, .ref q574, .ref q577, .ref q580, .ref q583, .ref q586, .int 0, .int (-1), .int 0, .int 0, .long 0, .ref q599, .ref q600, .ref q601, .ref q602]))]) [0] (by decide) rfl
  exact W.iret (v := 0) hx hb hr (fun t ht hW => ⟨⟨0, (), rfl, rfl, by rw [ht]; exact hP9, va_K.moved hW.alike hC.1, hD9⟩, hS.F ht⟩) hS.2.2 d_Mod_frame_74

set_option maxHeartbeats 4000000 in
set_option maxRecDepth 100000 in
theorem c_Mframe_b3 (l : Launch) (D : va_G) (cI cL : ClassId) (B sz : Nat) (h0 : Nat) (q562 : Nat) (q571 : Nat) (q574 : Nat) (q577 : Nat) (q580 : Nat) (q583 : Nat) (q586 : Nat) (q599 : Nat) (q600 : Nat) (q601 : Nat) (q602 : Nat) (w : Int32) (h : Int32) (sd : Int32) (h1 : ¬ w < 1) (h2 : ¬ 128 < w) (h3 : ¬ h < 1) (h4 : ¬ 128 < h) (hs : ¬ (sd = 8 ∨ sd = 16 ∨ sd = 32 ∨ sd = 64)) : Met l y_Mod_frame ((Cond.code y_Mod_frame prog_14_method_5_code 5 (some .int)) :: tw) ({ frames := 50, cells := 0, slots := 0, locals := 5000 }) (va_Pc [.ref h0, .int w, .int h, .int sd] (wP D cI cL B sz [(h0, .inr (12, [.int 0, .int 1, .int 1, .ref q562, .ref q571, .ref q574, .ref q577, .ref q580, .ref q583, .ref q586, .int 0, .int (-1), .int 0, .int 0, .long 0, .ref q599, .ref q600, .ref q601, .ref q602]))])) (va_Qi (S := Unit) (fun r u => r = 0) (fun u => wB D cI cL (va_A [(h0, .inr (12, [.int 0, .int 1, .int 1, .ref q562, .ref q571, .ref q574, .ref q577, .ref q580, .ref q583, .ref q586, .int 0, .int (-1), .int 0, .int 0, .long 0, .ref q599, .ref q600, .ref q601, .ref q602]))] sz) ((fun _ : Unit => [(h0, .inr (12, [.int 1, .int 1, .int 1, .ref q562, .ref q571, .ref q574, .ref q577, .ref q580, .ref q583, .ref q586, .int 0, .int (-1), .int 0, .int 0, .long 0, .ref q599, .ref q600, .ref q601, .ref q602]))]) u)) (va_A [(h0, .inr (12, [.int 0, .int 1, .int 1, .ref q562, .ref q571, .ref q574, .ref q577, .ref q580, .ref q583, .ref q586, .int 0, .int (-1), .int 0, .int 0, .long 0, .ref q599, .ref q600, .ref q601, .ref q602]))] sz)) 0 0 (va_A [(h0, .inr (12, [.int 0, .int 1, .int 1, .ref q562, .ref q571, .ref q574, .ref q577, .ref q580, .ref q583, .ref q586, .int 0, .int (-1), .int 0, .int 0, .long 0, .ref q599, .ref q600, .ref q601, .ref q602]))] sz) := by
  refine Met.ofW (cc := prog_14_method_5_code) (maxL := 5) (ret := (some .int)) (by decide) rfl ?_
  intro p e s m args below meth c s₁ B0 hml hv
  obtain ⟨rfl, hv⟩ := hv
  have hx := B0.exec
  have hb := B0.bytes
  have hr := B0.returns
  have hts := atoms_spec (ws := (Cond.code y_Mod_frame prog_14_method_5_code 5 (some .int)) :: tw) B0.pre
  have htw : ∀ w ∈ tw, w.before _ s = true := fun w hw => hts w (List.mem_cons_of_mem _ hw)
  have hown : s.vm.findClass "DrawingMachineModel" = some m.cls := findClass_of_methodNamed B0.named
  have hlocks := B0.notSynchronized
  obtain ⟨hC, hP, hD, hsz⟩ := wC_init hv
  subst hsz
  generalize hAe : va_A [(h0, .inr (12, [.int 0, .int 1, .int 1, .ref q562, .ref q571, .ref q574, .ref q577, .ref q580, .ref q583, .ref q586, .int 0, .int (-1), .int 0, .int 0, .long 0, .ref q599, .ref q600, .ref q601, .ref q602]))] s.heap.size = A at hC hD ⊢
  have hS : va_S A s.heap s.heap [] := va_S.rf
  have hl := lv_entry ([.ref h0, .int w, .int h, .int sd]) (n := 5) (Nat.le_of_ble_eq_true rfl)
  rw [lg_entry_eq]
  generalize (lg_sl ([.ref h0, .int w, .int h, .int sd]) ++ List.replicate (5 - (lg_sl ([.ref h0, .int w, .int h, .int sd])).length) Slot.unset).toArray = ls at hl ⊢
  have hl : lv_has ls 5 [(0, .ref h0), (1, .int w), (2, .int h), (3, .int sd)] := hl
  refine lv_iload_n hx hb d_Mod_frame_0 rfl (lv_at hl 1 rfl) ?_
  refine lv_i2l (v := w.toInt64) hx hb d_Mod_frame_1 rfl ?_
  refine lv_lconst (v := 1) hx hb d_Mod_frame_2 (by decide) ?_
  refine lv_ldc2 (v := 128) hx hb hown (htw _ k630) d_Mod_frame_3 ?_
  refine wc_i (wr := [(h0, .inr (12, [.int 0, .int 1, .int 1, .ref q562, .ref q571, .ref q574, .ref q577, .ref q580, .ref q583, .ref q586, .int 0, .int (-1), .int 0, .int 0, .long 0, .ref q599, .ref q600, .ref q601, .ref q602]))]) hC hP hD hS [] [0] rfl rfl (by decide) (by decide) (va_runS (As := [.long w.toInt64, .long 1, .long 128]) (rest := []) ⟨hx, hb, hml, hown, htw⟩ (c_Mod_in_t l D cI cL B _ w.toInt64 1 128 (good_lo 1 (by decide) h1) (good_hi 128 (by decide) h2)) (va_cwS 3 htw gS_Mod_90 rfl rfl rfl (by decide +kernel) ⟨Nat.le_of_ble_eq_true rfl, Nat.le_of_ble_eq_true rfl⟩) (wC_pre hC hP hD hS [] (by decide) rfl) rfl rfl hl.1 rfl (lv_room (Nat.le_of_ble_eq_true rfl)) d_Mod_frame_6 ⟨Nat.le_of_ble_eq_true rfl, Nat.le_of_ble_eq_true rfl⟩) (fun r1357 u1355 H locs hw1356 hP hD hS => ?_)
  obtain rfl : r1357 = 1 := hw1356
  have hP : va_P D classes [(h0, .inr (12, [.int 0, .int 1, .int 1, .ref q562, .ref q571, .ref q574, .ref q577, .ref q580, .ref q583, .ref q586, .int 0, .int (-1), .int 0, .int 0, .long 0, .ref q599, .ref q600, .ref q601, .ref q602]))] H := hP
  have hD : va_D A [(h0, .inr (12, [.int 0, .int 1, .int 1, .ref q562, .ref q571, .ref q574, .ref q577, .ref q580, .ref q583, .ref q586, .int 0, .int (-1), .int 0, .int 0, .long 0, .ref q599, .ref q600, .ref q601, .ref q602]))] := hD
  refine W.widen (k := 0) (n := 0) (by omega) (by omega) ?_
  refine lv_if_eq (tgt := 52) hx hb d_Mod_frame_9 (by decide) (fun c_1358 => absurd c_1358 (by decide)) (fun c_1358 => ?_)
  refine lv_iload_n hx hb d_Mod_frame_12 rfl (lv_at hl 2 rfl) ?_
  refine lv_i2l (v := h.toInt64) hx hb d_Mod_frame_13 rfl ?_
  refine lv_lconst (v := 1) hx hb d_Mod_frame_14 (by decide) ?_
  refine lv_ldc2 (v := 128) hx hb hown (htw _ k630) d_Mod_frame_15 ?_
  refine wc_i (wr := [(h0, .inr (12, [.int 0, .int 1, .int 1, .ref q562, .ref q571, .ref q574, .ref q577, .ref q580, .ref q583, .ref q586, .int 0, .int (-1), .int 0, .int 0, .long 0, .ref q599, .ref q600, .ref q601, .ref q602]))]) hC hP hD hS [] [0] rfl rfl (by decide) (by decide) (va_runS (As := [.long h.toInt64, .long 1, .long 128]) (rest := []) ⟨hx, hb, hml, hown, htw⟩ (c_Mod_in_t l D cI cL B _ h.toInt64 1 128 (good_lo 1 (by decide) h3) (good_hi 128 (by decide) h4)) (va_cwS 3 htw gS_Mod_90 rfl rfl rfl (by decide +kernel) ⟨Nat.le_of_ble_eq_true rfl, Nat.le_of_ble_eq_true rfl⟩) (wC_pre hC hP hD hS [] (by decide) rfl) rfl rfl hl.1 rfl (lv_room (Nat.le_of_ble_eq_true rfl)) d_Mod_frame_18 ⟨Nat.le_of_ble_eq_true rfl, Nat.le_of_ble_eq_true rfl⟩) (fun r1361 u1359 H locs hw1360 hP hD hS => ?_)
  obtain rfl : r1361 = 1 := hw1360
  have hP : va_P D classes [(h0, .inr (12, [.int 0, .int 1, .int 1, .ref q562, .ref q571, .ref q574, .ref q577, .ref q580, .ref q583, .ref q586, .int 0, .int (-1), .int 0, .int 0, .long 0, .ref q599, .ref q600, .ref q601, .ref q602]))] H := hP
  have hD : va_D A [(h0, .inr (12, [.int 0, .int 1, .int 1, .ref q562, .ref q571, .ref q574, .ref q577, .ref q580, .ref q583, .ref q586, .int 0, .int (-1), .int 0, .int 0, .long 0, .ref q599, .ref q600, .ref q601, .ref q602]))] := hD
  refine W.widen (k := 0) (n := 0) (by omega) (by omega) ?_
  refine lv_if_eq (tgt := 52) hx hb d_Mod_frame_21 (by decide) (fun c_1362 => absurd c_1362 (by decide)) (fun c_1362 => ?_)
  refine lv_iload_n hx hb d_Mod_frame_24 rfl (lv_at hl 3 rfl) ?_
  refine lv_bipush (v := 8) hx hb d_Mod_frame_25 (by decide) ?_
  refine lv_icmp_eq (tgt := 48) hx hb d_Mod_frame_27 (by decide) (fun c_1363 => absurd (Or.inl c_1363) hs) (fun c_1363 => ?_)
  refine lv_iload_n hx hb d_Mod_frame_30 rfl (lv_at hl 3 rfl) ?_
  refine lv_bipush (v := 16) hx hb d_Mod_frame_31 (by decide) ?_
  refine lv_icmp_eq (tgt := 48) hx hb d_Mod_frame_33 (by decide) (fun c_1364 => absurd (Or.inr (Or.inl c_1364)) hs) (fun c_1364 => ?_)
  refine lv_iload_n hx hb d_Mod_frame_36 rfl (lv_at hl 3 rfl) ?_
  refine lv_bipush (v := 32) hx hb d_Mod_frame_37 (by decide) ?_
  refine lv_icmp_eq (tgt := 48) hx hb d_Mod_frame_39 (by decide) (fun c_1365 => absurd (Or.inr (Or.inr (Or.inl c_1365))) hs) (fun c_1365 => ?_)
  refine lv_iload_n hx hb d_Mod_frame_42 rfl (lv_at hl 3 rfl) ?_
  refine lv_bipush (v := 64) hx hb d_Mod_frame_43 (by decide) ?_
  refine lv_icmp_ne (tgt := 52) hx hb d_Mod_frame_45 (by decide) (fun c_1366 => ?_) (fun c_1366 => absurd (Or.inr (Or.inr (Or.inr c_1366))) hs)
  refine lv_iconst (v := 0) hx hb d_Mod_frame_52 (by decide) ?_
  refine lv_istore (lv' := [(4, .int 0), (0, .ref h0), (1, .int w), (2, .int h), (3, .int sd)]) hx hb d_Mod_frame_53 hl (by decide) rfl (fun ls hl => ?_)
  refine lv_aload_n hx hb d_Mod_frame_55 rfl (lv_at hl 1 rfl) ?_
  refine lv_iload hx hb d_Mod_frame_56 (lv_at hl 0 rfl) ?_
  refine lv_if_ne (tgt := 65) hx hb d_Mod_frame_58 (by decide) (fun c_1367 => absurd c_1367 (by decide)) (fun c_1367 => ?_)
  refine lv_iconst (v := 1) hx hb d_Mod_frame_61 (by decide) ?_
  refine lv_goto (tgt := 66) hx hb d_Mod_frame_62 (by decide) ?_
  refine lv_iconst (v := 0) hx hb d_Mod_frame_66 (by decide) ?_
  refine wc_i (wr := []) hC hP hD hS [0] [] rfl rfl (by decide) (by decide) (va_runV (As := [.int 1, .int 0]) (rest := []) ⟨hx, hb, hml, hown, htw⟩ (c_Mref_10 l D cI cL B _ h0 q562 q571 q574 q577 q580 q583 q586 q599 q600 q601 q602) (cwV 2 htw gV_Mod_94 rfl rfl rfl (by decide +kernel) ⟨Nat.le_of_ble_eq_true rfl, Nat.le_of_ble_eq_true rfl⟩) (wC_preV (As := [.int 1, .int 0]) hC hP hD hS [0] (by decide) rfl (q0 := 0) rfl rfl) rfl rfl hl.1 rfl (lv_room (Nat.le_of_ble_eq_true rfl)) d_Mod_frame_67 ⟨Nat.le_of_ble_eq_true rfl, Nat.le_of_ble_eq_true rfl⟩) (fun r1370 u1368 H locs hw1369 hP hD hS => ?_)
  obtain rfl : r1370 = 1 := hw1369
  have hP : va_P D classes [(h0, .inr (12, [.int 1, .int 1, .int 1, .ref q562, .ref q571, .ref q574, .ref q577, .ref q580, .ref q583, .ref q586, .int 0, .int (-1), .int 0, .int 0, .long 0, .ref q599, .ref q600, .ref q601, .ref q602]))] H := hP
  have hD : va_D A [(h0, .inr (12, [.int 1, .int 1, .int 1, .ref q562, .ref q571, .ref q574, .ref q577, .ref q580, .ref q583, .ref q586, .int 0, .int (-1), .int 0, .int 0, .long 0, .ref q599, .ref q600, .ref q601, .ref q602]))] := hD
  refine W.widen (k := 0) (n := 0) (by omega) (by omega) ?_
  refine lv_if_eq (tgt := 75) hx hb d_Mod_frame_70 (by decide) (fun c_1371 => absurd c_1371 (by decide)) (fun c_1371 => ?_)
  refine lv_iconst (v := 0) hx hb d_Mod_frame_73 (by decide) ?_
  refine W.widen (k := 0) (n := 0) (Nat.le_of_ble_eq_true rfl) (Nat.le_of_ble_eq_true rfl) ?_
  have hP9 := hP.sub (ws' := [(h0, .inr (12, [.int 1, .int 1, .int 1, .ref q562, .ref q571, .ref q574, .ref q577, .ref q580, .ref q583, .ref q586, .int 0, .int (-1), .int 0, .int 0, .long 0, .ref q599, .ref q600, .ref q601, .ref q602]))]) [0] rfl
  have hD9 := hD.sub (ws' := [(h0, .inr (12, [.int 1, .int 1, .int 1, .ref q562, .ref q571, .ref q574, .ref q577, .ref q580, .ref q583, .ref q586, .int 0, .int (-1), .int 0, .int 0, .long 0, .ref q599, .ref q600, .ref q601, .ref q602]))]) [0] (by decide) rfl
  exact W.iret (v := 0) hx hb hr (fun t ht hW => ⟨⟨0, (), rfl, rfl, by rw [ht]; exact hP9, va_K.moved hW.alike hC.1, hD9⟩, hS.F ht⟩) hS.2.2 d_Mod_frame_74
